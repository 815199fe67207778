/-! ===== symbols, the model's ===== -/
def SMr : Nat → Nat → Bool := fun a i => (a == 92 && (i == 9 || i == 14 || i == 21 || decide (40 ≤ i ∧ i ≤ 45) || i == 49 || i == 51)) || decide (97 ≤ a ∧ a ≤ 108) || decide (124 ≤ a ∧ a ≤ 127)
theorem Sadv_SMr : ∀ a i, SMr a i = false → Sadv a i = false := by intro a i h; simp [SMr, Sadv] at *; omega
def SMy : Nat → Nat → Bool := fun a i => (a == 92 && (i == 9 || decide (40 ≤ i ∧ i ≤ 44))) || decide (97 ≤ a ∧ a ≤ 100)
theorem Sadv_SMy : ∀ a i, SMy a i = false → Sadv a i = false := by intro a i h; simp [SMy, Sadv] at *; omega
theorem SMy_SMr : ∀ a i, SMr a i = false → SMy a i = false := by intro a i h; simp [SMy, SMr] at *; omega
def SD (A lo : Nat) : Nat → Nat → Bool := fun a i => (a == A && decide (lo ≤ i ∧ i < lo + 8)) || Sadv a i
def MSy (σ : ab_S) (G : SYT) : Prop := σ.2.1 92 9 = nI G.1 ∧ ∀ s, s < G.1 → (∀ k, k < 8 → σ.2.1 97 (8 * s + k) = nI ((G.2.1 s).getD k 0)) ∧ σ.2.1 99 s = nI (G.2.2.1 s) ∧ σ.2.1 100 s = bm (G.2.2.2.1 s) (G.2.2.1 s) ∧ ∀ a, a < G.2.2.1 s → ∀ k, k < 8 → σ.2.1 98 (64 * s + 8 * a + k) = nI ((G.2.2.2.2 s a).getD k 0)
theorem MSy.fm {S : Nat → Nat → Bool} {σ σ' : ab_S} {G : SYT} (h : MSy σ G) (f : FM S σ σ') (s0 : S 92 9 = false) (s1 : ∀ i, S 97 i = false) (s2 : ∀ i, S 98 i = false) (s3 : ∀ i, S 99 i = false) (s4 : ∀ i, S 100 i = false) : MSy σ' G := by
  refine ⟨by rw [f.1 92 9 s0]; exact h.1, fun s hs => ?_⟩
  obtain ⟨a, b, c, d⟩ := h.2 s hs
  exact ⟨fun k hk => by rw [f.1 97 _ (s1 _)]; exact a k hk, by rw [f.1 99 _ (s3 _)]; exact b, by rw [f.1 100 _ (s4 _)]; exact c, fun x hx k hk => by rw [f.1 98 _ (s2 _)]; exact d x hx k hk⟩
theorem MSy.adv {σ σ' : ab_S} {G : SYT} (h : MSy σ G) (f : FM Sadv σ σ') : MSy σ' G := h.fm f rfl (fun _ => rfl) (fun _ => rfl) (fun _ => rfl) (fun _ => rfl)
theorem MOk.fm {S : Nat → Nat → Bool} {σ σ' : ab_S} (h : MOk σ) (f : FM S σ σ') (s : S 92 44 = false) : MOk σ' := by unfold MOk; rw [f.1 92 44 s]; exact h
theorem word_k : ∀ k, k < 128 → vk k = true → ∀ w, w < 7 → 0 < w → (mwd k = w ↔ k = w + 3) := by decide +kernel
section ML
variable {σ : ab_S} {t : Nat → Nat} {n q : Nat} {G : SYT} {E : String → ab_S → Prop}
theorem m_declL (hS : MS σ t n q) {A An from' N : Nat} (hA : A ≠ 92 ∧ A ≠ 94 ∧ A ≠ 96) (hb : from' + 8 * N + 8 ≤ An) (hn8 : An < 4000) {Q : ab_S → Prop} {K : ab_S → Prop} : ∀ f k τ, 8 - k = f → k ≤ 8 → FM (SD A (from' + 8 * N)) σ τ → MS τ t n q → (∀ m, m < k → τ.2.1 A (from' + 8 * N + m) = nI ((nml t n q).getD m 0)) → (∀ σ', FM (SD A (from' + 8 * N)) σ σ' → MS σ' t n q → (∀ m, m < 8 → σ'.2.1 A (from' + 8 * N + m) = nI ((nml t n q).getD m 0)) → K σ') → wX12_declare_l37 A An (nI from') (nI N) Q E K (f + 1) (nI k) τ := by
  intro f
  induction f with
  | zero =>
    intro k τ hf hk hF hM hr h
    exact yes (by simp (disch := omega) only [nI_lit, nI_add, nI_mulE, nI_clampE, nI_eqE, nI_leE, nI_ltE, vp_nIE, true_and, and_true]; omega) (h τ hF hM (fun m hm => hr m (by omega)))
  | succ f ih =>
    intro k τ hf hk hF hM hr h
    have hM2 := hM
    obtain ⟨hT, hqn, h41, h42, h40, h43⟩ := hM2
    have hn := hT.1
    have hte := tkE_le (t := t) hqn
    have e8 : nI from' + 8 * nI N + nI k = nI (from' + 8 * N + k) := by show nI from' + nI 8 * nI N + nI k = _; rw [nI_mulE, nI_add, nI_add]
    show wX12_declare_l37_b A An (nI from') (nI N) Q E K (wX12_declare_l37 A An (nI from') (nI N) Q E K (f + 1)) (nI k) τ
    unfold wX12_declare_l37_b
    refine no (by simp (disch := omega) only [nI_lit, nI_add, nI_mulE, nI_clampE, nI_eqE, nI_leE, nI_ltE, vp_nIE, true_and, and_true]; omega) ?_
    rw [e8, h41, h42, nI_add]
    have hch := nm_ch hM (k := k)
    have fin : ∀ c : Nat, c = (nml t n q).getD k 0 → wX12_declare_j84 A An (nI from') (nI N) Q E K (wX12_declare_l37 A An (nI from') (nI N) Q E K (f + 1)) (nI k) (nI c) (nI (from' + 8 * N + k)) τ := by
      intro c hc
      unfold wX12_declare_j84
      refine ⟨by simp (disch := omega) only [nI_lit, nI_add, nI_mulE, nI_clampE, nI_eqE, nI_leE, nI_ltE, vp_nIE, true_and, and_true]; omega, ?_⟩
      rw [nI_clampE (by omega)]
      refine fe (fe ?_)
      rw [nI_1]
      have hF2 : FM (SD A (from' + 8 * N)) τ (ab_I τ A (from' + 8 * N + k) (nI c)) := (FM.rf _ τ).I (by simp [SD]; omega)
      have sA : ∀ a i, a ≠ A → (SD A (from' + 8 * N)) a i = Sadv a i := by intro a i ha; simp [SD, ha]
      refine ih (k + 1) _ (by omega) (by omega) (hF.tr hF2) ?_ (fun m hm => ?_) h
      · refine hM.fm (S := fun a i => a == A) ((FM.rf _ τ).I (by simp)) ?_ ?_ ?_ ?_ ?_ ?_ ?_
        all_goals first | (intro i; simp; omega) | (simp; omega)
      · rw [gI_I, if_pos rfl]
        by_cases em : m = k
        · rw [em, if_pos rfl, hc]
        · rw [if_neg (by omega)]; exact hr m (by omega)
    by_cases hq : q + k < tkE t n q
    · rw [if_pos hq] at hch
      refine no (by simp (disch := omega) only [nI_lit, nI_add, nI_mulE, nI_clampE, nI_eqE, nI_leE, nI_ltE, vp_nIE, true_and, and_true]; omega) ⟨by simp (disch := omega) only [nI_lit, nI_add, nI_mulE, nI_clampE, nI_eqE, nI_leE, nI_ltE, vp_nIE, true_and, and_true]; omega, ?_⟩
      rw [nI_clampE (by omega), (hT.2.2.1 (q + k) (by omega)).1]
      exact fin _ hch.symm
    · rw [if_neg hq] at hch
      exact yes (by simp (disch := omega) only [nI_lit, nI_add, nI_mulE, nI_clampE, nI_eqE, nI_leE, nI_ltE, vp_nIE, true_and, and_true]; omega) (fin 0 hch.symm)
theorem m_decl (hS : MS σ t n q) (hG : MOk σ) {A An from' N : Nat} (hA : A ≠ 92 ∧ A ≠ 94 ∧ A ≠ 96) (hb : from' + 8 * N + 8 ≤ An) (hn8 : An < 4000) {nm : Nat → List Nat} (hr : ∀ i, i < N → (∀ k, k < 8 → σ.2.1 A (from' + 8 * i + k) = nI ((nm i).getD k 0)) ∧ VL (nm i)) (hu : UQ nm N) {Q : ab_S → Prop} (h1 : tkK t n q = 2 → fi nm N (nml t n q) = N → ∀ σ', FM (SD A (from' + 8 * N)) σ σ' → MS σ' t n (nx t n q) → (∀ m, m < 8 → σ'.2.1 A (from' + 8 * N + m) = nI ((nml t n q).getD m 0)) → Q σ') (h0 : ¬ (tkK t n q = 2 ∧ fi nm N (nml t n q) = N) → Q (ab_I σ 92 44 (nI q))) : wX12_declare A An (nI from') (nI N) Q E σ := by
  have hS2 := hS
  obtain ⟨hT, hqn, h41, h42, h40, h43⟩ := hS2
  have hm := mk_lt (tkK t n q) tkK_lt
  have k2 := kind2 _ (tkK_lt (t := t) (n := n) (q := q)) (tkK_vk t n q)
  unfold wX12_declare
  rw [h40, h43]
  have bad : ¬ (tkK t n q = 2 ∧ fi nm N (nml t n q) = N) → wX12_declare_j25 A An (nI from') (nI N) Q E σ := by
    intro z
    unfold wX12_declare_j25
    rw [h41]
    exact m_failY hG (h0 z)
  by_cases hk : tkK t n q = 2
  · obtain ⟨a, b⟩ := k2.mpr hk
    rw [a, b]
    refine no (fun z => z rfl) (no (by decide) ?_)
    refine m_find hS hk (by omega) (by omega) hr hu ?_
    by_cases kf : fi nm N (nml t n q) = N
    · rw [fiI_no kf]
      refine yes (by decide) ⟨9, ?_⟩
      refine m_declL (σ := σ) hS hA hb hn8 8 0 σ rfl (by omega) (FM.rf _ _) hS (fun m hm => absurd hm (by omega)) (fun σ1 f1 s1 r1 => ?_)
      unfold wX12_declare_j91
      refine m_next s1 (fun σ2 f2 s2 => h1 hk kf σ2 ?_ s2 (fun m hm => ?_))
      · exact f1.tr (f2.mono (by intro a i z; simp [SD] at z; exact z.2))
      · rw [f2.1 A _ (by simp [Sadv]; omega)]; exact r1 m hm
    · have := fiI_ne kf (by omega)
      refine no ?_ (bad (fun z => kf z.2))
      unfold fiI
      rw [if_pos this.2]
      exact nI_pos (by omega)
  · by_cases h1k : mk (tkK t n q) = 1
    · refine no (by rw [h1k]; exact fun z => z rfl) ?_
      have : mwd (tkK t n q) ≠ 0 := fun z => hk (k2.mp ⟨h1k, z⟩)
      exact yes (by simp (disch := omega) only [nI_lit, nI_add, nI_mulE, nI_clampE, nI_eqE, nI_leE, nI_ltE, vp_nIE, true_and, and_true]; omega) (bad (fun z => hk z.1))
    · exact yes (by simp (disch := omega) only [nI_lit, nI_add, nI_mulE, nI_clampE, nI_eqE, nI_leE, nI_ltE, vp_nIE, true_and, and_true]; exact h1k) (bad (fun z => hk z.1))
theorem MSy_A {σ' : ab_S} {s : Nat} {d : Bool} {l : List Nat} (hC : MSy σ G) (hV : GV G) (hs : s < G.1) (h8 : G.2.2.1 s < 8) (e9 : σ'.2.1 92 9 = σ.2.1 92 9) (e97 : ∀ i, σ'.2.1 97 i = σ.2.1 97 i) (e99 : ∀ i, i ≠ s → σ'.2.1 99 i = σ.2.1 99 i) (e100 : ∀ i, i ≠ s → σ'.2.1 100 i = σ.2.1 100 i) (e98 : ∀ i, ¬ (64 * s + 8 * G.2.2.1 s ≤ i ∧ i < 64 * s + 8 * G.2.2.1 s + 8) → σ'.2.1 98 i = σ.2.1 98 i) (n98 : ∀ m, m < 8 → σ'.2.1 98 (64 * s + 8 * G.2.2.1 s + m) = nI (l.getD m 0)) (n99 : σ'.2.1 99 s = nI (G.2.2.1 s + 1)) (n100 : σ'.2.1 100 s = bm (uf (G.2.2.2.1 s) (G.2.2.1 s) d) (G.2.2.1 s + 1)) : MSy σ' (gA G s l d) := by
  refine ⟨by rw [e9]; exact hC.1, fun s' hs' => ?_⟩
  have hs' : s' < G.1 := hs'
  obtain ⟨a, b, c, dd⟩ := hC.2 s' hs'
  have h8' := (hV.2.2 s' hs').2.1
  refine ⟨fun k hk => by rw [e97]; exact a k hk, ?_, ?_, fun x hx k hk => ?_⟩
  · by_cases e : s' = s
    · rw [e, n99]; simp [gA, uf_s]
    · rw [e99 s' e, b]; simp [gA, uf_o _ _ e]
  · by_cases e : s' = s
    · rw [e, n100]; simp [gA, uf_s]
    · rw [e100 s' e, c]; simp [gA, uf_o _ _ e]
  · have hx : x < uf G.2.2.1 s (G.2.2.1 s + 1) s' := hx
    by_cases e : s' = s
    · subst e
      rw [uf_s] at hx
      by_cases ex : x = G.2.2.1 s'
      · subst ex; rw [n98 k hk]; simp [gA, uf_s]
      · rw [e98 _ (by omega), dd x (by omega) k hk]; simp [gA, uf_s, uf_o _ _ ex]
    · rw [uf_o _ _ e] at hx
      rw [e98 _ (by omega), dd x hx k hk]; simp [gA, uf_o _ _ e]
theorem m_at {s : Nat} {d : Bool} {Q : ab_S → Prop} (σ0 : ab_S) : ∀ (f q : Nat) (σ : ab_S) (G : SYT), MS σ t n q → MOk σ → MSy σ G → GV G → s < G.1 → FM SMy σ0 σ → 9 ≤ G.2.2.1 s + f → ((pAt t n s d f q G).1 = true → ∀ σ', FM SMy σ0 σ' → MS σ' t n (pAt t n s d f q G).2.1 → MOk σ' → MSy σ' (pAt t n s d f q G).2.2 → GV (pAt t n s d f q G).2.2 → Q σ') → ((pAt t n s d f q G).1 = false → ∀ σ', FM SMy σ0 σ' → MBad σ' (pAt t n s d f q G).2.1 → Q σ') → wX12_attributeRow_l2 (nI s) (if d then 1 else 0) Q E (wX12_attributeRow_j24 (nI s) (if d then 1 else 0) Q E) (f + 1) 1 σ := by
  intro f
  induction f with
  | zero => intro q σ G _ _ _ hV hs _ h9; exact absurd (hV.2.2 s hs).2.1 (by omega)
  | succ f ih =>
    intro q σ G hS hG hC hV hs hF h9 h1 h0
    show wX12_attributeRow_l2_b (nI s) (if d then 1 else 0) Q E (wX12_attributeRow_j24 (nI s) (if d then 1 else 0) Q E) (wX12_attributeRow_l2 (nI s) (if d then 1 else 0) Q E (wX12_attributeRow_j24 (nI s) (if d then 1 else 0) Q E) (f + 1)) 1 σ
    unfold wX12_attributeRow_l2_b
    have h12 := hV.1
    have hvs := hV.2.2 s hs
    have hq24 : q ≤ 2400 := by have := hS.1.1; have := hS.2.1; omega
    have ev : vp_in (nI s) 13 := by simp (disch := omega) only [nI_lit, nI_add, nI_mulE, nI_clampE, nI_eqE, nI_leE, nI_ltE, vp_nIE, true_and, and_true]; omega
    have ec : (nI s).toNatClampNeg = s := nI_clampE (by omega)
    have e64 : (64 : Int32) * nI s = nI (64 * s) := by show nI 64 * nI s = _; rw [nI_mulE]
    refine no (by decide) (m_goodY hG (no (by decide) ⟨ev, ?_⟩))
    rw [ec, (hC.2 s hs).2.1]
    by_cases k8 : G.2.2.1 s = 8
    · refine no (by rw [k8]; exact fun z => z rfl) ?_
      unfold wX12_attributeRow_j24
      rw [hS.2.2.1]
      rw [show pAt t n s d (f + 1) q G = (false, q, G) by rw [pAt, if_neg (fun z => z.2.1 k8)]] at h0
      exact m_failY hG (h0 rfl _ (hF.I rfl) ⟨by simp [gI_I], hq24⟩)
    · refine yes (by have := hvs.2.1; simp (disch := omega) only [nI_lit, nI_add, nI_mulE, nI_clampE, nI_eqE, nI_leE, nI_ltE, vp_nIE, true_and, and_true]; exact k8) ⟨ev, ?_⟩
      rw [e64]
      refine m_decl (nm := G.2.2.2.2 s) hS hG (by omega) (by have := hvs.2.1; omega) (by omega) (fun i hi => ⟨(hC.2 s hs).2.2.2 i hi, hvs.2.2.2 i hi⟩) hvs.2.2.1 (fun k2 kf σ1 f1 s1 r1 => ?_) (fun hb => ?_)
      · have hw : tkK t n q = 2 ∧ G.2.2.1 s ≠ 8 ∧ fi (G.2.2.2.2 s) (G.2.2.1 s) (nml t n q) = G.2.2.1 s := ⟨k2, k8, kf⟩
        have hG1 : MOk σ1 := hG.fm f1 (by simp [SD, Sadv])
        have n99 : ∀ i, σ1.2.1 99 i = σ.2.1 99 i := fun i => f1.1 99 i (by simp [SD, Sadv])
        have n100 : ∀ i, σ1.2.1 100 i = σ.2.1 100 i := fun i => f1.1 100 i (by simp [SD, Sadv])
        have hk3 := tkK_lt (t := t) (n := n) (q := nx t n q)
        have hm3 := mk_lt _ hk3
        have eb : bm (uf (G.2.2.2.1 s) (G.2.2.1 s) d) (G.2.2.1 s) = bm (G.2.2.2.1 s) (G.2.2.1 s) := bm_congr (fun i hi => uf_o _ _ (by omega))
        have go : ∀ y : Int32, y = bm (uf (G.2.2.2.1 s) (G.2.2.1 s) d) (G.2.2.1 s + 1) → wX12_attributeRow_j91 (nI s) (if d then 1 else 0) Q E (wX12_attributeRow_j24 (nI s) (if d then 1 else 0) Q E) (wX12_attributeRow_l2 (nI s) (if d then 1 else 0) Q E (wX12_attributeRow_j24 (nI s) (if d then 1 else 0) Q E) (f + 1)) y σ1 := by
          intro y hy
          unfold wX12_attributeRow_j91
          rw [ec]
          refine ⟨ev, fe ⟨ev, ev, fe ?_⟩⟩
          rw [show (ab_I σ1 100 s y).2.1 99 s = nI (G.2.2.1 s) by simp [gI_I, n99, (hC.2 s hs).2.1], nI_1]
          have hF2 : FM SMy σ0 (ab_I (ab_I σ1 100 s y) 99 s (nI (G.2.2.1 s + 1))) := ((hF.tr (f1.mono (by intro a i z; simp [SMy, SD, Sadv] at *; omega))).I rfl).I rfl
          have hS2 : MS (ab_I (ab_I σ1 100 s y) 99 s (nI (G.2.2.1 s + 1))) t n (nx t n q) := s1.fm (S := fun a i => a == 99 || a == 100) (((FM.rf _ σ1).I rfl).I rfl) rfl (fun _ => rfl) (fun _ => rfl) rfl rfl rfl rfl
          have hG2 : MOk (ab_I (ab_I σ1 100 s y) 99 s (nI (G.2.2.1 s + 1))) := hG1
          have hC2 : MSy (ab_I (ab_I σ1 100 s y) 99 s (nI (G.2.2.1 s + 1))) (gA G s (nml t n q) d) := by
            refine MSy_A hC hV hs (by have := hvs.2.1; omega) ?_ (fun i => ?_) (fun i hi => ?_) (fun i hi => ?_) (fun i hi => ?_) (fun m hm => ?_) ?_ ?_
            · exact f1.1 92 9 (by simp [SD, Sadv])
            · exact f1.1 97 i (by simp [SD, Sadv])
            · simp [gI_I, hi, n99]
            · simp [gI_I, hi, n100]
            · have : σ1.2.1 98 i = σ.2.1 98 i := f1.1 98 i (by simp [SD, Sadv]; omega)
              simpa [gI_I] using this
            · have := r1 m hm
              simpa [gI_I] using this
            · simp [gI_I]
            · simp [gI_I, hy]
          have hV2 := GV_A (d := d) hV hs (nml_v k2).1 (by have := hvs.2.1; omega) kf
          refine m_goodY hG2 (no (by decide) ?_)
          rw [hS2.2.2.2.2.1]
          have h6 : mk (tkK t n (nx t n q)) = mk 44 ↔ tkK t n (nx t n q) = 44 := mk_inj _ hk3 (tkK_vk _ _ _) 44 (by omega) rfl
          by_cases kc : tkK t n (nx t n q) = 44
          · refine no (by rw [kc]; exact fun z => z rfl) ?_
            unfold wX12_attributeRow_j123
            refine no (by decide) (m_next hS2 (fun σ3 f3 s3 => ?_))
            have e : pAt t n s d (f + 1) q G = pAt t n s d f (nx t n (nx t n q)) (gA G s (nml t n q) d) := by rw [pAt, if_pos hw, if_pos kc]
            rw [e] at h1 h0
            have hcs : (gA G s (nml t n q) d).2.2.1 s = G.2.2.1 s + 1 := uf_s _ _ _
            exact ih _ σ3 _ s3 (hG2.fm f3 rfl) (hC2.adv f3) hV2 hs (hF2.tr (f3.mono Sadv_SMy)) (by omega) h1 h0
          · refine yes ?_ ?_
            · show ¬ nI (mk (tkK t n (nx t n q))) = nI (mk 44)
              rw [nI_eqE (by omega) (by decide), h6]; exact kc
            · unfold wX12_attributeRow_j122 wX12_attributeRow_j123
              refine yes rfl (yes rfl ?_)
              have e : pAt t n s d (f + 1) q G = (true, nx t n q, gA G s (nml t n q) d) := by rw [pAt, if_pos hw, if_neg kc]
              rw [e] at h1
              exact h1 rfl _ hF2 hS2 hG2 hC2 hV2
        cases d
        · refine yes rfl ?_
          unfold wX12_attributeRow_j85
          rw [ec]
          refine ⟨ev, go _ ?_⟩
          rw [n100, (hC.2 s hs).2.2.1, bm, uf_s, if_neg (by decide), eb]
        · refine no (by decide) (m_goodY hG1 (no (by decide) ⟨ev, ev, ?_⟩))
          refine go _ ?_
          rw [n100, n99, (hC.2 s hs).2.2.1, (hC.2 s hs).2.1, bm, uf_s, if_pos rfl, eb]
      · have e : pAt t n s d (f + 1) q G = (false, q, G) := by rw [pAt, if_neg (fun z => hb ⟨z.1, z.2.2⟩)]
        rw [e] at h0
        have hB : MBad (ab_I σ 92 44 (nI q)) q := ⟨by simp [gI_I], hq24⟩
        have go : ∀ (y : Int32), wX12_attributeRow_j91 (nI s) (if d then 1 else 0) Q E (wX12_attributeRow_j24 (nI s) (if d then 1 else 0) Q E) (wX12_attributeRow_l2 (nI s) (if d then 1 else 0) Q E (wX12_attributeRow_j24 (nI s) (if d then 1 else 0) Q E) (f + 1)) y (ab_I σ 92 44 (nI q)) := by
          intro y
          unfold wX12_attributeRow_j91
          rw [ec]
          refine ⟨ev, fe ⟨ev, ev, fe ?_⟩⟩
          refine m_goodN (f := q) ⟨by simp [gI_I], hq24⟩ (yes rfl ?_)
          unfold wX12_attributeRow_j122 wX12_attributeRow_j123
          refine yes rfl (yes rfl ?_)
          exact h0 rfl _ (((hF.I rfl).I rfl).I rfl) ⟨by simp [gI_I], hq24⟩
        cases d
        · refine yes rfl ?_
          unfold wX12_attributeRow_j85
          exact ⟨ev, go _⟩
        · refine no (by decide) (m_goodN hB (yes rfl ?_))
          unfold wX12_attributeRow_j85
          exact ⟨ev, go _⟩
theorem m_S3B {f : Nat} {Q : ab_S → Prop} (hB : MBad σ f) (h : Q σ) : wX12_symbolStatement_j124 Q E σ := m_needB hB h
theorem m_S3 {Q : ab_S → Prop} (σ0 : ab_S) (hS : MS σ t n q) (hG : MOk σ) (hC : MSy σ G) (hV : GV G) (hF : FM SMy σ0 σ) (h1 : (pS3 t n q G).1 = true → ∀ σ', FM SMy σ0 σ' → MS σ' t n (pS3 t n q G).2.1 → MOk σ' → MSy σ' (pS3 t n q G).2.2 → GV (pS3 t n q G).2.2 → Q σ') (h0 : (pS3 t n q G).1 = false → ∀ σ', FM SMy σ0 σ' → MBad σ' (pS3 t n q G).2.1 → Q σ') : wX12_symbolStatement_j124 Q E σ := by
  unfold wX12_symbolStatement_j124
  refine m_need (w := 59) hS hG (by omega) rfl rfl (fun k σ1 f1 s1 => ?_) (fun k => ?_)
  · rw [show pS3 t n q G = (true, nx t n q, G) by rw [pS3, if_pos k]] at h1
    exact h1 rfl σ1 (hF.tr (f1.mono Sadv_SMy)) s1 (hG.fm f1 rfl) (hC.adv f1) hV
  · rw [show pS3 t n q G = (false, q, G) by rw [pS3, if_neg k]] at h0
    exact h0 rfl _ (hF.I rfl) ⟨by simp [gI_I], Nat.le_trans hS.2.1 hS.1.1⟩
theorem m_S2B {f : Nat} {Q : ab_S → Prop} {x : Int32} (hB : MBad σ f) (h : Q σ) : wX12_symbolStatement_j99 Q E x σ := m_goodN hB (yes rfl (m_S3B hB h))
theorem m_S2 {Q : ab_S → Prop} (σ0 : ab_S) {s : Nat} (hs : s < G.1) (hS : MS σ t n q) (hG : MOk σ) (hC : MSy σ G) (hV : GV G) (hF : FM SMy σ0 σ) (h1 : (pS2 t n s q G).1 = true → ∀ σ', FM SMy σ0 σ' → MS σ' t n (pS2 t n s q G).2.1 → MOk σ' → MSy σ' (pS2 t n s q G).2.2 → GV (pS2 t n s q G).2.2 → Q σ') (h0 : (pS2 t n s q G).1 = false → ∀ σ', FM SMy σ0 σ' → MBad σ' (pS2 t n s q G).2.1 → Q σ') : wX12_symbolStatement_j99 Q E (nI s) σ := by
  have hk := tkK_lt (t := t) (n := n) (q := q)
  have hm := mk_lt _ hk
  unfold wX12_symbolStatement_j99
  refine m_goodY hG (no (by decide) ?_)
  rw [hS.2.2.2.2.2]
  have hw := word_k _ hk (tkK_vk t n q) 3 (by omega) (by omega)
  by_cases k : tkK t n q = 6
  · refine no (by rw [k]; exact fun z => z rfl) (m_next hS (fun σ1 f1 s1 => ⟨10, ?_⟩))
    refine m_at (d := false) σ0 9 _ σ1 G s1 (hG.fm f1 rfl) (hC.adv f1) hV hs (hF.tr (f1.mono Sadv_SMy)) (by omega) (fun hb σ2 F2 S2 G2 C2 V2 => ?_) (fun hb σ2 F2 B2 => ?_)
    · rw [show pS2 t n s q G = pS3 t n (pAt t n s false 9 (nx t n q) G).2.1 (pAt t n s false 9 (nx t n q) G).2.2 by rw [pS2, if_pos k, if_pos hb]] at h1 h0
      exact m_S3 σ0 S2 G2 C2 V2 F2 h1 h0
    · rw [show pS2 t n s q G = pAt t n s false 9 (nx t n q) G by rw [pS2, if_pos k, if_neg (by rw [hb]; decide)]] at h0
      exact m_S3B B2 (h0 hb σ2 F2 B2)
  · rw [show pS2 t n s q G = pS3 t n q G by rw [pS2, if_neg k]] at h1 h0
    refine yes ?_ (m_S3 σ0 hS hG hC hV hF h1 h0)
    show ¬ nI (mwd (tkK t n q)) = nI 3
    rw [nI_eqE (by omega) (by omega), hw]; exact k
theorem m_Sy {Q : ab_S → Prop} (σ0 : ab_S) (hS : MS σ t n q) (k4 : tkK t n q = 4) (hG : MOk σ) (hC : MSy σ G) (hV : GV G) (h12 : G.1 < 12) (hF : FM SMy σ0 σ) (h1 : (pSy t n q G).1 = true → ∀ σ', FM SMy σ0 σ' → MS σ' t n (pSy t n q G).2.1 → MOk σ' → MSy σ' (pSy t n q G).2.2 → GV (pSy t n q G).2.2 → Q σ') (h0 : (pSy t n q G).1 = false → ∀ σ', FM SMy σ0 σ' → MBad σ' (pSy t n q G).2.1 → Q σ') : wX12_symbolStatement Q E σ := by
  have ev : vp_in (nI G.1) 13 := by simp (disch := omega) only [nI_lit, nI_add, nI_mulE, nI_clampE, nI_eqE, nI_leE, nI_ltE, vp_nIE, true_and, and_true]; omega
  have ec : (nI G.1).toNatClampNeg = G.1 := nI_clampE (by omega)
  unfold wX12_symbolStatement
  rw [hC.1]
  refine yes (by simp (disch := omega) only [nI_lit, nI_add, nI_mulE, nI_clampE, nI_eqE, nI_leE, nI_ltE, vp_nIE, true_and, and_true]; omega) (m_next hS (fun σ1 f1 s1 => ?_))
  have hG1 := hG.fm f1 rfl
  have hC1 := hC.adv f1
  have hF1 := hF.tr (f1.mono Sadv_SMy)
  generalize hq1 : nx t n q = q1 at s1
  have hq24 : q1 ≤ 2400 := by have := s1.1.1; have := s1.2.1; omega
  rw [hC1.1]
  refine fe ⟨ev, ?_⟩
  rw [ec]
  refine fe ⟨ev, fe ?_⟩
  have hF2 : FM SMy σ0 (ab_I (ab_I σ1 99 G.1 0) 100 G.1 0) := (hF1.I rfl).I rfl
  have s2 : MS (ab_I (ab_I σ1 99 G.1 0) 100 G.1 0) t n q1 := s1.fm (S := fun a i => a == 99 || a == 100) (((FM.rf _ σ1).I rfl).I rfl) rfl (fun _ => rfl) (fun _ => rfl) rfl rfl rfl rfl
  have hG2 : MOk (ab_I (ab_I σ1 99 G.1 0) 100 G.1 0) := hG1
  refine m_decl (from' := 0) (nm := G.2.1) s2 hG2 (by omega) (by omega) (by omega) (fun i hi => ⟨fun k hk => ?_, (hV.2.2 i hi).1⟩) hV.2.1 (fun k2 kf σ3 f3 s3 r3 => ?_) (fun hb => ?_)
  · have := (hC1.2 i hi).1 k hk
    rw [Nat.zero_add]; simpa [gI_I] using this
  · have hV3 := GV_S hV (nml_v k2).1 h12 kf
    have hG3 : MOk σ3 := hG2.fm f3 (by simp [SD, Sadv])
    have e9 : σ3.2.1 92 9 = nI G.1 := (f3.1 92 9 (by simp [SD, Sadv])).trans hC1.1
    rw [e9, nI_1]
    refine fe ?_
    have hF4 : FM SMy σ0 (ab_I σ3 92 9 (nI (G.1 + 1))) := (hF2.tr (f3.mono (by intro a i z; simp [SMy, SD, Sadv] at *; omega))).I rfl
    have s4 : MS (ab_I σ3 92 9 (nI (G.1 + 1))) t n (nx t n q1) := s3.fm (S := fun a i => a == 92 && i == 9) ((FM.rf _ σ3).I rfl) rfl (fun _ => rfl) (fun _ => rfl) rfl rfl rfl rfl
    have hG4 : MOk (ab_I σ3 92 9 (nI (G.1 + 1))) := hG3
    have hC4 : MSy (ab_I σ3 92 9 (nI (G.1 + 1))) (gS G (nml t n q1)) := by
      refine ⟨by simp [gI_I, gS], fun s hs => ?_⟩
      have hs : s < G.1 + 1 := hs
      have n97 : ∀ i, ¬ (8 * G.1 ≤ i ∧ i < 8 * G.1 + 8) → σ3.2.1 97 i = σ1.2.1 97 i := fun i hi => by
        have := f3.1 97 i (by simp [SD, Sadv]; omega)
        simpa [gI_I] using this
      have n98 : ∀ i, σ3.2.1 98 i = σ1.2.1 98 i := fun i => by
        have := f3.1 98 i (by simp [SD, Sadv])
        simpa [gI_I] using this
      have n99 : ∀ i, σ3.2.1 99 i = (if i = G.1 then 0 else σ1.2.1 99 i) := fun i => by
        have := f3.1 99 i (by simp [SD, Sadv])
        simpa [gI_I] using this
      have n100 : ∀ i, σ3.2.1 100 i = (if i = G.1 then 0 else σ1.2.1 100 i) := fun i => by
        have := f3.1 100 i (by simp [SD, Sadv])
        simpa [gI_I] using this
      by_cases e : s = G.1
      · subst e
        refine ⟨fun k hk => ?_, ?_, ?_, fun a ha => ?_⟩
        · have := r3 k hk
          rw [Nat.zero_add] at this
          simpa [gI_I, gS, uf_s] using this
        · simp [gI_I, n99, gS, uf_s]; rfl
        · simp [gI_I, n100, gS, uf_s, bm]
        · have ha : a < uf G.2.2.1 G.1 0 G.1 := ha
          rw [uf_s] at ha; omega
      · obtain ⟨a, b, c, d⟩ := hC1.2 s (by omega)
        refine ⟨fun k hk => ?_, ?_, ?_, fun x hx k hk => ?_⟩
        · have := n97 (8 * s + k) (by omega)
          simp [gI_I, gS, uf_o _ _ e, this]
          simpa using a k hk
        · simp [gI_I, n99, gS, uf_o _ _ e, e, b]
        · simp [gI_I, n100, gS, uf_o _ _ e, e, c]
        · have hx : x < uf G.2.2.1 G.1 0 s := hx
          rw [uf_o _ _ e] at hx
          have := d x hx k hk
          simp [gI_I, n98, gS]
          simpa using this
    have hs3 : G.1 < (gS G (nml t n q1)).1 := Nat.lt_succ_self _
    have hc0 : (gS G (nml t n q1)).2.2.1 G.1 = 0 := uf_s _ _ _
    have hk3 := tkK_lt (t := t) (n := n) (q := nx t n q1)
    have hm3 := mk_lt _ hk3
    have e : pSy t n q G = pS1 t n G.1 (nx t n q1) (gS G (nml t n q1)) := by rw [pSy, if_pos k4, hq1, if_pos ⟨k2, kf⟩]
    rw [e] at h1 h0
    refine m_goodY hG4 (no (by decide) ?_)
    rw [s4.2.2.2.2.2]
    have hw := word_k _ hk3 (tkK_vk t n (nx t n q1)) 2 (by omega) (by omega)
    by_cases k5 : tkK t n (nx t n q1) = 5
    · refine no (by rw [k5]; exact fun z => z rfl) ?_
      by_cases k0 : G.1 = 0
      · rw [show pS1 t n G.1 (nx t n q1) (gS G (nml t n q1)) = (false, nx t n q1, gS G (nml t n q1)) by rw [pS1, if_pos k5, if_pos k0]] at h0
        refine no (by rw [k0]; exact fun z => z rfl) ?_
        rw [s4.2.2.1]
        exact m_failY hG4 (h0 rfl _ (hF4.I rfl) ⟨by simp [gI_I], Nat.le_trans s4.2.1 s4.1.1⟩)
      · refine yes (by simp (disch := omega) only [nI_lit, nI_add, nI_mulE, nI_clampE, nI_eqE, nI_leE, nI_ltE, vp_nIE, true_and, and_true]; exact k0) (m_next s4 (fun σ5 f5 s5 => ⟨10, ?_⟩))
        refine m_at (d := true) σ0 9 _ σ5 _ s5 (hG4.fm f5 rfl) (hC4.adv f5) hV3 hs3 (hF4.tr (f5.mono Sadv_SMy)) (by omega) (fun hb σ6 F6 S6 G6 C6 V6 => ?_) (fun hb σ6 F6 B6 => ?_)
        · rw [show pS1 t n G.1 (nx t n q1) (gS G (nml t n q1)) = pS2 t n G.1 (pAt t n G.1 true 9 (nx t n (nx t n q1)) (gS G (nml t n q1))).2.1 (pAt t n G.1 true 9 (nx t n (nx t n q1)) (gS G (nml t n q1))).2.2 by rw [pS1, if_pos k5, if_neg k0, if_pos hb]] at h1 h0
          exact m_S2 σ0 (by rw [pAt_ns]; exact hs3) S6 G6 C6 V6 F6 h1 h0
        · rw [show pS1 t n G.1 (nx t n q1) (gS G (nml t n q1)) = pAt t n G.1 true 9 (nx t n (nx t n q1)) (gS G (nml t n q1)) by rw [pS1, if_pos k5, if_neg k0, if_neg (by rw [hb]; decide)]] at h0
          exact m_S2B B6 (h0 hb σ6 F6 B6)
    · rw [show pS1 t n G.1 (nx t n q1) (gS G (nml t n q1)) = pS2 t n G.1 (nx t n q1) (gS G (nml t n q1)) by rw [pS1, if_neg k5]] at h1 h0
      refine yes ?_ (m_S2 σ0 hs3 s4 hG4 hC4 hV3 hF4 h1 h0)
      show ¬ nI (mwd (tkK t n (nx t n q1))) = nI 2
      rw [nI_eqE (by omega) (by omega), hw]; exact k5
  · have e : pSy t n q G = (false, q1, G) := by rw [pSy, if_pos k4, hq1, if_neg hb]
    rw [e] at h0
    refine fe ?_
    have hB : MBad (ab_I (ab_I (ab_I (ab_I σ1 99 G.1 0) 100 G.1 0) 92 44 (nI q1)) 92 9 ((ab_I (ab_I (ab_I σ1 99 G.1 0) 100 G.1 0) 92 44 (nI q1)).2.1 92 9 + 1)) q1 := ⟨by simp [gI_I], hq24⟩
    exact m_goodN hB (yes rfl (m_S2B hB (h0 rfl _ ((hF2.I rfl).I rfl) hB)))
end ML
