/-! ===== stores, the model's: names ===== -/
section MT
variable {σ : ab_S} {p y : Nat} {Γ : GRT} {E : String → ab_S → Prop}
theorem m_isNL {x : Nat} (hp : p < 30) (hx : x < 32) {o a : Nat} (hy : 8 * o + a < 32) {fm : Nat} {m : List (Nat × Nat)} (hf : fm + m.length ≤ 2400) (hk60 : ∀ z, z ∈ m → z.1 < 60 ∧ z.2 < 1000000) (h6 : σ.2.1 106 (32 * p + x) = nI (fm + m.length)) (hM : MCode σ fm m) {Q : Int32 → ab_S → Prop} (h : Q (if nmA 50 m (8 * o + a) then 1 else 0) σ) : ∀ f j, m.length - j = f → j ≤ m.length → wX12_isNaming_l16 (nI p) (nI x) (nI o) (nI a) Q E (f + 1) (if nmA 50 (m.take j) (8 * o + a) then 1 else 0) (nI (fm + j)) σ := by
  have e32 : (32 : Int32) * nI p + nI x = nI (32 * p + x) := by show nI 32 * nI p + _ = _; rw [nI_mulE, nI_add]
  have e8 : (8 : Int32) * nI o + nI a = nI (8 * o + a) := by show nI 8 * nI o + _ = _; rw [nI_mulE, nI_add]
  have ec : (nI (32 * p + x)).toNatClampNeg = 32 * p + x := nI_clampE (by omega)
  have ev : vp_in (nI (32 * p + x)) 992 := by simp (disch := omega) only [nI_lit, nI_add, nI_mulE, nI_clampE, nI_eqE, nI_leE, nI_ltE, vp_nIE, true_and, and_true]; omega
  intro f
  induction f with
  | zero =>
    intro j hf2 hj
    have e : j = m.length := by omega
    show wX12_isNaming_l16_b _ _ _ _ _ _ _ _ _ _
    unfold wX12_isNaming_l16_b
    rw [e32, ec, h6]
    rw [e, List.take_length]
    refine no (nI_pos (by omega)) ⟨ev, yes (by simp (disch := omega) only [nI_lit, nI_add, nI_mulE, nI_clampE, nI_eqE, nI_leE, nI_ltE, vp_nIE, true_and, and_true]; omega) ⟨?_, h⟩⟩
    cases nmA 50 m (8 * o + a) <;> simp
  | succ f ih =>
    intro j hf2 hj
    have hj2 : j < m.length := by omega
    obtain ⟨m1, m2⟩ := hM j hj2
    have hbd := hk60 _ (gd_mem hj2)
    have evc : vp_in (nI (fm + j)) 2500 := by simp (disch := omega) only [nI_lit, nI_add, nI_mulE, nI_clampE, nI_eqE, nI_leE, nI_ltE, vp_nIE, true_and, and_true]; omega
    have IH := ih (j + 1) (by omega) (by omega)
    show wX12_isNaming_l16_b (nI p) (nI x) (nI o) (nI a) Q E (wX12_isNaming_l16 (nI p) (nI x) (nI o) (nI a) Q E (f + 1)) _ (nI (fm + j)) σ
    unfold wX12_isNaming_l16_b
    rw [e32, e8, ec, nI_clampE (show fm + j < 2147483648 by omega), h6, m1, m2]
    refine no (nI_pos (by omega)) ⟨ev, no (by simp (disch := omega) only [nI_lit, nI_add, nI_mulE, nI_clampE, nI_eqE, nI_leE, nI_ltE, vp_nIE, true_and, and_true]; omega) ?_⟩
    rw [nmA_take hj2] at IH
    cases hb : nmA 50 (m.take j) (8 * o + a)
    · rw [hb, Bool.false_or] at IH
      refine no (fun z => z rfl) ⟨evc, ?_⟩
      by_cases hk : (m.getD j (0, 0)).1 = 50
      · refine no (fun z => z (by rw [hk]; rfl)) ⟨evc, ?_⟩
        by_cases hk2 : (m.getD j (0, 0)).2 = 8 * o + a
        · rw [decide_eq_true ⟨hk, hk2⟩] at IH
          refine no (fun z => z (by rw [hk2])) ?_
          unfold wX12_isNaming_j71 wX12_isNaming_j76
          rw [nI_1]
          exact fe IH
        · rw [decide_eq_false (fun w => hk2 w.2)] at IH
          refine yes (by rw [nI_eqE (by omega) (by omega)]; exact hk2) ?_
          unfold wX12_isNaming_j75 wX12_isNaming_j76
          rw [nI_1]
          exact fe IH
      · rw [decide_eq_false (fun w => hk w.1)] at IH
        refine yes (by show ¬ nI _ = nI 50; rw [nI_eqE (by omega) (by omega)]; exact hk) ?_
        unfold wX12_isNaming_j75 wX12_isNaming_j76
        rw [nI_1]
        exact fe IH
    · rw [hb, Bool.true_or] at IH
      refine yes (by decide) ?_
      unfold wX12_isNaming_j71 wX12_isNaming_j76
      rw [nI_1]
      exact fe IH
theorem m_isNm (hX : MXg σ Γ) (hV : GRV Γ) (hp : p < Γ.2.1) {x o a : Nat} (hx : x < 32) (hy : 8 * o + a < 32) {Q : Int32 → ab_S → Prop} (h : Q (if nmd Γ p x (8 * o + a) then 1 else 0) σ) : wX12_isNaming (nI p) (nI x) (nI o) (nI a) Q E σ := by
  have h30 := hV.2.1
  have hpv := (hV.2.2.2 p hp).2.1
  have h3 := hpv.1
  have hc := hX.1.2.2.2 p hp
  have e32 : (32 : Int32) * nI p + nI x = nI (32 * p + x) := by show nI 32 * nI p + _ = _; rw [nI_mulE, nI_add]
  have ec : (nI (32 * p + x)).toNatClampNeg = 32 * p + x := nI_clampE (by omega)
  unfold wX12_isNaming
  rw [e32, ec]
  refine ⟨by simp (disch := omega) only [nI_lit, nI_add, nI_mulE, nI_clampE, nI_eqE, nI_leE, nI_ltE, vp_nIE, true_and, and_true]; omega, ?_⟩
  rw [nmd_A] at h
  cases hd : (Γ.2.2.1 p).2.2.2.2.1 x
  · rw [(hc.2.2.2.2 _ hx).2 hd]
    rw [hd, Bool.false_and] at h
    refine fe ⟨1, ?_⟩
    show wX12_isNaming_l16_b _ _ _ _ _ _ _ _ _ _
    unfold wX12_isNaming_l16_b
    exact yes (by decide) ⟨Or.inl rfl, h⟩
  · obtain ⟨a1, a2, a3⟩ := (hc.2.2.2.2 _ hx).1 hd
    obtain ⟨q1, q2, q3, q4, q5⟩ := hpv.2.2 _ hd
    have hlm := hX.2.2
    have hnm := CR_nm q5
    have hbd := CR_bd q5 (fun s hs => by have h1 : s / 8 ≤ (Γ.2.2.1 p).2.1 := hs.1; omega)
    rw [hd, Bool.true_and, ← hnm.1] at h
    rw [a1]
    refine fe ⟨((Γ.2.2.1 p).2.2.2.2.2 x).2.1.length + 1, ?_⟩
    exact m_isNL (by omega) hx hy (by omega) hbd.1 a2 a3 h _ 0 rfl (Nat.zero_le _)
theorem m_nOI (hX : MXg σ Γ) (hV : GRV Γ) (hL : LVF Γ) (hp : p < Γ.2.1) (hP : MPf σ Γ p) (hxc : crc (xR Γ p) = false) {o a : Nat} (hy : 8 * o + a < 32) {v : Nat} (hv : v < 100) {Q : Int32 → ab_S → Prop} (h1 : nOI Γ p (8 * o + a) v → Q 1 σ) (h0 : ¬ nOI Γ p (8 * o + a) v → Q 0 σ) : wX12_areNamedIn (nI p) (nI o) (nI a) (nI v) Q E σ := by
  have h30 := hV.2.1
  have hhd : hdS Γ p < Γ.1.1 := (hV.2.2.2 p hp).2.1.2.1 0 (Nat.zero_le _)
  refine ⟨33, ?_⟩
  suffices H : ∀ f k (b : Bool), 32 - k = f → k ≤ 32 → (b = true ↔ ∀ x, x < k → nmd Γ p x (8 * o + a) = true → (gE (plP Γ p) ((plP Γ p).ea x)).2.1 = v) → wX12_areNamedIn_l6 (nI p) (nI o) (nI a) (nI v) Q E (f + 1) (if b then 1 else 0) (nI k) σ from H 32 0 true rfl (Nat.zero_le _) ⟨fun _ x hx => absurd hx (Nat.not_lt_zero _), fun _ => rfl⟩
  intro f
  induction f with
  | zero =>
    intro k b hf hk hb
    have e : k = 32 := by clear hb; omega
    show wX12_areNamedIn_l6_b _ _ _ _ _ _ _ _ _ _
    unfold wX12_areNamedIn_l6_b
    refine yes (by rw [e]; decide) ⟨by cases b <;> simp, ?_⟩
    rw [e] at hb
    cases b
    · exact h0 (fun z => absurd (hb.mpr z) Bool.false_ne_true)
    · exact h1 (hb.mp rfl)
  | succ f ih =>
    intro k b hf hk hb
    have q1 : 32 - (k + 1) = f := by clear hb; omega
    have q2 : k + 1 ≤ 32 := by clear hb; omega
    have q3 : ¬ (32 : Int32) ≤ nI k := by clear hb; simp (disch := omega) only [nI_lit, nI_add, nI_mulE, nI_clampE, nI_eqE, nI_leE, nI_ltE, vp_nIE, true_and, and_true]; omega
    have e32 : (32 : Int32) * nI p + nI k = nI (32 * p + k) := by show nI 32 * nI p + _ = _; rw [nI_mulE, nI_add]
    have ec : (nI (32 * p + k)).toNatClampNeg = 32 * p + k := nI_clampE (by clear hb; omega)
    have ev : vp_in (nI (32 * p + k)) 992 := by clear hb; simp (disch := omega) only [nI_lit, nI_add, nI_mulE, nI_clampE, nI_eqE, nI_leE, nI_ltE, vp_nIE, true_and, and_true]; omega
    have go : ∀ c : Bool, (c = true ↔ ∀ x, x < k + 1 → nmd Γ p x (8 * o + a) = true → (gE (plP Γ p) ((plP Γ p).ea x)).2.1 = v) → wX12_areNamedIn_j52 (nI p) (nI o) (nI a) (nI v) Q E (wX12_areNamedIn_l6 (nI p) (nI o) (nI a) (nI v) Q E (f + 1)) (nI k) (if c then 1 else 0) σ := by
      intro c hc
      unfold wX12_areNamedIn_j52
      rw [nI_1]
      exact fe (ih (k + 1) c q1 q2 hc)
    show wX12_areNamedIn_l6_b (nI p) (nI o) (nI a) (nI v) Q E (wX12_areNamedIn_l6 (nI p) (nI o) (nI a) (nI v) Q E (f + 1)) _ (nI k) σ
    unfold wX12_areNamedIn_l6_b
    refine no q3 ?_
    cases b
    · refine yes rfl ?_
      unfold wX12_areNamedIn_j51
      exact go false ⟨fun z => absurd z Bool.false_ne_true, fun z => absurd (hb.mpr (fun x hx => z x (by omega))) Bool.false_ne_true⟩
    · have hb := hb.mp rfl
      refine no (by decide) ?_
      refine m_isNm hX hV hp q2 hy ?_
      cases hn : nmd Γ p k (8 * o + a)
      · refine yes rfl ?_
        unfold wX12_areNamedIn_j47
        refine go true ⟨fun _ x hx hxn => ?_, fun _ => rfl⟩
        by_cases e : x = k
        · rw [e, hn] at hxn; exact absurd hxn Bool.false_ne_true
        · exact hb x (by omega) hxn
      · refine no (by decide) ?_
        obtain ⟨he, hlt⟩ := nm_ev hV hL hp hxc hn
        have hvi : (gE (plP Γ p) ((plP Γ p).ea k)).2.1 ≤ 5 := (plJ_A (Γ := Γ) (p := p) _ (hL.vis _ hhd).2 _ hlt).2
        have w : σ.2.1 116 (32 * p + k) = nI (gE (plP Γ p) ((plP Γ p).ea k)).2.1 := by rw [hP.2.2.1 k q2, he]; rfl
        rw [e32, ec, w]
        refine ⟨ev, ?_⟩
        by_cases e : (gE (plP Γ p) ((plP Γ p).ea k)).2.1 = v
        · refine no (fun z => z (by rw [e])) ?_
          unfold wX12_areNamedIn_j47
          refine go true ⟨fun _ x hx hxn => ?_, fun _ => rfl⟩
          by_cases e2 : x = k
          · rw [e2]; exact e
          · exact hb x (by omega) hxn
        · refine yes (by rw [nI_eqE (by omega) (by omega)]; exact e) ?_
          unfold wX12_areNamedIn_j51
          exact go false ⟨fun z => absurd z Bool.false_ne_true, fun z => absurd (z k (by omega) hn) e⟩
theorem m_lN (hX : MXg σ Γ) (hV : GRV Γ) (hL : LVF Γ) (hp : p < Γ.2.1) (hP : MPf σ Γ p) (hxc : crc (xR Γ p) = false) {o a : Nat} (hy : 8 * o + a < 32) {Q : Int32 → ab_S → Prop} (h : Q (lnI Γ p (lNm Γ p (8 * o + a) 32)) σ) : wX12_lastNaming (nI p) (nI o) (nI a) Q E σ := by
  have h30 := hV.2.1
  have hB := plB_le hL hV p (by omega)
  have hN := plN_le hL hV hp
  refine ⟨33, ?_⟩
  suffices H : ∀ f k, 32 - k = f → k ≤ 32 → wX12_lastNaming_l6 (nI p) (nI o) (nI a) Q E (f + 1) (lnI Γ p (lNm Γ p (8 * o + a) k)) (nI k) σ from H 32 0 rfl (Nat.zero_le _)
  intro f
  induction f with
  | zero =>
    intro k hf hk
    have e : k = 32 := by omega
    show wX12_lastNaming_l6_b _ _ _ _ _ _ _ _ _
    unfold wX12_lastNaming_l6_b
    rw [e]
    exact yes (by decide) h
  | succ f ih =>
    intro k hf hk
    have q1 : 32 - (k + 1) = f := by omega
    have q2 : k + 1 ≤ 32 := by omega
    have IH := ih (k + 1) q1 q2
    have hle := lNm_le hV hL hp hxc (y := 8 * o + a) k
    have e32 : (32 : Int32) * nI p + nI k = nI (32 * p + k) := by show nI 32 * nI p + _ = _; rw [nI_mulE, nI_add]
    have ec : (nI (32 * p + k)).toNatClampNeg = 32 * p + k := nI_clampE (by omega)
    have ev : vp_in (nI (32 * p + k)) 992 := by simp (disch := omega) only [nI_lit, nI_add, nI_mulE, nI_clampE, nI_eqE, nI_leE, nI_ltE, vp_nIE, true_and, and_true]; omega
    show wX12_lastNaming_l6_b (nI p) (nI o) (nI a) Q E (wX12_lastNaming_l6 (nI p) (nI o) (nI a) Q E (f + 1)) _ (nI k) σ
    unfold wX12_lastNaming_l6_b
    refine no (by simp (disch := omega) only [nI_lit, nI_add, nI_mulE, nI_clampE, nI_eqE, nI_leE, nI_ltE, vp_nIE, true_and, and_true]; omega) ?_
    refine m_isNm hX hV hp q2 hy ?_
    rw [lNm] at IH
    cases hn : nmd Γ p k (8 * o + a)
    · rw [hn] at IH
      refine yes rfl ?_
      unfold wX12_lastNaming_j57 wX12_lastNaming_j59
      rw [nI_1]
      exact fe IH
    · rw [hn, if_pos rfl] at IH
      refine no (by decide) ?_
      obtain ⟨he, hlt⟩ := nm_ev hV hL hp hxc hn
      rw [e32, ec, hP.2.2.2.1 k q2 he]
      refine ⟨ev, ?_⟩
      generalize lNm Γ p (8 * o + a) k = m at *
      generalize (plP Γ p).ea k = n at *
      by_cases hc : nI (plB Γ p + n) ≤ lnI Γ p m
      · refine yes hc ?_
        unfold wX12_lastNaming_j57 wX12_lastNaming_j59
        rw [nI_1]
        have em : max m (n + 1) = m := by
          unfold lnI at hc
          by_cases hm : m = 0
          · rw [if_pos hm] at hc
            exact absurd hc (Int32.not_le.mpr (m1_lt _ (by omega)))
          · rw [if_neg hm, nI_leE (by omega) (by omega)] at hc
            omega
        rw [em] at IH
        exact fe IH
      · refine no hc ⟨ev, ?_⟩
        unfold wX12_lastNaming_j59
        rw [nI_1]
        have em : lnI Γ p (max m (n + 1)) = nI (plB Γ p + n) := by
          unfold lnI at hc ⊢
          rw [if_neg (show ¬ max m (n + 1) = 0 by omega)]
          by_cases hm : m = 0
          · rw [hm]; congr 2
          · rw [if_neg hm, nI_leE (by omega) (by omega)] at hc
            congr 1; omega
        rw [em] at IH
        exact fe IH
end MT
