/-! ===== trees, the class's: all of one ===== -/
def CRd (σ : ab_S) (t : Nat → Nat) (n q g x : Nat) (Γ : GRT) (T : TST) : Prop := CS σ t n q ∧ CGr σ g Γ ∧ σ.2.2.2 8 1 = some g ∧ σ.2.2.2 8 2 = some x ∧ CTr σ x T ∧ σ.2.1 8 3 = abI T.ab
section CR
variable {σ : ab_S} {t : Nat → Nat} {n q g x : Nat} {Γ : GRT} {T : TST} {E : String → ab_S → Prop}
theorem CRd.adv (h : CRd σ t n q g x Γ T) (hg : isG g) (hx : isT x) (hV : GRV Γ) {σ' : ab_S} {q' : Nat} (f : Fr S3 σ σ') (hS : CS σ' t n q') : CRd σ' t n q' g x Γ T ∧ FM (Stx x) σ σ' := by
  have hgb := isG_b hg
  have hxb := isT_b hx
  have F := FrFM f
  obtain ⟨h1, h2, h3, h4, h5, h6⟩ := h
  have z : ∀ a, a ≠ 3 → S3 a = false := fun a ha => by simp [S3, ha]
  refine ⟨⟨hS, h2.fm hV F (fun k i hk => z _ (by omega)), by rw [F.2.2 _ _ (z 8 (by omega))]; exact h3, by rw [F.2.2 _ _ (z 8 (by omega))]; exact h4, h5.fm F (fun a i q1 q2 => z _ (by omega)), by rw [F.1 _ _ (z 8 (by omega))]; exact h6⟩, F.mono (fun a i y => ?_)⟩
  have y := of_decide_eq_false y
  exact z a (by omega)
theorem CTr.li {v : Int32} {σ' : ab_S} (h : CTr σ x T) (f : ∀ a i, (a = x + 3 ∧ i = T.N - 1) ∨ σ'.2.1 a i = σ.2.1 a i) (hv : σ'.2.1 (x + 3) (T.N - 1) = v) : CTr σ' x (tLi T v) := by
  have g : ∀ a i, ¬ (a = x + 3 ∧ i = T.N - 1) → σ'.2.1 a i = σ.2.1 a i := fun a i z => (f a i).resolve_left z
  refine ⟨by rw [g x 0 (by omega)]; exact h.1, fun k hk => ?_⟩
  obtain ⟨a1, a2, a3, a4, a5⟩ := h.2 k hk
  refine ⟨by rw [g _ _ (by omega)]; exact a1, by rw [g _ _ (by omega)]; exact a2, ?_, by rw [g _ _ (by omega)]; exact a4, fun o ho => by rw [g _ _ (by omega)]; exact a5 o ho⟩
  show _ = uf T.li (T.N - 1) v k
  by_cases e : k = T.N - 1
  · rw [e, uf_s]; exact hv
  · rw [uf_o _ _ e, g _ _ (by omega)]; exact a3
theorem c_tL (h : CRd σ t n q g x Γ T) (hg : isG g) (hx : isT x) (hV : GRV Γ) (hN : 1 ≤ T.N) (hN2 : T.N ≤ 250) {Q : Int32 → ab_S → Prop} (k : ∀ σ', FM (Stx x) σ σ' → CRd σ' t n (tL t n T q).2.1 g x Γ (tL t n T q).2.2 → Q (if (tL t n T q).1 then 1 else 0) σ') : wX10_readLiteral Q E σ := by
  have hgb := isG_b hg
  have hxb := isT_b hx
  -- the number itself
  have num : ∀ τ q', FM (Stx x) σ τ → CRd τ t n q' g x Γ T → tkK t n q' = 3 → ∀ v, (∀ σ', FM (Stx x) σ σ' → CRd σ' t n (nx t n q') g x Γ (tLi T v) → Q 1 σ') → wX10_readLiteral_j61 Q E v (τ.2.1 x 0 - 1) (x + 3) τ := by
    intro τ q' F C k3 v kk
    unfold wX10_readLiteral_j61
    rw [C.2.2.2.2.1.1, show nI T.N - 1 = nI (T.N - 1) by show nI _ - nI 1 = _; exact nI_subE hN, nI_clampE (show T.N - 1 < 2147483648 by omega)]
    refine ⟨by simp (disch := omega) only [nI_lit, nI_add, nI_mulE, nI_clampE, nI_eqE, nI_leE, nI_ltE, vp_nIE, true_and, and_true]; omega, fe ?_⟩
    have F1 : FM (fun a _ => decide (a = x + 3)) τ (ab_I τ (x + 3) (T.N - 1) v) := (FM.rf _ τ).I (decide_eq_true rfl)
    obtain ⟨c1, c2, c3, c4, c5, c6⟩ := C
    have C1 : CRd (ab_I τ (x + 3) (T.N - 1) v) t n q' g x Γ (tLi T v) := by
      refine ⟨c1.fm F1 (fun i => decide_eq_false (by omega)) (fun i => decide_eq_false (by omega)) (fun i => decide_eq_false (by omega)) (fun i => decide_eq_false (by omega)), c2.fm hV F1 (fun k i hk => decide_eq_false (by omega)), c3, c4, c5.li (fun a i => ?_) (by rw [gI_s, if_pos rfl]), by rw [gI_o (by omega)]; exact c6⟩
      by_cases e : a = x + 3 ∧ i = T.N - 1
      · exact Or.inl e
      · refine Or.inr ?_
        rw [gI_I]
        by_cases e1 : a = x + 3
        · rw [if_pos e1, if_neg (by omega), e1]
        · rw [if_neg e1]
    refine c_adv C1.1 (by omega) (fun σ' f s => ?_)
    obtain ⟨C2, F2⟩ := C1.adv hg hx hV f s
    exact kk σ' ((F.tr (F1.mono (fun a i y => by have y := of_decide_eq_false y; exact decide_eq_false (by omega)))).tr F2) C2
  unfold wX10_readLiteral
  refine c_take (w := 45) h.1 (by omega) (by omega) (fun k45 τ f s => ?_) (fun k45 => ?_)
  · obtain ⟨C1, F1⟩ := h.adv hg hx hV f s
    have hk3 := tkK_lt (t := t) (n := n) (q := nx t n q)
    rw [s.kind]
    by_cases k3 : tkK t n (nx t n q) = 3
    · have e : tL t n T q = (true, nx t n (nx t n q), tLi T (-(nI (nv t n (nx t n q))))) := by unfold tL; rw [if_pos k45, if_pos k3]
      rw [e] at k
      refine yes (by rw [k3]; rfl) ⟨x, C1.2.2.2.1, hx, x, C1.2.2.2.1, hx, no (by decide) ?_⟩
      rw [s.num k3, (num_v k3).1]
      exact num τ _ F1 C1 k3 _ (fun σ' F' C' => k σ' F' C')
    · have e : tL t n T q = (false, nx t n q, T) := by unfold tL; rw [if_pos k45, if_neg k3]
      rw [e] at k
      exact no (by show ¬ _ = nI 3; rw [nI_eqE (by omega) (by omega)]; exact k3) (k τ F1 C1)
  · have hk3 := tkK_lt (t := t) (n := n) (q := q)
    rw [h.1.kind]
    by_cases k3 : tkK t n q = 3
    · have e : tL t n T q = (true, nx t n q, tLi T (nI (nv t n q))) := by unfold tL; rw [if_neg k45, if_pos k3]
      rw [e] at k
      refine yes (by rw [k3]; rfl) ⟨x, h.2.2.2.1, hx, x, h.2.2.2.1, hx, yes rfl ?_⟩
      rw [h.1.num k3, (num_v k3).1]
      exact num σ _ (FM.rf _ _) h k3 _ (fun σ' F' C' => k σ' F' C')
    · have e : tL t n T q = (false, q, T) := by unfold tL; rw [if_neg k45, if_neg k3]
      rw [e] at k
      exact no (by show ¬ _ = nI 3; rw [nI_eqE (by omega) (by omega)]; exact k3) (k σ (FM.rf _ _) h)
theorem c_tH (h : CRd σ t n q g x Γ T) (hg : isG g) (hx : isT x) (hV : GRV Γ) (hI : TI Γ T) (hr : TRy Γ T) (hN : T.N < 250) {Q : Int32 → ab_S → Prop} (k : ∀ σ', FM (Stx x) σ σ' → CRd σ' t n (tH Γ t n T q).2.1 g x Γ (tH Γ t n T q).2.2 → Q (if (tH Γ t n T q).1 then 1 else 0) σ') : wX10_readHead Q E σ := by
  have hgb := isG_b hg
  have hxb := isT_b hx
  have h30 := hV.2.1
  have h12 := hV.1.1
  obtain ⟨c1, c2, c3, c4, c5, c6⟩ := h
  have h : CRd σ t n q g x Γ T := ⟨c1, c2, c3, c4, c5, c6⟩
  have hab := hI.1
  have hn3 : ∀ k, k < T.N → T.nc k ≤ 3 := fun k hk => by
    have a := (hI.2.1 k hk).2.2.2.2.1
    have b : rt Γ (T.pr k) ≤ 3 := (hV.2.2.2 _ (hI.2.1 k hk).1).2.1.1
    omega
  have hr2 : T.ab ≠ 0 → T.nc (T.ab - 1) < 3 := fun z => by
    have a := hr.2 z
    have b : rt Γ (T.pr (T.ab - 1)) ≤ 3 := (hV.2.2.2 _ (hI.2.1 _ (by omega)).1).2.1.1
    omega
  have symA : ∀ {τ : ab_S} {p o : Nat} {Q : Int32 → ab_S → Prop}, CGr τ g Γ → p < Γ.2.1 → o ≤ rt Γ p → Q (nI (oSy Γ p o)) τ → wX0_symbolAt g (nI p) (nI o) Q E τ := by
    intro τ p o Q hc hp ho hQ
    have h3 := (hV.2.2.2 p hp).2.1.1
    have ho : o ≤ (Γ.2.2.1 p).2.1 := ho
    unfold wX0_symbolAt
    have e4 : nI p * 4 + nI o = nI (p * 4 + o) := by show nI p * nI 4 + _ = _; rw [nI_mulE, nI_add]
    rw [e4, nI_clampE (show p * 4 + o < 2147483648 by omega), (hc.2.2.2 p hp).2.2.1 o (by omega)]
    exact ⟨by simp (disch := omega) only [nI_lit, nI_add, nI_mulE, nI_clampE, nI_eqE, nI_leE, nI_ltE, vp_nIE, true_and, and_true]; omega, hQ⟩
  have hsy : tSy Γ T < 12 := by
    unfold tSy
    by_cases e : T.ab = 0
    · rw [if_pos e]; omega
    · rw [if_neg e]
      have := (hV.2.2.2 _ (hI.2.1 (T.ab - 1) (by omega)).1).2.1.2.1 _ (hr.2 e)
      have h2 : oSy Γ (T.pr (T.ab - 1)) (T.nc (T.ab - 1) + 1) < Γ.1.1 := this
      omega
  have j45 : wX10_readHead_j45 Q E (nI (tSy Γ T)) σ := by
    unfold wX10_readHead_j45
    have hk := tkK_lt (t := t) (n := n) (q := q)
    rw [c1.kind]
    by_cases k2 : tkK t n q = 2
    · obtain ⟨v1, v2, v3⟩ := nml_v k2
      refine no (fun z => z (by rw [k2]; rfl)) ⟨g, c3, hg, ?_⟩
      rw [c1.name k2, v2]
      refine c_findP (nm := fun i => (Γ.2.2.1 i).1) h30 c2.2.1 (fun s hs => ⟨(c2.2.2.2 s hs).1, (hV.2.2.2 s hs).1⟩) v1 ?_
      unfold wX10_readHead_j75
      have epn : fi (fun i => (Γ.2.2.1 i).1) Γ.2.1 (nml t n q) = pnF Γ t n q := rfl
      unfold fiI
      rw [epn]
      by_cases kp : pnF Γ t n q < Γ.2.1
      · rw [if_pos kp]
        refine no (nI_m1 (by omega)) ⟨g, c3, hg, ?_⟩
        refine symA (o := 0) c2 kp (Nat.zero_le _) ?_
        have hhd : hdS Γ (pnF Γ t n q) < Γ.1.1 := (hV.2.2.2 _ kp).2.1.2.1 0 (Nat.zero_le _)
        have eo : oSy Γ (pnF Γ t n q) 0 = hdS Γ (pnF Γ t n q) := rfl
        rw [eo]
        by_cases ks : hdS Γ (pnF Γ t n q) = tSy Γ T
        · refine yes (by rw [ks]) ⟨x, c4, hx, ?_⟩
          rw [c6]
          refine c_tad hx c5 hN hab hr2 hn3 (fun τ F1 T1 => ?_)
          have F1' : FM (Stx x) σ τ := F1.mono (fun a i y => by have y := of_decide_eq_false y; exact decide_eq_false (by omega))
          have C1 : CRd τ t n q g x Γ (tAd T (pnF Γ t n q)) := ⟨c1.fm F1 (fun i => decide_eq_false (by omega)) (fun i => decide_eq_false (by omega)) (fun i => decide_eq_false (by omega)) (fun i => decide_eq_false (by omega)), c2.fm hV F1 (fun k i hk => decide_eq_false (by omega)), by rw [F1.2.2 _ _ (decide_eq_false (by omega))]; exact c3, by rw [F1.2.2 _ _ (decide_eq_false (by omega))]; exact c4, T1, by rw [F1.1 _ _ (decide_eq_false (by omega))]; exact c6⟩
          refine c_adv C1.1 (by omega) (fun τ2 f2 s2 => ?_)
          obtain ⟨C2, F2⟩ := C1.adv hg hx hV f2 s2
          have F02 := F1'.tr F2
          refine ⟨g, C2.2.2.1, hg, by simp (disch := omega) only [nI_lit, nI_add, nI_mulE, nI_clampE, nI_eqE, nI_leE, nI_ltE, vp_nIE, true_and, and_true]; omega, ?_⟩
          rw [nI_clampE (show pnF Γ t n q < 2147483648 by omega), (C2.2.1.2.2.2 _ kp).2.2.2.1]
          have kc : tkK t n q = 2 ∧ pnF Γ t n q < Γ.2.1 ∧ hdS Γ (pnF Γ t n q) = tSy Γ T := ⟨k2, kp, ks⟩
          cases hl : (Γ.2.2.1 (pnF Γ t n q)).2.2.2.1
          · have e : tH Γ t n T q = (true, nx t n q, tAd T (pnF Γ t n q)) := by unfold tH; rw [if_pos kc, hl, if_neg (by decide)]
            rw [e] at k
            refine yes rfl ?_
            unfold wX10_readHead_j134
            exact k τ2 F02 C2
          · have e : tH Γ t n T q = tL t n (tAd T (pnF Γ t n q)) (nx t n q) := by unfold tH; rw [if_pos kc, hl, if_pos rfl]
            rw [e] at k
            refine no (by decide) ?_
            refine c_tL C2 hg hx hV (by show 1 ≤ T.N + 1; omega) (by show T.N + 1 ≤ 250; omega) (fun τ3 F3 C3 => ?_)
            have k3 := k τ3 (F02.tr F3) C3
            cases hb : (tL t n (tAd T (pnF Γ t n q)) (nx t n q)).1
            · rw [hb] at k3
              exact yes rfl k3
            · rw [hb] at k3
              refine no (by decide) ?_
              unfold wX10_readHead_j134
              exact k3
        · have e : tH Γ t n T q = (false, q, T) := by unfold tH; rw [if_neg (fun z => ks z.2.2)]
          rw [e] at k
          exact no (by rw [nI_eqE (by omega) (by omega)]; exact ks) (k σ (FM.rf _ _) h)
      · have e : tH Γ t n T q = (false, q, T) := by unfold tH; rw [if_neg (fun z => kp z.2.1)]
        rw [e] at k
        rw [if_neg kp]
        exact yes rfl (k σ (FM.rf _ _) h)
    · have e : tH Γ t n T q = (false, q, T) := by unfold tH; rw [if_neg (fun z => k2 z.1)]
      rw [e] at k
      refine yes (by show ¬ _ = nI 2; rw [nI_eqE (by omega) (by omega)]; exact k2) ?_
      unfold wX10_readHead_j75
      exact yes rfl (k σ (FM.rf _ _) h)
  unfold wX10_readHead
  rw [c6]
  by_cases e0 : T.ab = 0
  · have es : tSy Γ T = 0 := by unfold tSy; rw [if_pos e0]
    rw [es] at j45
    exact no (fun z => z ((abI_0 (by omega)).mpr e0)) j45
  · have es : tSy Γ T = oSy Γ (T.pr (T.ab - 1)) (T.nc (T.ab - 1) + 1) := by unfold tSy; rw [if_neg e0]
    obtain ⟨d1, d2, d3, d4, d5⟩ := c5.2 (T.ab - 1) (by omega)
    refine yes (fun z => e0 ((abI_0 (by omega)).mp z)) ⟨g, c3, hg, x, c4, hx, ?_⟩
    rw [abI_s e0, nI_clampE (show T.ab - 1 < 2147483648 by omega)]
    refine ⟨by simp (disch := omega) only [nI_lit, nI_add, nI_mulE, nI_clampE, nI_eqE, nI_leE, nI_ltE, vp_nIE, true_and, and_true]; omega, x, c4, hx, by simp (disch := omega) only [nI_lit, nI_add, nI_mulE, nI_clampE, nI_eqE, nI_leE, nI_ltE, vp_nIE, true_and, and_true]; omega, ?_⟩
    rw [d1, d4, nI_1]
    refine symA c2 (hI.2.1 _ (by omega)).1 (hr.2 e0) ?_
    rw [← es]; exact j45
theorem c_tC (hg : isG g) (hx : isT x) (hV : GRV Γ) {Q : Int32 → ab_S → Prop} : ∀ f i T q σ, i + f = 250 → T.N ≤ 250 → TI Γ T → T.ab ≤ f → CRd σ t n q g x Γ T → (∀ σ', FM (Stx x) σ σ' → CRd σ' t n (tC Γ t n f T q).2.1 g x Γ (tC Γ t n f T q).2.2 → Q (if (tC Γ t n f T q).1 then 1 else 0) σ') → wX10_closeFull_l2 Q E (f + 1) (nI i) σ := by
  have hgb := isG_b hg
  have hxb := isT_b hx
  have h30 := hV.2.1
  intro f
  induction f with
  | zero =>
    intro i T q σ hi _ _ _ hC k
    show wX10_closeFull_l2_b _ _ _ _ _
    unfold wX10_closeFull_l2_b
    exact yes (by simp (disch := omega) only [nI_lit, nI_add, nI_mulE, nI_clampE, nI_eqE, nI_leE, nI_ltE, vp_nIE, true_and, and_true]; omega) (k σ (FM.rf _ _) hC)
  | succ f ih =>
    intro i T q σ hi hN hI hf hC k
    obtain ⟨c1, c2, c3, c4, c5, c6⟩ := hC
    have hC : CRd σ t n q g x Γ T := ⟨c1, c2, c3, c4, c5, c6⟩
    have hab := hI.1
    show wX10_closeFull_l2_b Q E (wX10_closeFull_l2 Q E (f + 1)) (nI i) σ
    unfold wX10_closeFull_l2_b
    refine no (by simp (disch := omega) only [nI_lit, nI_add, nI_mulE, nI_clampE, nI_eqE, nI_leE, nI_ltE, vp_nIE, true_and, and_true]; omega) ?_
    rw [c6]
    by_cases e0 : T.ab = 0
    · have e : tC Γ t n (f + 1) T q = (true, q, T) := by rw [tC, if_pos (Or.inl e0)]
      rw [e] at k
      exact yes ((abI_0 (by omega)).mpr e0) (k σ (FM.rf _ _) hC)
    · obtain ⟨d1, d2, d3, d4, d5⟩ := c5.2 (T.ab - 1) (by omega)
      have hp := (hI.2.1 (T.ab - 1) (by omega)).1
      have hpa := (hI.2.1 (T.ab - 1) (by omega)).2.1
      have eva : vp_in (nI (T.ab - 1)) 250 := by simp (disch := omega) only [nI_lit, nI_add, nI_mulE, nI_clampE, nI_eqE, nI_leE, nI_ltE, vp_nIE, true_and, and_true]; omega
      have eca : (nI (T.ab - 1)).toNatClampNeg = T.ab - 1 := nI_clampE (by omega)
      have hnc := (hI.2.1 (T.ab - 1) (by omega)).2.2.2.2.1
      have hrt : rt Γ (T.pr (T.ab - 1)) ≤ 3 := (hV.2.2.2 _ hp).2.1.1
      have d6 : σ.2.1 (g + 6) (T.pr (T.ab - 1)) = nI (rt Γ (T.pr (T.ab - 1))) := (c2.2.2.2 _ hp).2.1
      refine no (fun z => e0 ((abI_0 (by omega)).mp z)) ⟨x, c4, hx, ?_⟩
      rw [abI_s e0, eca]
      refine ⟨eva, g, c3, hg, x, c4, hx, eva, ?_⟩
      rw [d1, nI_clampE (show T.pr (T.ab - 1) < 2147483648 by omega), d6, d4]
      refine ⟨by simp (disch := omega) only [nI_lit, nI_add, nI_mulE, nI_clampE, nI_eqE, nI_leE, nI_ltE, vp_nIE, true_and, and_true]; omega, ?_⟩
      by_cases e1 : T.nc (T.ab - 1) < rt Γ (T.pr (T.ab - 1))
      · have e : tC Γ t n (f + 1) T q = (true, q, T) := by rw [tC, if_pos (Or.inr e1)]
        rw [e] at k
        exact no (by simp (disch := omega) only [nI_lit, nI_add, nI_mulE, nI_clampE, nI_eqE, nI_leE, nI_ltE, vp_nIE, true_and, and_true]; omega) (k σ (FM.rf _ _) hC)
      · have en : ¬ (T.ab = 0 ∨ T.nc (T.ab - 1) < rt Γ (T.pr (T.ab - 1))) := fun z => z.elim e0 e1
        refine yes (by simp (disch := omega) only [nI_lit, nI_add, nI_mulE, nI_clampE, nI_eqE, nI_leE, nI_ltE, vp_nIE, true_and, and_true]; omega) ?_
        refine c_take (w := 41) c1 (by omega) (by omega) (fun k41 τ ft st => ?_) (fun k41 => ?_)
        · have e : tC Γ t n (f + 1) T q = tC Γ t n f (tAb T (T.pa (T.ab - 1))) (nx t n q) := by rw [tC, if_neg en, if_pos k41]
          rw [e] at k
          obtain ⟨C1, F1⟩ := hC.adv hg hx hV ft st
          refine yes (by decide) ⟨x, C1.2.2.2.1, hx, ?_⟩
          rw [C1.2.2.2.2.2, abI_s e0, eca, (C1.2.2.2.2.1.2 (T.ab - 1) (by omega)).2.1, nI_1]
          refine ⟨eva, fe (fe ?_)⟩
          have F2 : FM (fun a i => decide (a = 8 ∧ i = 3)) τ (ab_I τ 8 3 (abI (T.pa (T.ab - 1)))) := (FM.rf _ τ).I (decide_eq_true ⟨rfl, rfl⟩)
          obtain ⟨b1, b2, b3, b4, b5, b6⟩ := C1
          refine ih (i + 1) (tAb T (T.pa (T.ab - 1))) (nx t n q) _ (by omega) hN (TI_cl hI e0 e1) (by show T.pa (T.ab - 1) ≤ f; omega) ⟨b1.fm F2 (fun i => decide_eq_false (by omega)) (fun i => decide_eq_false (by omega)) (fun i => decide_eq_false (by omega)) (fun i => decide_eq_false (by omega)), b2.fm hV F2 (fun k i hk => decide_eq_false (by omega)), b3, b4, b5.fm F2 (fun a i q1 q2 => decide_eq_false (by omega)), by rw [gI_s, if_pos rfl]; rfl⟩ (fun σ' F' C' => k σ' ((F1.tr (F2.mono (fun a i y => by have y := of_decide_eq_false y; exact decide_eq_false (by omega)))).tr F') C')
        · have e : tC Γ t n (f + 1) T q = (false, q, T) := by rw [tC, if_neg en, if_neg k41]
          rw [e] at k
          exact no (fun z => z rfl) (k σ (FM.rf _ _) hC)
end CR
