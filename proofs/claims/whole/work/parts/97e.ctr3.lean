/-! ===== trees, the class's: read whole ===== -/
section CR
variable {σ : ab_S} {t : Nat → Nat} {n q g x : Nat} {Γ : GRT} {T : TST} {E : String → ab_S → Prop}
theorem CRd.ab (h : CRd σ t n q g x Γ T) (hg : isG g) (hx : isT x) (hV : GRV Γ) {a : Nat} {v : Int32} (hv : v = abI a) : CRd (ab_I σ 8 3 v) t n q g x Γ (tAb T a) ∧ FM (Stx x) σ (ab_I σ 8 3 v) := by
  have hgb := isG_b hg
  have hxb := isT_b hx
  have F2 : FM (fun a i => decide (a = 8 ∧ i = 3)) σ (ab_I σ 8 3 v) := (FM.rf _ σ).I (decide_eq_true ⟨rfl, rfl⟩)
  obtain ⟨b1, b2, b3, b4, b5, b6⟩ := h
  exact ⟨⟨b1.fm F2 (fun i => decide_eq_false (by omega)) (fun i => decide_eq_false (by omega)) (fun i => decide_eq_false (by omega)) (fun i => decide_eq_false (by omega)), b2.fm hV F2 (fun k i hk => decide_eq_false (by omega)), b3, b4, b5.fm F2 (fun a i q1 q2 => decide_eq_false (by omega)), by rw [gI_s, if_pos rfl]; exact hv⟩, F2.mono (fun a i y => by have y := of_decide_eq_false y; exact decide_eq_false (by omega))⟩
/-- a node of the text; K79 when it is the last -/
theorem c_tN (h : CRd σ t n q g x Γ T) (hg : isG g) (hx : isT x) (hV : GRV Γ) (hI : TI Γ T) (hr : TRy Γ T) (hN : T.N < 250) {Q : Int32 → ab_S → Prop} {Bk : Int32 → ab_S → Prop} (k0 : (tN Γ t n T q).1 = 0 → ∀ σ', FM (Stx x) σ σ' → CS σ' t n (tN Γ t n T q).2.1 → Q 0 σ') (k1 : (tN Γ t n T q).1 = 1 → ∀ σ', FM (Stx x) σ σ' → CRd σ' t n (tN Γ t n T q).2.1 g x Γ (tN Γ t n T q).2.2 → Q 1 σ') (k2 : (tN Γ t n T q).1 = 2 → ∀ σ', FM (Stx x) σ σ' → CRd σ' t n (tN Γ t n T q).2.1 g x Γ (tN Γ t n T q).2.2 → Bk (nI (T.N + 1)) σ') : wX10_readNodes_l7_b Q E (wX10_readNodes_j79 Q E) Bk (nI T.N) σ := by
  have hgb := isG_b hg
  have hxb := isT_b hx
  have h30 := hV.2.1
  unfold wX10_readNodes_l7_b
  refine no (by simp (disch := omega) only [nI_lit, nI_add, nI_mulE, nI_clampE, nI_eqE, nI_leE, nI_ltE, vp_nIE, true_and, and_true]; omega) ?_
  refine c_tH h hg hx hV hI hr hN (fun τ F1 C1 => ?_)
  have eN : tN Γ t n T q = tJ Γ t n T.N (tH Γ t n T q) := rfl
  rw [eN] at k0 k1 k2
  have hA := tH_I (t := t) (n := n) (q := q) hI hr
  generalize tH Γ t n T q = r at *
  unfold tJ at k0 k1 k2
  cases hb : r.1
  · rw [hb, if_neg (by decide)] at k0
    exact no (fun z => z rfl) (k0 rfl τ F1 C1.1)
  · have hA := hA hb
    rw [hb, if_pos rfl] at k0 k1 k2
    have rN : r.2.2.N = T.N + 1 := hA.1
    have hp : r.2.2.pr T.N < Γ.2.1 := hA.2.2.2.2.1
    obtain ⟨d1, d2, d3, d4, d5⟩ := C1.2.2.2.2.1.2 T.N (by omega)
    have d6 : τ.2.1 (g + 6) (r.2.2.pr T.N) = nI (rt Γ (r.2.2.pr T.N)) := (C1.2.1.2.2.2 _ hp).2.1
    have hrt : rt Γ (r.2.2.pr T.N) ≤ 3 := (hV.2.2.2 _ hp).2.1.1
    refine yes (by decide) ⟨g, C1.2.2.1, hg, x, C1.2.2.2.1, hx, ?_⟩
    rw [nI_clampE (show T.N < 2147483648 by omega), d1, nI_clampE (show r.2.2.pr T.N < 2147483648 by omega), d6]
    refine ⟨by simp (disch := omega) only [nI_lit, nI_add, nI_mulE, nI_clampE, nI_eqE, nI_leE, nI_ltE, vp_nIE, true_and, and_true]; omega, by simp (disch := omega) only [nI_lit, nI_add, nI_mulE, nI_clampE, nI_eqE, nI_leE, nI_ltE, vp_nIE, true_and, and_true]; omega, ?_⟩
    by_cases e0 : 0 < rt Γ (r.2.2.pr T.N)
    · rw [if_pos e0] at k0 k1 k2
      refine no (by show ¬ _ ≤ nI 0; simp (disch := omega) only [nI_lit, nI_add, nI_mulE, nI_clampE, nI_eqE, nI_leE, nI_ltE, vp_nIE, true_and, and_true]; omega) (fe ?_)
      have eab : nI T.N = abI (T.N + 1) := by rw [abI_s (by omega)]; congr 1
      obtain ⟨C2, F2⟩ := C1.ab hg hx hV eab
      refine c_take (w := 40) C2.1 (by omega) (by omega) (fun k40 τ3 f3 s3 => ?_) (fun k40 => ?_)
      · rw [if_pos k40] at k2
        obtain ⟨C3, F3⟩ := C2.adv hg hx hV f3 s3
        refine yes (by decide) ?_
        unfold wX10_readNodes_j109
        rw [nI_1]
        exact fe (k2 rfl τ3 ((F1.tr F2).tr F3) C3)
      · rw [if_neg k40] at k0
        exact no (fun z => z rfl) (k0 rfl _ (F1.tr F2) C2.1)
    · rw [if_neg e0] at k0 k1 k2
      have hI1 := hA.leaf hI (by omega)
      have ea : r.2.2.ab = T.ab := hA.2.1
      have hle := hI.1
      refine yes (by show _ ≤ nI 0; simp (disch := omega) only [nI_lit, nI_add, nI_mulE, nI_clampE, nI_eqE, nI_leE, nI_ltE, vp_nIE, true_and, and_true]; omega) ⟨251, ?_⟩
      refine c_tC hg hx hV 250 0 r.2.2 r.2.1 τ rfl (by omega) hI1 (by omega) C1 (fun τ2 F2 C2 => ?_)
      have hCI := tC_I (t := t) (n := n) 250 r.2.2 r.2.1 hI1 (by omega)
      generalize tC Γ t n 250 r.2.2 r.2.1 = u at *
      unfold tK at k0 k1 k2
      cases hu : u.1
      · rw [hu, if_neg (by decide)] at k0
        exact no (fun z => z rfl) (k0 rfl τ2 (F1.tr F2) C2.1)
      · obtain ⟨i1, i2, i3⟩ := hCI hu
        have hle2 := i1.1
        rw [hu, if_pos rfl] at k0 k1 k2
        refine yes (by decide) ?_
        rw [C2.2.2.2.2.2]
        by_cases e1 : u.2.2.ab = 0
        · rw [if_pos e1] at k0 k1
          refine no (fun z => z ((abI_0 (by omega)).mpr e1)) ?_
          unfold wX10_readNodes_j79
          have hk := tkK_lt (t := t) (n := n) (q := u.2.1)
          rw [C2.1.kind]
          by_cases e2 : tkK t n u.2.1 = 0
          · rw [if_pos e2] at k1
            exact no (fun z => z (by rw [e2]; rfl)) (k1 rfl τ2 (F1.tr F2) C2)
          · rw [if_neg e2] at k0
            exact yes (by show ¬ _ = nI 0; rw [nI_eqE (by omega) (by omega)]; exact e2) (k0 rfl τ2 (F1.tr F2) C2.1)
        · rw [if_neg e1] at k0 k2
          refine yes (fun z => e1 ((abI_0 (by omega)).mp z)) ?_
          refine c_take (w := 44) C2.1 (by omega) (by omega) (fun k44 τ3 f3 s3 => ?_) (fun k44 => ?_)
          · rw [if_pos k44] at k2
            obtain ⟨C3, F3⟩ := C2.adv hg hx hV f3 s3
            refine yes (by decide) ?_
            unfold wX10_readNodes_j109
            rw [nI_1]
            exact fe (k2 rfl τ3 ((F1.tr F2).tr F3) C3)
          · rw [if_neg k44] at k0
            exact no (fun z => z rfl) (k0 rfl τ2 (F1.tr F2) C2.1)
theorem tN_c (Γ : GRT) (t : Nat → Nat) (n : Nat) (T : TST) (q : Nat) : (tN Γ t n T q).1 = 0 ∨ (tN Γ t n T q).1 = 1 ∨ (tN Γ t n T q).1 = 2 := by
  unfold tN tJ tK
  split
  · split
    · split
      · exact Or.inr (Or.inr rfl)
      · exact Or.inl rfl
    · split
      · split
        · split
          · exact Or.inr (Or.inl rfl)
          · exact Or.inl rfl
        · split
          · exact Or.inr (Or.inr rfl)
          · exact Or.inl rfl
      · exact Or.inl rfl
  · exact Or.inl rfl
theorem c_tR (hg : isG g) (hx : isT x) (hV : GRV Γ) {Q : Int32 → ab_S → Prop} (σ0 : ab_S) : ∀ f T q σ, T.N + f = 250 → TI Γ T → TRy Γ T → FM (Stx x) σ0 σ → CRd σ t n q g x Γ T → ((tR Γ t n f T q).1 = true → ∀ σ', FM (Stx x) σ0 σ' → CTr σ' x (tR Γ t n f T q).2.2 → Q 1 σ') → ((tR Γ t n f T q).1 = false → ∀ σ', FM (Stx x) σ0 σ' → CS σ' t n (tR Γ t n f T q).2.1 → Q 0 σ') → wX10_readNodes_l7 Q E (wX10_readNodes_j79 Q E) (f + 1) (nI T.N) σ := by
  intro f
  induction f with
  | zero =>
    intro T q σ hf hI hr hF hC k1 k0
    show wX10_readNodes_l7_b _ _ _ _ _ _
    unfold wX10_readNodes_l7_b
    exact yes (by simp (disch := omega) only [nI_lit, nI_add, nI_mulE, nI_clampE, nI_eqE, nI_leE, nI_ltE, vp_nIE, true_and, and_true]; omega) (k0 rfl σ hF hC.1)
  | succ f ih =>
    intro T q σ hf hI hr hF hC k1 k0
    show wX10_readNodes_l7_b Q E (wX10_readNodes_j79 Q E) (wX10_readNodes_l7 Q E (wX10_readNodes_j79 Q E) (f + 1)) (nI T.N) σ
    obtain ⟨n2, n1⟩ := tN_I (t := t) (n := n) (q := q) hI hr (by omega)
    rw [tR] at k1 k0
    refine c_tN hC hg hx hV hI hr (by omega) (fun z σ' F' S' => ?_) (fun z σ' F' C' => ?_) (fun z σ' F' C' => ?_)
    · have z2 : ¬ (tN Γ t n T q).1 = 2 := by omega
      rw [if_neg z2] at k0
      exact k0 (decide_eq_false (by omega)) σ' (hF.tr F') S'
    · have z2 : ¬ (tN Γ t n T q).1 = 2 := by omega
      rw [if_neg z2] at k1
      exact k1 (decide_eq_true z) σ' (hF.tr F') C'.2.2.2.2.1
    · obtain ⟨a1, a2, a3, a4⟩ := n2 z
      rw [if_pos z] at k1 k0
      rw [← a3]
      exact ih _ _ σ' (by omega) a1 a2 (hF.tr F') C' k1 k0
/-- a text read as a tree, into x -/
theorem c_trd (hT : CT σ t n) (hg : isG g) (hx : isT x) (hV : GRV Γ) (hC : CGr σ g Γ) {Q : Int32 → ab_S → Prop} (kt : (pTr Γ t n).1 = true → ∀ σ', FM (fun a i => decide ((3 ≤ a ∧ a ≤ 6) ∨ (a = 8 ∧ 1 ≤ i ∧ i ≤ 3) ∨ (x ≤ a ∧ a ≤ x + 5))) σ σ' → CTr σ' x (pTr Γ t n).2.2 → Q (-1) σ') (kf : (pTr Γ t n).1 = false → (pTr Γ t n).2.1 ≤ n → ∀ σ', FM (fun a i => decide ((3 ≤ a ∧ a ≤ 6) ∨ (a = 8 ∧ 1 ≤ i ∧ i ≤ 3) ∨ (x ≤ a ∧ a ≤ x + 5))) σ σ' → Q (nI (pTr Γ t n).2.1) σ') : wX10_read g x Q E σ := by
  have hgb := isG_b hg
  have hxb := isT_b hx
  have hn := hT.1
  unfold wX10_read
  refine fe (fe (fe ?_))
  generalize hσ1 : ab_I (ab_R (ab_R σ 8 1 (some g)) 8 2 (some x)) x 0 0 = σ1
  have F1 : FM (fun a i => decide ((a = 8 ∧ 1 ≤ i ∧ i ≤ 3) ∨ (x ≤ a ∧ a ≤ x + 5))) σ σ1 := by
    rw [← hσ1]
    have r1 : FM (fun a i => decide ((a = 8 ∧ 1 ≤ i ∧ i ≤ 3) ∨ (x ≤ a ∧ a ≤ x + 5))) σ (ab_R (ab_R σ 8 1 (some g)) 8 2 (some x)) := by
      refine ⟨fun a i _ => rfl, fun a i _ => rfl, fun a i z => ?_⟩
      have z := of_decide_eq_false z
      by_cases e : a = 8
      · rw [gR_R, if_pos e, if_neg (by omega), gR_R, if_pos rfl, if_neg (by omega), e]
      · rw [gR_R, if_neg e, gR_R, if_neg e]
    exact r1.I (decide_eq_true (by omega))
  have r81 : σ1.2.2.2 8 1 = some g := by rw [← hσ1, gR_I, gR_R, if_pos rfl, if_neg (by decide), gR_R, if_pos rfl, if_pos rfl]
  have r82 : σ1.2.2.2 8 2 = some x := by rw [← hσ1, gR_I, gR_R, if_pos rfl, if_pos rfl]
  have rx0 : σ1.2.1 x 0 = nI 0 := by rw [← hσ1, gI_s, if_pos rfl]; rfl
  clear hσ1
  have T1 : CT σ1 t n := ⟨hn, by rw [F1.1 _ _ (decide_eq_false (by omega))]; exact hT.2.1, fun i hi => by rw [F1.1 _ _ (decide_eq_false (by omega))]; exact hT.2.2 i hi⟩
  refine c_open T1 (fun σ2 f2 s2 => ?_)
  have F2 : FM (fun a _ => decide (3 ≤ a ∧ a ≤ 6)) σ1 σ2 := (FrFM f2).mono (fun a i y => by have y := of_decide_eq_false y; simp [S36]; omega)
  unfold wX10_readNodes
  refine fe ⟨251, ?_⟩
  have F3 : FM (fun a i => decide (a = 8 ∧ i = 3)) σ2 (ab_I σ2 8 3 (-1)) := (FM.rf _ σ2).I (decide_eq_true ⟨rfl, rfl⟩)
  have C2 : CGr σ2 g Γ := (hC.fm hV F1 (fun k i hk => decide_eq_false (by omega))).fm hV F2 (fun k i hk => decide_eq_false (by omega))
  have F13 : FM (fun a i => decide ((3 ≤ a ∧ a ≤ 6) ∨ (a = 8 ∧ 1 ≤ i ∧ i ≤ 3) ∨ (x ≤ a ∧ a ≤ x + 5))) σ (ab_I σ2 8 3 (-1)) := ((F1.mono (fun a i y => by have y := of_decide_eq_false y; exact decide_eq_false (by omega))).tr (F2.mono (fun a i y => by have y := of_decide_eq_false y; exact decide_eq_false (by omega)))).tr (F3.mono (fun a i y => by have y := of_decide_eq_false y; exact decide_eq_false (by omega)))
  have up : ∀ {σ' : ab_S}, FM (Stx x) (ab_I σ2 8 3 (-1)) σ' → FM (fun a i => decide ((3 ≤ a ∧ a ≤ 6) ∨ (a = 8 ∧ 1 ≤ i ∧ i ≤ 3) ∨ (x ≤ a ∧ a ≤ x + 5))) σ σ' := fun f => F13.tr (f.mono (fun a i y => by have y := of_decide_eq_false y; exact decide_eq_false (by omega)))
  have C3 : CRd (ab_I σ2 8 3 (-1)) t n (sp bl t n 0) g x Γ t0 := ⟨s2.fm F3 (fun i => decide_eq_false (by omega)) (fun i => decide_eq_false (by omega)) (fun i => decide_eq_false (by omega)) (fun i => decide_eq_false (by omega)), C2.fm hV F3 (fun k i hk => decide_eq_false (by omega)), by rw [gR_I, F2.2.2 _ _ (decide_eq_false (by omega))]; exact r81, by rw [gR_I, F2.2.2 _ _ (decide_eq_false (by omega))]; exact r82, ⟨by rw [gI_o (by omega), F2.1 _ _ (decide_eq_false (by omega))]; exact rx0, fun k hk => absurd hk (Nat.not_lt_zero _)⟩, by rw [gI_s, if_pos rfl]; rfl⟩
  refine c_tR hg hx hV (ab_I σ2 8 3 (-1)) 250 t0 (sp bl t n 0) _ rfl (TI_0 Γ) ⟨fun _ => rfl, fun z => absurd rfl z⟩ (FM.rf _ _) C3 (fun z σ' F' C' => no (by decide) (kt z σ' (up F') C')) (fun z σ' F' S' => yes rfl ?_)
  rw [S'.place]
  exact kf z S'.le σ' (up F')
end CR
