/-! ===== the program, the class's: kinds and numbers ===== -/
def CW (σ : ab_S) (g : Nat) (Γ : GRT) : Prop := CZ σ g Γ ∧ CSf σ Γ ∧ σ.2.2.2 23 2 = some g
def S25 : Nat → Nat → Bool := fun a i => decide ((a = 23 ∧ i = 7) ∨ (24 ≤ a ∧ a ≤ 27))
theorem CW.fm {S : Nat → Nat → Bool} {σ σ' : ab_S} {g : Nat} {Γ : GRT} (h : CW σ g Γ) (hV : GRV Γ) (f : FM S σ σ') (e : ∀ a i, (11 ≤ a ∧ a ≤ 22) ∨ (g ≤ a ∧ a ≤ g + 17) ∨ (a = 23 ∧ i = 2) → S a i = false) : CW σ' g Γ :=
  ⟨h.1.fm hV f (fun k i hk => e _ _ (by omega)) (e _ _ (by omega)) (e _ _ (by omega)) (fun a i h1 h2 => e _ _ (by omega)), h.2.1.fm f (fun i => e _ _ (by omega)) (fun i => e _ _ (by omega)) (e _ _ (by omega)), by rw [f.2.2 _ _ (e _ _ (by omega))]; exact h.2.2⟩
theorem CW.s25 {σ σ' : ab_S} {g : Nat} {Γ : GRT} (h : CW σ g Γ) (hV : GRV Γ) (f : FM S25 σ σ') : CW σ' g Γ := by
  have hgb := isG_b h.1.1.1
  exact h.fm hV f (fun a i q => decide_eq_false (by omega))
section CP
variable {σ : ab_S} {g p : Nat} {Γ : GRT} {E : String → ab_S → Prop}
theorem c_cA (hW : CW σ g Γ) (hV : GRV Γ) {s a k : Nat} (hs : s < Γ.1.1) (ha : a ≤ 8) (hk : k ≤ 2) {Q : Int32 → ab_S → Prop} (h : Q (nI (cSt Γ s k (min a (Γ.1.2.2.1 s)))) σ) : wX7_countAhead (nI s) (nI a) (nI k) Q E σ := by
  have h12 := hV.1.1
  have h8 := (hV.1.2.2 s hs).2.1
  refine ⟨min a (Γ.1.2.2.1 s) + 1, ?_⟩
  suffices H : ∀ f i, min a (Γ.1.2.2.1 s) - i = f → i ≤ min a (Γ.1.2.2.1 s) → wX7_countAhead_l6 (nI s) (nI a) (nI k) Q E (f + 1) (nI (cSt Γ s k i)) (nI i) σ from H _ 0 rfl (Nat.zero_le _)
  intro f
  induction f with
  | zero =>
    intro i hf hi
    have e : i = min a (Γ.1.2.2.1 s) := by omega
    show wX7_countAhead_l6_b _ _ _ _ _ _ _ _ _
    unfold wX7_countAhead_l6_b
    rw [← e] at h
    by_cases c : a ≤ i
    · exact yes (by simp (disch := omega) only [nI_lit, nI_add, nI_mulE, nI_clampE, nI_eqE, nI_leE, nI_ltE, vp_nIE, true_and, and_true]; omega) h
    · refine no (by simp (disch := omega) only [nI_lit, nI_add, nI_mulE, nI_clampE, nI_eqE, nI_leE, nI_ltE, vp_nIE, true_and, and_true]; omega) ⟨g, hW.1.2.1, hW.1.1.1, by simp (disch := omega) only [nI_lit, nI_add, nI_mulE, nI_clampE, nI_eqE, nI_leE, nI_ltE, vp_nIE, true_and, and_true]; omega, ?_⟩
      rw [nI_clampE (show s < 2147483648 by omega), (hW.1.1.2.2.1.1.2 s hs).2.1]
      exact yes (by simp (disch := omega) only [nI_lit, nI_add, nI_mulE, nI_clampE, nI_eqE, nI_leE, nI_ltE, vp_nIE, true_and, and_true]; omega) h
  | succ f ih =>
    intro i hf hi
    have i1 : i < a := by omega
    have i2 : i < Γ.1.2.2.1 s := by omega
    have IH := ih (i + 1) (by omega) (by omega)
    have hst := stv_le Γ s i
    have e8 : nI s * 8 + nI i = nI (s * 8 + i) := by show nI s * nI 8 + _ = _; rw [nI_mulE, nI_add]
    show wX7_countAhead_l6_b (nI s) (nI a) (nI k) Q E (wX7_countAhead_l6 (nI s) (nI a) (nI k) Q E (f + 1)) _ (nI i) σ
    unfold wX7_countAhead_l6_b
    rw [e8, nI_clampE (show s < 2147483648 by omega), nI_clampE (show s * 8 + i < 2147483648 by omega)]
    refine no (by simp (disch := omega) only [nI_lit, nI_add, nI_mulE, nI_clampE, nI_eqE, nI_leE, nI_ltE, vp_nIE, true_and, and_true]; omega) ⟨g, hW.1.2.1, hW.1.1.1, by simp (disch := omega) only [nI_lit, nI_add, nI_mulE, nI_clampE, nI_eqE, nI_leE, nI_ltE, vp_nIE, true_and, and_true]; omega, ?_⟩
    rw [(hW.1.1.2.2.1.1.2 s hs).2.1, (hW.2.1.1 s i hs i2).1]
    refine no (by simp (disch := omega) only [nI_lit, nI_add, nI_mulE, nI_clampE, nI_eqE, nI_leE, nI_ltE, vp_nIE, true_and, and_true]; omega) ⟨by simp (disch := omega) only [nI_lit, nI_add, nI_mulE, nI_clampE, nI_eqE, nI_leE, nI_ltE, vp_nIE, true_and, and_true]; omega, ?_⟩
    have ec : cSt Γ s k (i + 1) = cSt Γ s k i + (if stv Γ s i = k then 1 else 0) := rfl
    by_cases c : stv Γ s i = k
    · rw [if_pos c] at ec
      rw [ec] at IH
      refine no (fun z => z (by rw [c])) ?_
      rw [nI_1]
      refine fe ?_
      unfold wX7_countAhead_j45
      rw [nI_1]
      exact fe IH
    · rw [if_neg c] at ec
      rw [ec, Nat.add_zero] at IH
      refine yes (by rw [nI_eqE (by omega) (by omega)]; exact c) ?_
      unfold wX7_countAhead_j45
      rw [nI_1]
      exact fe IH
theorem c_frA (hW : CW σ g Γ) (hV : GRV Γ) (hp : p < Γ.2.1) {o : Nat} (ho : o ≤ (Γ.2.2.1 p).2.1 + 1) {Q : Int32 → ab_S → Prop} (h : Q (nI (frA Γ p o)) σ) : wX7_frameAhead (nI p) (nI o) Q E σ := by
  have hpv := (hV.2.2.2 p hp).2.1
  have h3 := hpv.1
  by_cases h00 : o = 0
  · subst h00
    refine ⟨1, ?_⟩
    show wX7_frameAhead_l5_b _ _ _ _ _ _ _ _
    unfold wX7_frameAhead_l5_b
    exact yes (by decide) h
  refine ⟨o - 1 + 1, ?_⟩
  suffices H : ∀ f k, o - k = f → 1 ≤ k → k ≤ o → wX7_frameAhead_l5 (nI p) (nI o) Q E (f + 1) (nI (frA Γ p k)) (nI k) σ from H (o - 1) 1 rfl (Nat.le_refl _) (by omega)
  intro f
  induction f with
  | zero =>
    intro k hf h1 hk
    have e : k = o := by omega
    show wX7_frameAhead_l5_b _ _ _ _ _ _ _ _
    unfold wX7_frameAhead_l5_b
    rw [e]
    exact yes (by simp (disch := omega) only [nI_lit, nI_add, nI_mulE, nI_clampE, nI_eqE, nI_leE, nI_ltE, vp_nIE, true_and, and_true]; omega) h
  | succ f ih =>
    intro k hf h1 hk
    have hko : k ≤ (Γ.2.2.1 p).2.1 := by omega
    have hs : oSy Γ p k < Γ.1.1 := hpv.2.1 k hko
    have h8 := (hV.1.2.2 _ hs).2.1
    have IH := ih (k + 1) (by omega) (by omega) (by omega)
    show wX7_frameAhead_l5_b (nI p) (nI o) Q E (wX7_frameAhead_l5 (nI p) (nI o) Q E (f + 1)) _ (nI k) σ
    unfold wX7_frameAhead_l5_b
    refine no (by simp (disch := omega) only [nI_lit, nI_add, nI_mulE, nI_clampE, nI_eqE, nI_leE, nI_ltE, vp_nIE, true_and, and_true]; omega) ⟨g, hW.1.2.1, hW.1.1.1, ?_⟩
    refine c_sym hW.1 hV hp hko ?_
    refine c_cA hW hV hs (a := 8) (k := 1) (by omega) (by omega) ?_
    rw [nI_1, nI_add, Nat.min_eq_right h8]
    have ec : frA Γ p (k + 1) = frA Γ p k + cSt Γ (oSy Γ p k) 1 (Γ.1.2.2.1 (oSy Γ p k)) := by
      show frA Γ p k + (if k = 0 then 0 else _) = _
      rw [if_neg (by omega)]
    rw [ec] at IH
    exact fe (fe IH)
theorem c_atA (hW : CW σ g Γ) (hV : GRV Γ) (hp : p < Γ.2.1) {x : Nat} (hx : x < 32) (ho : x / 8 ≤ (Γ.2.2.1 p).2.1) {Q : Int32 → ab_S → Prop} (h : Q (nI (oSy Γ p (x / 8) * 8 + x % 8)) σ) : wX5_attributeAt (nI p) (nI x) Q E σ := by
  unfold wX5_attributeAt
  refine ⟨g, hW.2.2, hW.1.1.1, ?_⟩
  rw [i_mod8 x (by omega), i_div8 x (by omega)]
  refine c_sym hW.1 hV hp ho ?_
  have e8 : nI (oSy Γ p (x / 8)) * 8 + nI (x % 8) = nI (oSy Γ p (x / 8) * 8 + x % 8) := by show nI _ * nI 8 + _ = _; rw [nI_mulE, nI_add]
  rw [e8]; exact h
theorem c_gK (hW : CW σ g Γ) (hV : GRV Γ) (hp : p < Γ.2.1) {x : Nat} (hx : x < 32) (ho : x / 8 ≤ (Γ.2.2.1 p).2.1) (ha : x % 8 < Γ.1.2.2.1 (oSy Γ p (x / 8))) {Q : Int32 → ab_S → Prop} (h : Q (nI (gK Γ p x)) σ) : wX5_getKind (nI p) (nI x) Q E σ := by
  have h12 := hV.1.1
  have hs : oSy Γ p (x / 8) < Γ.1.1 := (hV.2.2.2 p hp).2.1.2.1 _ ho
  have hst := stv_le Γ (oSy Γ p (x / 8)) (x % 8)
  unfold wX5_getKind
  refine c_atA hW hV hp hx ho ?_
  rw [nI_clampE (show oSy Γ p (x / 8) * 8 + x % 8 < 2147483648 by omega), (hW.2.1.1 _ _ hs ha).1]
  refine ⟨by simp (disch := omega) only [nI_lit, nI_add, nI_mulE, nI_clampE, nI_eqE, nI_leE, nI_ltE, vp_nIE, true_and, and_true]; omega, ?_⟩
  unfold gK at h
  by_cases c0 : stv Γ (oSy Γ p (x / 8)) (x % 8) = 0
  · rw [if_pos c0] at h
    exact yes (by rw [c0]; rfl) h
  · rw [if_neg c0] at h
    refine no (by show ¬ _ = nI 0; rw [nI_eqE (by omega) (by omega)]; exact c0) ?_
    by_cases c1 : stv Γ (oSy Γ p (x / 8)) (x % 8) = 1
    · rw [if_pos c1] at h
      refine yes (by rw [c1]; rfl) ?_
      by_cases c8 : x < 8
      · rw [if_pos c8] at h
        exact no (by simp (disch := omega) only [nI_lit, nI_add, nI_mulE, nI_clampE, nI_eqE, nI_leE, nI_ltE, vp_nIE, true_and, and_true]; omega) h
      · rw [if_neg c8] at h
        exact yes (by simp (disch := omega) only [nI_lit, nI_add, nI_mulE, nI_clampE, nI_eqE, nI_leE, nI_ltE, vp_nIE, true_and, and_true]; omega) h
    · rw [if_neg c1] at h
      exact no (by show ¬ _ = nI 1; rw [nI_eqE (by omega) (by omega)]; exact c1) h
theorem c_gN (hW : CW σ g Γ) (hV : GRV Γ) (hp : p < Γ.2.1) {x : Nat} (hx : x < 32) (ho : x / 8 ≤ (Γ.2.2.1 p).2.1) (ha : x % 8 < Γ.1.2.2.1 (oSy Γ p (x / 8))) {Q : Int32 → ab_S → Prop} (h : Q (nI (gN Γ p x)) σ) : wX5_getNumber (nI p) (nI x) Q E σ := by
  have h12 := hV.1.1
  have hs : oSy Γ p (x / 8) < Γ.1.1 := (hV.2.2.2 p hp).2.1.2.1 _ ho
  have h8 := (hV.1.2.2 _ hs).2.1
  have hst := stv_le Γ (oSy Γ p (x / 8)) (x % 8)
  have ec : (nI (oSy Γ p (x / 8) * 8 + x % 8)).toNatClampNeg = oSy Γ p (x / 8) * 8 + x % 8 := nI_clampE (by omega)
  have ev : vp_in (nI (oSy Γ p (x / 8) * 8 + x % 8)) 96 := by simp (disch := omega) only [nI_lit, nI_add, nI_mulE, nI_clampE, nI_eqE, nI_leE, nI_ltE, vp_nIE, true_and, and_true]; omega
  unfold wX5_getNumber
  rw [i_mod8 x (by omega), i_div8 x (by omega)]
  refine fe (fe ?_)
  refine c_atA hW hV hp hx ho ?_
  rw [ec, (hW.2.1.1 _ _ hs ha).1]
  refine ⟨ev, ?_⟩
  unfold gN at h
  by_cases c0 : stv Γ (oSy Γ p (x / 8)) (x % 8) = 0
  · rw [if_pos c0] at h
    refine yes (by rw [c0]; rfl) ?_
    refine c_atA hW hV hp hx ho ?_
    rw [ec, (hW.2.1.1 _ _ hs ha).2]
    exact ⟨ev, h⟩
  · rw [if_neg c0] at h
    refine no (by show ¬ _ = nI 0; rw [nI_eqE (by omega) (by omega)]; exact c0) ?_
    by_cases c1 : stv Γ (oSy Γ p (x / 8)) (x % 8) = 1
    · rw [if_pos c1] at h
      refine yes (by rw [c1]; rfl) ?_
      refine c_frA hW hV hp (by omega) ⟨g, hW.2.2, hW.1.1.1, ?_⟩
      refine c_sym hW.1 hV hp ho ?_
      refine c_cA hW hV hs (a := x % 8) (k := 1) (by omega) (by omega) ?_
      rw [nI_add, Nat.min_eq_left (by omega)]
      exact h
    · rw [if_neg c1] at h
      refine no (by show ¬ _ = nI 1; rw [nI_eqE (by omega) (by omega)]; exact c1) ?_
      have e10 : (10 : Int32) * nI (x / 8) + nI (x % 8) = nI (10 * (x / 8) + x % 8) := by show nI 10 * _ + _ = _; rw [nI_mulE, nI_add]
      rw [e10]; exact h
end CP
