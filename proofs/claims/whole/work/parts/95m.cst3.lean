/-! ===== stores, the class's: what is free ===== -/
section CS
variable {σ : ab_S} {g p : Nat} {Γ : GRT} {E : String → ab_S → Prop}
theorem c_fre (hZ : CZ σ g Γ) (hD : CDf σ Γ) (hV : GRV Γ) (hL : LVF Γ) (hp : p < Γ.2.1) {lo hi t a : Nat} (hlo : lo ≤ 48) (hhi : hi ≤ plN Γ p) {T : Int32} (hT : ∀ j, j ≤ 48 → ((T ≤ nI (plB Γ p + j)) ↔ hi ≤ j)) (ht : t < Γ.1.1) (ha : a < 8) {Q : Int32 → ab_S → Prop} (h1 : ¬ (∃ i, lo ≤ i ∧ i < hi ∧ dfE Γ (dF Γ) p i t a) → Q 1 σ) (h0 : (∃ i, lo ≤ i ∧ i < hi ∧ dfE Γ (dF Γ) p i t a) → Q 0 σ) : wX7_isFree (nI p) (nI (plB Γ p + lo)) T (nI t) (nI a) Q E σ := by
  have h30 := hV.2.1
  have h12 := hV.1.1
  have hpv := (hV.2.2.2 p hp).2.1
  have h3 := hpv.1
  have hB := plB_le hL hV p (by omega)
  have hN := plN_le hL hV hp
  obtain ⟨Y, hY, hYd⟩ := hD
  refine ⟨hi - lo + 1, ?_⟩
  suffices H : ∀ f j, hi - j = f → (j = lo ∨ (j ≤ hi ∧ lo ≤ j)) → (∀ i, lo ≤ i → i < j → ¬ dfE Γ (dF Γ) p i t a) → wX7_isFree_l3 (nI p) (nI (plB Γ p + lo)) T (nI t) (nI a) Q E (f + 1) (nI (plB Γ p + j)) σ from H _ lo rfl (Or.inl rfl) (fun i q1 q2 => by omega)
  intro f
  induction f with
  | zero =>
    intro j hf hj hno
    have q3 : hi ≤ j := by omega
    have q4 : j ≤ 48 := by omega
    show wX7_isFree_l3_b _ _ _ _ _ _ _ _ _ _
    unfold wX7_isFree_l3_b
    exact yes ((hT j q4).mpr q3) (h1 (fun ⟨i, i1, i2, i3⟩ => hno i i1 (by omega) i3))
  | succ f ih =>
    intro i hf hj hno
    have hin : i < plN Γ p := by omega
    have hih : i < hi := by omega
    have hlo2 : lo ≤ i := by omega
    have q1 : hi - (i + 1) = f := by omega
    have q2 : i + 1 = lo ∨ (i + 1 ≤ hi ∧ lo ≤ i + 1) := by omega
    obtain ⟨v12, v13, v14⟩ := c_ent hZ hp hin
    have ev : vp_in (nI (plB Γ p + i)) 1410 := by simp (disch := omega) only [nI_lit, nI_add, nI_mulE, nI_clampE, nI_eqE, nI_leE, nI_ltE, vp_nIE, true_and, and_true]; omega
    have ec : (nI (plB Γ p + i)).toNatClampNeg = plB Γ p + i := nI_clampE (by omega)
    show wX7_isFree_l3_b (nI p) (nI (plB Γ p + lo)) T (nI t) (nI a) Q E (wX7_isFree_l3 (nI p) (nI (plB Γ p + lo)) T (nI t) (nI a) Q E (f + 1)) (nI (plB Γ p + i)) σ
    unfold wX7_isFree_l3_b
    refine no (fun z => by have := (hT i (by omega)).mp z; omega) ⟨g, hZ.2.1, hZ.1.1, ?_⟩
    have fin : ∀ (x : Int32) (k : Nat → Bool), B32 x k → (k a = true ↔ dfE Γ (dF Γ) p i t a) → wX7_isFree_j92 (nI p) (nI (plB Γ p + lo)) T (nI t) (nI a) Q E (wX7_isFree_l3 (nI p) (nI (plB Γ p + lo)) T (nI t) (nI a) Q E (f + 1)) (nI (plB Γ p + i)) x σ := by
      intro x k hx hk
      have hb := hx.bit (x := a) (by omega)
      unfold wX7_isFree_j92
      cases hka : k a
      · refine yes (hb.mpr hka) ?_
        rw [nI_1, Nat.add_assoc]
        refine fe (ih (i + 1) q1 q2 (fun i' i1 i2 i3 => ?_))
        by_cases e : i' = i
        · rw [e] at i3
          have := hk.mpr i3
          rw [hka] at this; exact absurd this (by decide)
        · exact hno i' i1 (by omega) i3
      · exact no (fun z => by rw [hb.mp z] at hka; exact absurd hka (by decide)) (h0 ⟨i, hlo2, hih, hk.mp hka⟩)
    unfold wX4_occurrenceOf wX4_isVisit
    rw [ec, v14]
    rcases en_cs hV hL hp hin with ⟨z, x, x1, x2, x3, x4, x5, x6⟩ | ⟨w0, w1, w2, w3, w4, w5, w6⟩
    · obtain ⟨b1, b2, b3, b4, b5⟩ := enc_b x1
      have hsy : oSy Γ p (x / 8) < Γ.1.1 := hpv.2.1 _ x5
      have hdf : dfE Γ (dF Γ) p i t a ↔ oSy Γ p (x / 8) = t ∧ x % 8 = a := by
        unfold dfE
        rw [x4, b3, b5]
        constructor
        · rintro (⟨_, q, r⟩ | ⟨q, _⟩)
          · exact ⟨q, r⟩
          · omega
        · rintro ⟨q, r⟩; exact Or.inl ⟨b1, q, r⟩
      rw [z]
      refine ⟨ev, yes rfl (yes rfl ⟨ev, ?_⟩)⟩
      rw [v12, x4, i_div10 _ b2, b4, show nI (x / 8 + 1) - 1 = nI (x / 8) by show nI _ - nI 1 = _; rw [nI_subE (by omega)]; congr 1]
      refine c_sym hZ hV hp x5 ⟨ev, ?_⟩
      rw [v14, z]
      refine yes rfl (yes rfl ?_)
      by_cases e : oSy Γ p (x / 8) = t
      · refine no (fun q => q (by rw [e])) ?_
        unfold wX4_attributeOf wX7_isFree_j90
        rw [ec, v12, x4, i_mod10 _ b2, b5]
        refine ⟨ev, fin _ _ (B32.one (s := x % 8) (by omega)) ?_⟩
        rw [hdf, decide_eq_true_eq]
        exact ⟨fun q => ⟨e, q.symm⟩, fun q => q.2.symm⟩
      · refine yes (by rw [nI_eqE (by omega) (by omega)]; exact e) ?_
        unfold wX7_isFree_j90
        refine fin 0 _ B32.z ⟨fun q => absurd q Bool.false_ne_true, fun q => absurd (hdf.mp q).1 e⟩
    · have hsy : oSy Γ p (gE (plP Γ p) i).1 < Γ.1.1 := hpv.2.1 _ w4
      refine ⟨ev, no (by simp (disch := omega) only [nI_lit, nI_add, nI_mulE, nI_clampE, nI_eqE, nI_leE, nI_ltE, vp_nIE, true_and, and_true]; omega) (no (by decide) ⟨ev, ?_⟩)⟩
      rw [v12]
      refine c_sym hZ hV hp w4 ⟨ev, ?_⟩
      rw [v14]
      refine no (by simp (disch := omega) only [nI_lit, nI_add, nI_mulE, nI_clampE, nI_eqE, nI_leE, nI_ltE, vp_nIE, true_and, and_true]; omega) (no (by decide) ⟨ev, ?_⟩)
      unfold wX7_rowOf
      have erow : (nI (oSy Γ p (gE (plP Γ p) i).1) * 7 + nI (gE (plP Γ p) i).2.2) * 12 + nI t = nI ((oSy Γ p (gE (plP Γ p) i).1 * 7 + (gE (plP Γ p) i).2.2) * 12 + t) := by
        show (nI _ * nI 7 + nI _) * nI 12 + _ = _
        rw [nI_mulE, nI_add, nI_mulE, nI_add]
      rw [v14]
      dsimp only
      rw [erow, nI_clampE (show (oSy Γ p (gE (plP Γ p) i).1 * 7 + (gE (plP Γ p) i).2.2) * 12 + t < 2147483648 by omega)]
      refine ⟨by simp (disch := omega) only [nI_lit, nI_add, nI_mulE, nI_clampE, nI_eqE, nI_leE, nI_ltE, vp_nIE, true_and, and_true]; omega, fe (fin _ _ (hY _ (by omega)) ?_)⟩
      show (decide (a < 8) && Y (8 * ((oSy Γ p (gE (plP Γ p) i).1 * 7 + (gE (plP Γ p) i).2.2) * 12 + t) + a)) = true ↔ _
      rw [decide_eq_true ha, Bool.true_and, hYd _ _ _ _ (by omega) (by omega) ht ha]
      constructor
      · intro q; exact Or.inr ⟨by omega, q⟩
      · rintro (⟨q, _⟩ | ⟨_, q⟩)
        · omega
        · exact q
end CS
