/-! ===== stores: the store of an attribute, as a number ===== -/
noncomputable def stv (Γ : GRT) (s a : Nat) : Nat := @ite _ (s = 0 ∨ ¬ allS Γ s a) (Classical.propDecidable _) 2 (@ite _ (allA Γ s a) (Classical.propDecidable _) 0 1)
theorem stv_2 {Γ : GRT} {s a : Nat} (h : s = 0 ∨ ¬ allS Γ s a) : stv Γ s a = 2 := if_pos h
theorem stv_0 {Γ : GRT} {s a : Nat} (h : s ≠ 0) (h1 : allS Γ s a) (h2 : allA Γ s a) : stv Γ s a = 0 := by
  unfold stv
  rw [if_neg (fun z => z.elim h (fun q => q h1)), if_pos h2]
theorem stv_1 {Γ : GRT} {s a : Nat} (h : s ≠ 0) (h1 : allS Γ s a) (h2 : ¬ allA Γ s a) : stv Γ s a = 1 := by
  unfold stv
  rw [if_neg (fun z => z.elim h (fun q => q h1)), if_neg h2]
theorem stv_le (Γ : GRT) (s a : Nat) : stv Γ s a ≤ 2 := by
  unfold stv
  split
  · exact Nat.le_refl _
  · split <;> omega
/-- how many variables are ahead of (s, a) -/
noncomputable def vaA (Γ : GRT) (s : Nat) : Nat → Nat
  | 0 => 0
  | a + 1 => vaA Γ s a + (if stv Γ s a = 0 then 1 else 0)
noncomputable def vaS (Γ : GRT) : Nat → Nat
  | 0 => 0
  | s + 1 => vaS Γ s + vaA Γ s (Γ.1.2.2.1 s)
