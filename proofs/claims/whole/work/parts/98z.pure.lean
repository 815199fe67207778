/-! ===== whole ===== -/
def A0 : AST := ((fun _ => 0, 0), (false, fun _ => 0, 0), (false, (default : TST)), (false, (default : MST), 0))
set_option maxRecDepth 100000 in
theorem inv0 : Inv (gst 164 2 6 168) := by
  refine ⟨A0, ⟨fun z => absurd z Bool.false_ne_true, fun z => absurd z Bool.false_ne_true, fun z => absurd z Bool.false_ne_true⟩, ⟨44, 62, 80, 86, ⟨Nat.zero_le _, rfl, fun i hi => absurd hi (Nat.not_lt_zero _)⟩, ⟨Or.inl rfl, Or.inr rfl, by decide, Or.inl rfl, Or.inr rfl, by decide⟩, ⟨rfl, rfl, rfl, rfl⟩, ⟨rfl, rfl, rfl⟩, ⟨rfl, rfl⟩, fun z => absurd z Bool.false_ne_true, fun z => absurd z Bool.false_ne_true, fun z => absurd z Bool.false_ne_true⟩, ⟨⟨Nat.zero_le _, rfl, fun i hi => absurd hi (Nat.not_lt_zero _)⟩, ?_, ⟨rfl, rfl, rfl⟩, fun z => absurd z Bool.false_ne_true, fun z => absurd z Bool.false_ne_true, fun z => absurd z Bool.false_ne_true⟩⟩
  intro j hj
  have : j = 0 ∨ j = 1 ∨ j = 2 ∨ j = 3 ∨ j = 4 ∨ j = 5 := by omega
  rcases this with e | e | e | e | e | e <;> (rw [e]; rfl)
theorem whole_pure (L : Nat) (xs : Nat → Int32) (hL : L ≤ 2048) : ∃ n, n ≤ 600 ∧ wL_law L xs n 0 (gst 164 2 6 168) :=
  ⟨512 + 1, by decide, law_all hL 512 0 _ (by omega) (by omega) inv0⟩
