/-! ===== a TEST and the JUMP that belongs to it ===== -/
def T13 (c : List (Nat × Nat)) : Prop := ∀ j, j < c.length → (c.getD j (0, 0)).1 = 13 → 1 ≤ (c.getD j (0, 0)).2 ∧ j + (c.getD j (0, 0)).2 ≤ c.length ∧ (c.getD (j + (c.getD j (0, 0)).2 - 1) (0, 0)).1 = 14
theorem T13.app {a c : List (Nat × Nat)} (h1 : T13 a) (h2 : T13 c) : T13 (a ++ c) := by
  intro j hj hk
  rw [List.length_append] at hj ⊢
  by_cases h : j < a.length
  · rw [gp_l h] at hk ⊢
    obtain ⟨u1, u2, u3⟩ := h1 j h hk
    refine ⟨u1, by omega, ?_⟩
    rw [gp_l (by omega)]; exact u3
  · rw [gp_r (by omega)] at hk ⊢
    obtain ⟨u1, u2, u3⟩ := h2 (j - a.length) (by omega) hk
    refine ⟨u1, by omega, ?_⟩
    rw [gp_r (by omega), show j + (c.getD (j - a.length) (0, 0)).2 - 1 - a.length = j - a.length + (c.getD (j - a.length) (0, 0)).2 - 1 by omega]
    exact u3
theorem T13.one {z : Nat × Nat} (h : z.1 ≠ 13) : T13 [z] := by
  intro j hj hk
  have e : j = 0 := by have : j < 1 := hj; omega
  rw [e] at hk
  exact absurd hk h
theorem T13.ifb {c : List (Nat × Nat)} {v : Nat} (h : T13 c) : T13 ([(13, c.length + 2)] ++ c ++ [(14, v)]) := by
  have hr : T13 (c ++ [(14, v)]) := h.app (T13.one (by show (14 : Nat) ≠ 13; omega))
  have e : [(13, c.length + 2)] ++ c ++ [(14, v)] = (13, c.length + 2) :: (c ++ [(14, v)]) := by simp
  rw [e]
  intro j hj hk
  cases j with
  | zero =>
    have e0 : (((13, c.length + 2) :: (c ++ [(14, v)])).getD 0 (0, 0)) = (13, c.length + 2) := rfl
    rw [e0]
    refine ⟨by show 1 ≤ c.length + 2; omega, by show 0 + (c.length + 2) ≤ _; rw [List.length_cons, List.length_append, List.length_singleton]; omega, ?_⟩
    show (((13, c.length + 2) :: (c ++ [(14, v)])).getD (0 + (c.length + 2) - 1) (0, 0)).1 = 14
    rw [show 0 + (c.length + 2) - 1 = c.length + 1 by omega]
    show ((c ++ [(14, v)]).getD c.length (0, 0)).1 = 14
    rw [gp_r (Nat.le_refl _), Nat.sub_self]; rfl
  | succ j =>
    have es : ∀ i, ((13, c.length + 2) :: (c ++ [(14, v)])).getD (i + 1) (0, 0) = (c ++ [(14, v)]).getD i (0, 0) := fun i => rfl
    rw [es] at hk ⊢
    rw [List.length_cons] at hj ⊢
    obtain ⟨u1, u2, u3⟩ := hr j (by omega) hk
    refine ⟨u1, by omega, ?_⟩
    generalize ((c ++ [(14, v)]).getD j (0, 0)).2 = w at *
    have ew : j + 1 + w - 1 = (j + w - 1) + 1 := by omega
    rw [ew, es]
    exact u3
theorem CR_T13a {ok : Nat → Prop} {lt : Bool} {h : Nat} {m c : List (Nat × Nat)} (hC : CR ok lt h m c) : T13 c ∧ ∀ z, z ∈ c → z.1 ≤ 2 ∨ (6 ≤ z.1 ∧ z.1 ≤ 14) := by
  refine hC (fun _ _ c => T13 c ∧ ∀ z, z ∈ c → z.1 ≤ 2 ∨ (6 ≤ z.1 ∧ z.1 ≤ 14)) ⟨fun v _ => ⟨T13.one (by show (0 : Nat) ≠ 13; omega), fun z hz => ?_⟩, fun _ => ⟨T13.one (by show (1 : Nat) ≠ 13; omega), fun z hz => ?_⟩, fun s _ => ⟨T13.one (by show (2 : Nat) ≠ 13; omega), fun z hz => ?_⟩, fun h m c z => ⟨z.1.app (T13.one (by show (6 : Nat) ≠ 13; omega)), fun y hy => ?_⟩, fun o ho h m c m2 c2 z y => ⟨(z.1.app y.1).app (T13.one (by have := bo_b ho; show bo o ≠ 13; omega)), fun w hw => ?_⟩, fun h m1 c1 m2 c2 m3 c3 x y z => ⟨?_, fun w hw => ?_⟩, fun h m c z => z⟩
  · rw [List.mem_singleton.mp hz]; exact Or.inl (by show 0 ≤ 2; omega)
  · rw [List.mem_singleton.mp hz]; exact Or.inl (by show 1 ≤ 2; omega)
  · rw [List.mem_singleton.mp hz]; exact Or.inl (Nat.le_refl _)
  · rcases List.mem_append.mp hy with hy | hy
    · exact z.2 y hy
    · rw [List.mem_singleton.mp hy]; exact Or.inr ⟨by show 6 ≤ 6; omega, by show 6 ≤ 14; omega⟩
  · rcases List.mem_append.mp hw with hw | hw
    · rcases List.mem_append.mp hw with hw | hw
      · exact z.2 w hw
      · exact y.2 w hw
    · have := bo_b ho
      rw [List.mem_singleton.mp hw]; exact Or.inr ⟨by show 6 ≤ bo o; omega, by show bo o ≤ 14; omega⟩
  · have e : c1 ++ [(13, c2.length + 2)] ++ c2 ++ [(14, c3.length + 1)] ++ c3 = c1 ++ ([(13, c2.length + 2)] ++ c2 ++ [(14, c3.length + 1)]) ++ c3 := by simp
    rw [e]
    exact (x.1.app y.1.ifb).app z.1
  · simp only [List.mem_append, List.mem_singleton] at hw
    rcases hw with (((hw | hw) | hw) | hw) | hw
    · exact x.2 w hw
    · rw [hw]; exact Or.inr ⟨by show 6 ≤ 13; omega, by show 13 ≤ 14; omega⟩
    · exact y.2 w hw
    · rw [hw]; exact Or.inr ⟨by show 6 ≤ 14; omega, by show 14 ≤ 14; omega⟩
    · exact z.2 w hw
theorem CR_T13 {ok : Nat → Prop} {lt : Bool} {h : Nat} {m c : List (Nat × Nat)} (hC : CR ok lt h m c) {j : Nat} (hj : j < c.length) (hk : (c.getD j (0, 0)).1 = 13) : 1 ≤ (c.getD j (0, 0)).2 ∧ j + (c.getD j (0, 0)).2 ≤ c.length ∧ (c.getD (j + (c.getD j (0, 0)).2 - 1) (0, 0)).1 = 14 := (CR_T13a hC).1 j hj hk
theorem CR_kn {ok : Nat → Prop} {lt : Bool} {h : Nat} {m c : List (Nat × Nat)} (hC : CR ok lt h m c) : ∀ z, z ∈ c → z.1 ≤ 2 ∨ (6 ≤ z.1 ∧ z.1 ≤ 14) := (CR_T13a hC).2
