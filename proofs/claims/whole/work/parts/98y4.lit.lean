/-! ===== the machine: expressions go on whatever the values are ===== -/
/-- what may come behind an instruction -/
def OKs (C : List (Nat × Nat)) (A : Nat → Nat → Prop) (j h : Nat) : Prop :=
  ((C.getD j (0, 0)).1 ≤ 2 ∧ A (j + 1) (h + 1)) ∨ ((C.getD j (0, 0)).1 = 6 ∧ 1 ≤ h ∧ A (j + 1) h) ∨ (7 ≤ (C.getD j (0, 0)).1 ∧ (C.getD j (0, 0)).1 ≤ 12 ∧ 2 ≤ h ∧ A (j + 1) (h - 1)) ∨ ((C.getD j (0, 0)).1 = 13 ∧ 1 ≤ h ∧ A (j + 1) (h - 1) ∧ 0 < (C.getD j (0, 0)).2 ∧ A (j + (C.getD j (0, 0)).2) (h - 1) ∧ j < j + (C.getD j (0, 0)).2 - 1 + (C.getD (j + (C.getD j (0, 0)).2 - 1) (0, 0)).2 ∧ A (j + (C.getD j (0, 0)).2 - 1 + (C.getD (j + (C.getD j (0, 0)).2 - 1) (0, 0)).2) h) ∨ ((C.getD j (0, 0)).1 = 14 ∧ 0 < (C.getD j (0, 0)).2 ∧ A (j + (C.getD j (0, 0)).2) h)
theorem OKs.mo {C : List (Nat × Nat)} {A B : Nat → Nat → Prop} (k : ∀ j h, A j h → B j h) {j h : Nat} (o : OKs C A j h) : OKs C B j h := by
  rcases o with ⟨a, b⟩ | ⟨a, b, c⟩ | ⟨a, b, c, d⟩ | ⟨a, b, c, d, e, f, g⟩ | ⟨a, b, c⟩
  · exact Or.inl ⟨a, k _ _ b⟩
  · exact Or.inr (Or.inl ⟨a, b, k _ _ c⟩)
  · exact Or.inr (Or.inr (Or.inl ⟨a, b, c, k _ _ d⟩))
  · exact Or.inr (Or.inr (Or.inr (Or.inl ⟨a, b, k _ _ c, d, k _ _ e, f, k _ _ g⟩)))
  · exact Or.inr (Or.inr (Or.inr (Or.inr ⟨a, b, k _ _ c⟩)))
def ACl (C : List (Nat × Nat)) (lo hi H he : Nat) (A : Nat → Nat → Prop) : Prop := ∀ j h, A j h → lo ≤ j ∧ j ≤ hi ∧ h ≤ H ∧ (j = hi → h = he) ∧ (j < hi → OKs C A j h)
def PAc (h : Nat) (c : List (Nat × Nat)) : Prop := ∀ pre post h0, ∃ A : Nat → Nat → Prop, A pre.length h0 ∧ ACl (pre ++ c ++ post) pre.length (pre.length + c.length) (h0 + h) (h0 + 1) A
theorem PA_leaf {y : Nat × Nat} (hy : y.1 ≤ 2) : PAc 1 [y] := by
  intro pre post h0
  refine ⟨fun j h => (j = pre.length ∧ h = h0) ∨ (j = pre.length + 1 ∧ h = h0 + 1), Or.inl ⟨rfl, rfl⟩, fun j h hj => ?_⟩
  have eg : (pre ++ [y] ++ post).getD pre.length (0, 0) = y := by rw [List.append_assoc]; exact gdm
  rcases hj with ⟨e1, e2⟩ | ⟨e1, e2⟩
  · rw [e1, e2]
    refine ⟨Nat.le_refl _, by simp, by omega, fun z => ?_, fun _ => Or.inl ⟨by rw [eg]; exact hy, Or.inr ⟨rfl, rfl⟩⟩⟩
    rw [List.length_singleton] at z; omega
  · rw [e1, e2]
    refine ⟨by omega, by simp, by omega, fun _ => rfl, fun z => ?_⟩
    rw [List.length_singleton] at z; omega
theorem PA_neg {h : Nat} {c : List (Nat × Nat)} (h1 : 1 ≤ h) (hc : PAc h c) : PAc h (c ++ [(6, 0)]) := by
  intro pre post h0
  obtain ⟨A, a1, a2⟩ := hc pre ([(6, 0)] ++ post) h0
  have e : pre ++ (c ++ [(6, 0)]) ++ post = pre ++ c ++ ([(6, 0)] ++ post) := by simp
  have el : (c ++ [((6 : Nat), (0 : Nat))]).length = c.length + 1 := by simp
  have eg : (pre ++ c ++ ([(6, 0)] ++ post)).getD (pre.length + c.length) (0, 0) = (6, 0) := by rw [← List.length_append]; exact gdm
  rw [e, el]
  refine ⟨fun j h => A j h ∨ (j = pre.length + c.length + 1 ∧ h = h0 + 1), Or.inl a1, fun j hh hj => ?_⟩
  rcases hj with hj | ⟨e1, e2⟩
  · obtain ⟨b1, b2, b3, b4, b5⟩ := a2 j hh hj
    refine ⟨b1, by omega, b3, fun z => by omega, fun _ => ?_⟩
    by_cases q : j = pre.length + c.length
    · have := b4 q
      exact Or.inr (Or.inl ⟨by rw [q, eg], by omega, Or.inr ⟨by omega, this⟩⟩)
    · exact (b5 (by omega)).mo (fun _ _ => Or.inl)
  · exact ⟨by omega, by omega, by omega, fun _ => e2, fun z => by omega⟩
theorem PA_bin {h o : Nat} {c c2 : List (Nat × Nat)} (ho : o ∈ mops) (h1 : 1 ≤ h) (hc : PAc (h + 1) c) (hc2 : PAc h c2) : PAc (h + 1) (c ++ c2 ++ [(bo o, 0)]) := by
  intro pre post h0
  have hb := bo_b ho
  obtain ⟨A, a1, a2⟩ := hc pre (c2 ++ [(bo o, 0)] ++ post) h0
  obtain ⟨B, b1, b2⟩ := hc2 (pre ++ c) ([(bo o, 0)] ++ post) (h0 + 1)
  have e1 : pre ++ (c ++ c2 ++ [(bo o, 0)]) ++ post = pre ++ c ++ (c2 ++ [(bo o, 0)] ++ post) := by simp
  have e2 : pre ++ c ++ (c2 ++ [(bo o, 0)] ++ post) = pre ++ c ++ c2 ++ ([(bo o, 0)] ++ post) := by simp
  have el : (c ++ c2 ++ [(bo o, (0 : Nat))]).length = c.length + c2.length + 1 := by simp; omega
  have eg : (pre ++ c ++ (c2 ++ [(bo o, 0)] ++ post)).getD (pre.length + c.length + c2.length) (0, 0) = (bo o, 0) := by
    rw [e2, ← List.length_append, ← List.length_append]; exact gdm
  rw [← e2] at b2
  rw [List.length_append] at b1 b2
  rw [e1, el]
  refine ⟨fun j h => A j h ∨ B j h ∨ (j = pre.length + c.length + c2.length + 1 ∧ h = h0 + 1), Or.inl a1, fun j hh hj => ?_⟩
  have Bok : ∀ j hh, B j hh → pre.length ≤ j ∧ j ≤ pre.length + (c.length + c2.length + 1) ∧ hh ≤ h0 + (h + 1) ∧ (j = pre.length + (c.length + c2.length + 1) → hh = h0 + 1) ∧ (j < pre.length + (c.length + c2.length + 1) → OKs (pre ++ c ++ (c2 ++ [(bo o, 0)] ++ post)) (fun j h => A j h ∨ B j h ∨ (j = pre.length + c.length + c2.length + 1 ∧ h = h0 + 1)) j hh) := by
    intro j hh hj
    obtain ⟨d1, d2, d3, d4, d5⟩ := b2 j hh hj
    refine ⟨by omega, by omega, by omega, fun z => by omega, fun _ => ?_⟩
    by_cases q : j = pre.length + c.length + c2.length
    · have := d4 q
      refine Or.inr (Or.inr (Or.inl ⟨?_, ?_, by omega, Or.inr (Or.inr ⟨by omega, by omega⟩)⟩))
      · rw [q, eg]; exact hb.1
      · rw [q, eg]; exact hb.2
    · exact (d5 (by omega)).mo (fun _ _ z => Or.inr (Or.inl z))
  rcases hj with hj | hj | ⟨q1, q2⟩
  · obtain ⟨d1, d2, d3, d4, d5⟩ := a2 j hh hj
    by_cases q : j = pre.length + c.length
    · have := d4 q
      rw [q, this]
      exact Bok _ _ b1
    · exact ⟨d1, by omega, by omega, fun z => by omega, fun _ => (d5 (by omega)).mo (fun _ _ => Or.inl)⟩
  · exact Bok j hh hj
  · exact ⟨by omega, by omega, by omega, fun _ => q2, fun z => by omega⟩
theorem PA_if {h : Nat} {c1 c2 c3 : List (Nat × Nat)} (h1 : 1 ≤ h) (p1 : PAc (h + 2) c1) (p2 : PAc (h + 1) c2) (p3 : PAc h c3) : PAc (h + 2) (c1 ++ [(13, c2.length + 2)] ++ c2 ++ [(14, c3.length + 1)] ++ c3) := by
  intro pre post h0
  obtain ⟨C, hC⟩ : ∃ C, C = pre ++ (c1 ++ [(13, c2.length + 2)] ++ c2 ++ [(14, c3.length + 1)] ++ c3) ++ post := ⟨_, rfl⟩
  have eC1 : C = pre ++ c1 ++ ((13, c2.length + 2) :: (c2 ++ [(14, c3.length + 1)] ++ c3 ++ post)) := by rw [hC]; simp
  have eC2 : C = (pre ++ c1 ++ [(13, c2.length + 2)]) ++ c2 ++ ((14, c3.length + 1) :: (c3 ++ post)) := by rw [hC]; simp
  have eC3 : C = (pre ++ c1 ++ [(13, c2.length + 2)] ++ c2 ++ [(14, c3.length + 1)]) ++ c3 ++ post := by rw [hC]; simp
  have el : (c1 ++ [((13 : Nat), c2.length + 2)] ++ c2 ++ [((14 : Nat), c3.length + 1)] ++ c3).length = c1.length + 1 + c2.length + 1 + c3.length := by simp only [List.length_append, List.length_cons, List.length_nil] <;> omega
  have lp2 : (pre ++ c1 ++ [((13 : Nat), c2.length + 2)]).length = pre.length + c1.length + 1 := by simp only [List.length_append, List.length_cons, List.length_nil] <;> omega
  have lp3 : (pre ++ c1 ++ [((13 : Nat), c2.length + 2)] ++ c2 ++ [((14 : Nat), c3.length + 1)]).length = pre.length + c1.length + c2.length + 2 := by simp only [List.length_append, List.length_cons, List.length_nil] <;> omega
  have gT : C.getD (pre.length + c1.length) (0, 0) = (13, c2.length + 2) := by rw [eC1, ← List.length_append]; exact gdm
  have gJ : C.getD (pre.length + c1.length + 1 + c2.length) (0, 0) = (14, c3.length + 1) := by rw [eC2, ← lp2, ← List.length_append]; exact gdm
  obtain ⟨A, a1, a2⟩ := p1 pre ((13, c2.length + 2) :: (c2 ++ [(14, c3.length + 1)] ++ c3 ++ post)) h0
  obtain ⟨B, b1, b2⟩ := p2 (pre ++ c1 ++ [(13, c2.length + 2)]) ((14, c3.length + 1) :: (c3 ++ post)) h0
  obtain ⟨D, d1, d2⟩ := p3 (pre ++ c1 ++ [(13, c2.length + 2)] ++ c2 ++ [(14, c3.length + 1)]) post h0
  rw [← eC1] at a2
  rw [← eC2, lp2] at b2
  rw [lp2] at b1
  rw [← eC3, lp3] at d2
  rw [lp3] at d1
  rw [← hC, el]
  refine ⟨fun j h => A j h ∨ B j h ∨ D j h ∨ (j = pre.length + c1.length + c2.length + 2 + c3.length ∧ h = h0 + 1), Or.inl a1, fun j hh hj => ?_⟩
  rcases hj with hj | hj | hj | ⟨q1, q2⟩
  · obtain ⟨m1, m2, m3, m4, m5⟩ := a2 j hh hj
    refine ⟨m1, by omega, by omega, fun z => by omega, fun _ => ?_⟩
    by_cases q : j = pre.length + c1.length
    · have e := m4 q
      have g1 : C.getD j (0, 0) = (13, c2.length + 2) := by rw [q]; exact gT
      have g2 : j + (c2.length + 2) - 1 = pre.length + c1.length + 1 + c2.length := by omega
      refine Or.inr (Or.inr (Or.inr (Or.inl ?_)))
      rw [g1]
      show (13 : Nat) = 13 ∧ 1 ≤ hh ∧ _ ∧ 0 < c2.length + 2 ∧ _ ∧ j < j + (c2.length + 2) - 1 + (C.getD (j + (c2.length + 2) - 1) (0, 0)).2 ∧ _
      rw [show ((13, c2.length + 2) : Nat × Nat).2 = c2.length + 2 from rfl, g2, gJ]
      refine ⟨rfl, by omega, Or.inr (Or.inl ?_), by omega, Or.inr (Or.inr (Or.inl ?_)), ?_, Or.inr (Or.inr (Or.inr ⟨?_, e⟩))⟩
      · rw [q, show hh - 1 = h0 by omega]; exact b1
      · rw [q, show hh - 1 = h0 by omega, show pre.length + c1.length + (c2.length + 2) = pre.length + c1.length + c2.length + 2 by omega]; exact d1
      · show j < pre.length + c1.length + 1 + c2.length + (c3.length + 1); omega
      · show pre.length + c1.length + 1 + c2.length + (c3.length + 1) = _; omega
    · exact (m5 (by omega)).mo (fun _ _ => Or.inl)
  · obtain ⟨m1, m2, m3, m4, m5⟩ := b2 j hh hj
    refine ⟨by omega, by omega, by omega, fun z => by omega, fun _ => ?_⟩
    by_cases q : j = pre.length + c1.length + 1 + c2.length
    · have e := m4 q
      have g1 : C.getD j (0, 0) = (14, c3.length + 1) := by rw [q]; exact gJ
      refine Or.inr (Or.inr (Or.inr (Or.inr ?_)))
      rw [g1]
      exact ⟨rfl, by show 0 < c3.length + 1; omega, Or.inr (Or.inr (Or.inr ⟨by show j + (c3.length + 1) = _; omega, e⟩))⟩
    · exact (m5 (by omega)).mo (fun _ _ z => Or.inr (Or.inl z))
  · obtain ⟨m1, m2, m3, m4, m5⟩ := d2 j hh hj
    exact ⟨by omega, by omega, by omega, fun z => m4 (by omega), fun z => (m5 (by omega)).mo (fun _ _ z => Or.inr (Or.inr (Or.inl z)))⟩
  · exact ⟨by omega, by omega, by omega, fun _ => q2, fun z => by omega⟩
theorem CR_PA {ok : Nat → Prop} {lt : Bool} {h : Nat} {m c : List (Nat × Nat)} (hC : CR ok lt h m c) : 1 ≤ h ∧ PAc h c := by
  refine hC (fun h m c => 1 ≤ h ∧ PAc h c) ⟨fun v _ => ⟨Nat.le_refl _, PA_leaf (by show 0 ≤ 2; omega)⟩, fun _ => ⟨Nat.le_refl _, PA_leaf (by show 1 ≤ 2; omega)⟩, fun s _ => ⟨Nat.le_refl _, PA_leaf (by show 2 ≤ 2; omega)⟩, fun h m c z => ⟨z.1, PA_neg z.1 z.2⟩, fun o ho h m c m2 c2 z y => ⟨by omega, PA_bin ho y.1 z.2 y.2⟩, fun h m1 c1 m2 c2 m3 c3 x y z => ⟨by omega, PA_if z.1 x.2 y.2 z.2⟩, fun h m c z => ⟨by omega, fun pre post h0 => ?_⟩⟩
  obtain ⟨A, a1, a2⟩ := z.2 pre post h0
  exact ⟨A, a1, fun j hh hj => by obtain ⟨b1, b2, b3, b4⟩ := a2 j hh hj; exact ⟨b1, b2, by omega, b4⟩⟩
/-- a step stays there -/
theorem A_stp {C : List (Nat × Nat)} {lo hi H he : Nat} {A : Nat → Nat → Prop} (hA : ACl C lo hi H he A) {j : Nat} (g : Nat → VL8) (l : VL8) {s : List VL8} (h : A j s.length) (hj : j < hi) : ∃ j1 s1, xs1 g l C j s = some (j1, s1) ∧ j < j1 ∧ A j1 s1.length := by
  obtain ⟨_, _, _, _, ho⟩ := hA j _ h
  unfold xs1
  rcases ho hj with ⟨a, b⟩ | ⟨a, b, c⟩ | ⟨a, a', b, c⟩ | ⟨a, b, c, d, e, f, k⟩ | ⟨a, b, c⟩
  · by_cases k0 : (C.getD j (0, 0)).1 = 0
    · rw [if_pos k0]; exact ⟨_, _, rfl, Nat.lt_succ_self _, b⟩
    · rw [if_neg k0]
      by_cases k1 : (C.getD j (0, 0)).1 = 1
      · rw [if_pos k1]; exact ⟨_, _, rfl, Nat.lt_succ_self _, b⟩
      · rw [if_neg k1, if_pos (by omega)]; exact ⟨_, _, rfl, Nat.lt_succ_self _, b⟩
  · rw [if_neg (by omega), if_neg (by omega), if_neg (by omega), if_pos a]
    cases s with
    | nil => exact absurd b (by simp)
    | cons x r => exact ⟨_, _, rfl, Nat.lt_succ_self _, c⟩
  · rw [if_neg (by omega), if_neg (by omega), if_neg (by omega), if_neg (by omega), if_neg (by omega), if_neg (by omega)]
    match s, b, c with
    | x :: y :: r, _, c => exact ⟨_, _, rfl, Nat.lt_succ_self _, c⟩
  · rw [if_neg (by omega), if_neg (by omega), if_neg (by omega), if_neg (by omega), if_pos a]
    cases s with
    | nil => exact absurd b (by simp)
    | cons x r =>
      cases x with
      | none => exact ⟨_, _, rfl, f, k⟩
      | some x =>
        by_cases q : x = 0
        · refine ⟨_, _, rfl, ?_, ?_⟩
          · rw [if_pos q]; omega
          · rw [if_pos q]; exact e
        · refine ⟨_, _, rfl, ?_, ?_⟩
          · rw [if_neg q]; omega
          · rw [if_neg q]; exact c
  · rw [if_neg (by omega), if_neg (by omega), if_neg (by omega), if_neg (by omega), if_neg (by omega), if_pos a]
    exact ⟨_, _, rfl, by omega, c⟩
theorem A_run {C : List (Nat × Nat)} {lo hi H he : Nat} {A : Nat → Nat → Prop} (hA : ACl C lo hi H he A) (g : Nat → VL8) (l : VL8) : ∀ f j s, hi - j ≤ f → A j s.length → ∃ k s', XRn g l C lo hi H k j s hi s' ∧ s'.length = he := by
  intro f
  induction f with
  | zero =>
    intro j s hf h
    obtain ⟨b1, b2, b3, b4, b5⟩ := hA j _ h
    have e : j = hi := by omega
    exact ⟨0, s, ⟨e, rfl⟩, b4 e⟩
  | succ f ih =>
    intro j s hf h
    obtain ⟨b1, b2, b3, b4, b5⟩ := hA j _ h
    by_cases e : j = hi
    · exact ⟨0, s, ⟨e, rfl⟩, b4 e⟩
    · obtain ⟨j1, s1, c1, c2, c3⟩ := A_stp hA g l h (by omega)
      obtain ⟨k, s', d1, d2⟩ := ih j1 s1 (by omega) c3
      obtain ⟨m1, m2, m3, _⟩ := hA j1 _ c3
      exact ⟨k + 1, s', ⟨b1, by omega, b3, j1, s1, c1, c2, m2, m3, d1⟩, d2⟩
