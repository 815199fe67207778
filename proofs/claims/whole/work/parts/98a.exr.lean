/-! ===== expressions: their values, and the runs of their code ===== -/
abbrev VL8 : Type := Option Int32
def vneg : VL8 → VL8
  | none => none
  | some x => some (0 - x)
def vbin (k : Nat) : VL8 → VL8 → VL8
  | some a, some b => if k = 7 then some (a + b) else if k = 8 then some (a - b) else if k = 9 then some (a * b) else if k = 10 then (if b = 0 then none else some (a / b)) else if k = 11 then some (if a < b then 1 else 0) else some (if a = b then 1 else 0)
  | _, _ => none
def vif : VL8 → VL8 → VL8 → VL8
  | none, _, _ => none
  | some x, b, c => if x = 0 then c else b
/-- a step of the model's working out -/
def wo1 (g : Nat → VL8) (l : VL8) (s : List VL8) (z : Nat × Nat) : List VL8 :=
  if z.1 = 40 then some (nI z.2) :: s
  else if z.1 = 41 then l :: s
  else if z.1 = 50 then g z.2 :: s
  else if z.1 = 30 then (match s with | a :: r => vneg a :: r | [] => [])
  else if z.1 = 31 then (match s with | c :: b :: a :: r => vif a b c :: r | _ => [])
  else (match s with | b :: a :: r => vbin (bo z.1) a b :: r | _ => [])
def wo (g : Nat → VL8) (l : VL8) (m : List (Nat × Nat)) (s : List VL8) : List VL8 := m.foldl (wo1 g l) s
/-- a step of the class's code -/
def xs1 (g : Nat → VL8) (l : VL8) (C : List (Nat × Nat)) (j : Nat) (s : List VL8) : Option (Nat × List VL8) :=
  if (C.getD j (0, 0)).1 = 0 then some (j + 1, some (nI (C.getD j (0, 0)).2) :: s)
  else if (C.getD j (0, 0)).1 = 1 then some (j + 1, l :: s)
  else if (C.getD j (0, 0)).1 = 2 then some (j + 1, g (C.getD j (0, 0)).2 :: s)
  else if (C.getD j (0, 0)).1 = 6 then (match s with | a :: r => some (j + 1, vneg a :: r) | [] => none)
  else if (C.getD j (0, 0)).1 = 13 then (match s with | none :: r => some (j + (C.getD j (0, 0)).2 - 1 + (C.getD (j + (C.getD j (0, 0)).2 - 1) (0, 0)).2, none :: r) | some x :: r => some (if x = 0 then j + (C.getD j (0, 0)).2 else j + 1, r) | [] => none)
  else if (C.getD j (0, 0)).1 = 14 then some (j + (C.getD j (0, 0)).2, s)
  else (match s with | b :: a :: r => some (j + 1, vbin (C.getD j (0, 0)).1 a b :: r) | _ => none)
section XX
variable (g : Nat → VL8) (l : VL8)
/-- k steps, all from between lo and hi, the stack no higher than H -/
def XRn (C : List (Nat × Nat)) (lo hi H : Nat) : Nat → Nat → List VL8 → Nat → List VL8 → Prop
  | 0, j, s, j', s' => j = j' ∧ s = s'
  | k + 1, j, s, j', s' => lo ≤ j ∧ j < hi ∧ s.length ≤ H ∧ ∃ j1 s1, xs1 g l C j s = some (j1, s1) ∧ j < j1 ∧ j1 ≤ hi ∧ s1.length ≤ H ∧ XRn C lo hi H k j1 s1 j' s'
variable {g l}
theorem XRn.tr {C : List (Nat × Nat)} {lo hi H : Nat} {j2 : Nat} {s2 : List VL8} : ∀ {k1 k2 j s j1 s1}, XRn g l C lo hi H k1 j s j1 s1 → XRn g l C lo hi H k2 j1 s1 j2 s2 → XRn g l C lo hi H (k1 + k2) j s j2 s2
  | 0, k2, j, s, j1, s1, h1, h2 => by rw [Nat.zero_add, h1.1, h1.2]; exact h2
  | k1 + 1, k2, j, s, j1, s1, h1, h2 => by
    obtain ⟨a1, a2, a3, j', s', a4, a5, a6, a7, a8⟩ := h1
    rw [show k1 + 1 + k2 = (k1 + k2) + 1 by omega]
    exact ⟨a1, a2, a3, j', s', a4, a5, a6, a7, XRn.tr a8 h2⟩
theorem XRn.mo {C : List (Nat × Nat)} {lo hi H lo' hi' H' : Nat} (h1 : lo' ≤ lo) (h2 : hi ≤ hi') (h3 : H ≤ H') : ∀ {k j s j1 s1}, XRn g l C lo hi H k j s j1 s1 → XRn g l C lo' hi' H' k j s j1 s1
  | 0, _, _, _, _, h => h
  | k + 1, _, _, _, _, ⟨a1, a2, a3, j', s', a4, a5, a6, a7, a8⟩ => ⟨by omega, by omega, by omega, j', s', a4, a5, by omega, by omega, XRn.mo h1 h2 h3 a8⟩
theorem gdm {pre post : List (Nat × Nat)} {z : Nat × Nat} : (pre ++ z :: post).getD pre.length (0, 0) = z := by simp [List.getD_eq_getElem?_getD]
variable (g l)
def PXp (h : Nat) (m c : List (Nat × Nat)) : Prop := ∃ v, (∀ s, wo g l m s = v :: s) ∧ ∀ pre post s, ∃ k, XRn g l (pre ++ c ++ post) pre.length (pre.length + c.length) (s.length + h) k pre.length s (pre.length + c.length) (v :: s)
variable {g l}
theorem wo_app {a b : List (Nat × Nat)} {s : List VL8} : wo g l (a ++ b) s = wo g l b (wo g l a s) := by unfold wo; rw [List.foldl_append]
theorem XRn.one {C : List (Nat × Nat)} {lo hi H j j1 : Nat} {s s1 : List VL8} (a1 : lo ≤ j) (a2 : j < hi) (a3 : s.length ≤ H) (a4 : xs1 g l C j s = some (j1, s1)) (a5 : j < j1) (a6 : j1 ≤ hi) (a7 : s1.length ≤ H) : XRn g l C lo hi H 1 j s j1 s1 := ⟨a1, a2, a3, j1, s1, a4, a5, a6, a7, rfl, rfl⟩
theorem PX_leaf {z y : Nat × Nat} {v : VL8} (h1 : ∀ s, wo1 g l s z = v :: s) (h2 : ∀ C j s, C.getD j (0, 0) = y → xs1 g l C j s = some (j + 1, v :: s)) : PXp g l 1 [z] [y] := by
  refine ⟨v, fun s => h1 s, fun pre post s => ⟨1, ?_⟩⟩
  refine XRn.one (Nat.le_refl _) (by simp) (by omega) (h2 _ _ _ ?_) (Nat.lt_succ_self _) (by simp) (by simp)
  rw [List.append_assoc]
  exact gdm
theorem PX_neg {h : Nat} {m c : List (Nat × Nat)} (hm : PXp g l h m c) (h1 : 1 ≤ h) : PXp g l h (m ++ [(30, 0)]) (c ++ [(6, 0)]) := by
  obtain ⟨v, w, r⟩ := hm
  refine ⟨vneg v, fun s => ?_, fun pre post s => ?_⟩
  · rw [wo_app, w]; rfl
  · obtain ⟨k, hk⟩ := r pre ([(6, 0)] ++ post) s
    have e : pre ++ (c ++ [(6, 0)]) ++ post = pre ++ c ++ ([(6, 0)] ++ post) := by simp
    have el : (c ++ [((6 : Nat), (0 : Nat))]).length = c.length + 1 := by simp
    rw [e, el]
    refine ⟨k + 1, (hk.mo (Nat.le_refl _) (by omega) (Nat.le_refl _)).tr (XRn.one (by omega) (by omega) (by rw [List.length_cons]; omega) ?_ (Nat.lt_succ_self _) (by omega) (by rw [List.length_cons]; omega))⟩
    have eg : (pre ++ c ++ ([(6, 0)] ++ post)).getD (pre.length + c.length) (0, 0) = (6, 0) := by
      rw [← List.length_append]; exact gdm
    unfold xs1
    rw [eg]; rfl
theorem bo_b {o : Nat} (ho : o ∈ mops) : 7 ≤ bo o ∧ bo o ≤ 12 := by
  have hob : o = 13 ∨ o = 14 ∨ o = 15 ∨ o = 16 ∨ o = 17 ∨ o = 4 := by simpa [mops] using ho
  rcases hob with z | z | z | z | z | z <;> rw [z] <;> decide
theorem PX_bin {h : Nat} {o : Nat} (ho : o ∈ mops) {m c m2 c2 : List (Nat × Nat)} (hm : PXp g l (h + 1) m c) (hm2 : PXp g l h m2 c2) (h1 : 1 ≤ h) : PXp g l (h + 1) (m ++ m2 ++ [(o, 0)]) (c ++ c2 ++ [(bo o, 0)]) := by
  have hob : o = 13 ∨ o = 14 ∨ o = 15 ∨ o = 16 ∨ o = 17 ∨ o = 4 := by simpa [mops] using ho
  have hb := bo_b ho
  obtain ⟨v, w, r⟩ := hm
  obtain ⟨v2, w2, r2⟩ := hm2
  refine ⟨vbin (bo o) v v2, fun s => ?_, fun pre post s => ?_⟩
  · rw [wo_app, wo_app, w, w2]
    show wo1 g l (v2 :: v :: s) (o, 0) = _
    unfold wo1
    rw [if_neg (by show ¬ o = 40; omega), if_neg (by show ¬ o = 41; omega), if_neg (by show ¬ o = 50; omega), if_neg (by show ¬ o = 30; omega), if_neg (by show ¬ o = 31; omega)]
  · obtain ⟨k, hk⟩ := r pre (c2 ++ [(bo o, 0)] ++ post) s
    obtain ⟨k2, hk2⟩ := r2 (pre ++ c) ([(bo o, 0)] ++ post) (v :: s)
    have e1 : pre ++ (c ++ c2 ++ [(bo o, 0)]) ++ post = pre ++ c ++ (c2 ++ [(bo o, 0)] ++ post) := by simp
    have e2 : pre ++ c ++ (c2 ++ [(bo o, 0)] ++ post) = pre ++ c ++ c2 ++ ([(bo o, 0)] ++ post) := by simp
    have el : (c ++ c2 ++ [(bo o, (0 : Nat))]).length = c.length + c2.length + 1 := by simp; omega
    rw [← e2] at hk2
    rw [e1, el]
    rw [List.length_append, List.length_cons] at hk2
    refine ⟨k + k2 + 1, ((hk.mo (Nat.le_refl _) (by omega) (Nat.le_refl _)).tr (hk2.mo (by omega) (by omega) (by omega))).tr ?_⟩
    have eg : (pre ++ c ++ (c2 ++ [(bo o, 0)] ++ post)).getD (pre.length + c.length + c2.length) (0, 0) = (bo o, 0) := by
      rw [e2, ← List.length_append, ← List.length_append]; exact gdm
    rw [← Nat.add_assoc, ← Nat.add_assoc]
    refine XRn.one (by omega) (by omega) (by rw [List.length_cons, List.length_cons]; omega) ?_ (Nat.lt_succ_self _) (by omega) (by rw [List.length_cons]; omega)
    unfold xs1
    rw [eg, if_neg (by show ¬ bo o = 0; omega), if_neg (by show ¬ bo o = 1; omega), if_neg (by show ¬ bo o = 2; omega), if_neg (by show ¬ bo o = 6; omega), if_neg (by show ¬ bo o = 13; omega), if_neg (by show ¬ bo o = 14; omega)]
theorem PX_if {h : Nat} {m1 c1 m2 c2 m3 c3 : List (Nat × Nat)} (p1 : PXp g l (h + 2) m1 c1) (p2 : PXp g l (h + 1) m2 c2) (p3 : PXp g l h m3 c3) (h1 : 1 ≤ h) : PXp g l (h + 2) (m1 ++ m2 ++ m3 ++ [(31, 0)]) (c1 ++ [(13, c2.length + 2)] ++ c2 ++ [(14, c3.length + 1)] ++ c3) := by
  obtain ⟨v1, w1, r1⟩ := p1
  obtain ⟨v2, w2, r2⟩ := p2
  obtain ⟨v3, w3, r3⟩ := p3
  refine ⟨vif v1 v2 v3, fun s => ?_, fun pre post s => ?_⟩
  · rw [wo_app, wo_app, wo_app, w1, w2, w3]; rfl
  · obtain ⟨C, hC⟩ : ∃ C, C = pre ++ (c1 ++ [(13, c2.length + 2)] ++ c2 ++ [(14, c3.length + 1)] ++ c3) ++ post := ⟨_, rfl⟩
    have eC1 : C = pre ++ c1 ++ ((13, c2.length + 2) :: (c2 ++ [(14, c3.length + 1)] ++ c3 ++ post)) := by rw [hC]; simp
    have eC2 : C = (pre ++ c1 ++ [(13, c2.length + 2)]) ++ c2 ++ ((14, c3.length + 1) :: (c3 ++ post)) := by rw [hC]; simp
    have eC3 : C = (pre ++ c1 ++ [(13, c2.length + 2)] ++ c2 ++ [(14, c3.length + 1)]) ++ c3 ++ post := by rw [hC]; simp
    have el : (c1 ++ [((13 : Nat), c2.length + 2)] ++ c2 ++ [((14 : Nat), c3.length + 1)] ++ c3).length = c1.length + 1 + c2.length + 1 + c3.length := by simp only [List.length_append, List.length_cons, List.length_nil] <;> omega
    rw [← hC, el]
    obtain ⟨k1, hk1⟩ := r1 pre ((13, c2.length + 2) :: (c2 ++ [(14, c3.length + 1)] ++ c3 ++ post)) s
    rw [← eC1] at hk1
    have gT : C.getD (pre.length + c1.length) (0, 0) = (13, c2.length + 2) := by rw [eC1, ← List.length_append]; exact gdm
    have lp2 : (pre ++ c1 ++ [((13 : Nat), c2.length + 2)]).length = pre.length + c1.length + 1 := by simp only [List.length_append, List.length_cons, List.length_nil] <;> omega
    have gJ : C.getD (pre.length + c1.length + 1 + c2.length) (0, 0) = (14, c3.length + 1) := by rw [eC2, ← lp2, ← List.length_append]; exact gdm
    have A1 := hk1.mo (lo' := pre.length) (hi' := pre.length + (c1.length + 1 + c2.length + 1 + c3.length)) (H' := s.length + (h + 2)) (Nat.le_refl _) (by omega) (Nat.le_refl _)
    have hl : ∀ v : VL8, (v :: s).length = s.length + 1 := fun v => rfl
    cases v1 with
    | none =>
      refine ⟨k1 + 1, A1.tr (XRn.one (by omega) (by omega) (by rw [hl]; omega) ?_ ?_ (Nat.le_refl _) (by rw [hl]; omega))⟩
      · unfold xs1
        rw [gT]
        show some (pre.length + c1.length + (c2.length + 2) - 1 + (C.getD (pre.length + c1.length + (c2.length + 2) - 1) (0, 0)).2, none :: s) = _
        rw [show pre.length + c1.length + (c2.length + 2) - 1 = pre.length + c1.length + 1 + c2.length by omega, gJ]
        show some (pre.length + c1.length + 1 + c2.length + (c3.length + 1), none :: s) = some (pre.length + (c1.length + 1 + c2.length + 1 + c3.length), none :: s)
        rw [show pre.length + c1.length + 1 + c2.length + (c3.length + 1) = pre.length + (c1.length + 1 + c2.length + 1 + c3.length) by omega]
      · omega
    | some x =>
      have hx : xs1 g l C (pre.length + c1.length) (some x :: s) = some (if x = 0 then pre.length + c1.length + (c2.length + 2) else pre.length + c1.length + 1, s) := by
        unfold xs1
        rw [gT]; rfl
      by_cases e0 : x = 0
      · rw [if_pos e0] at hx
        obtain ⟨k3, hk3⟩ := r3 (pre ++ c1 ++ [(13, c2.length + 2)] ++ c2 ++ [(14, c3.length + 1)]) post s
        rw [← eC3] at hk3
        have lp3 : (pre ++ c1 ++ [((13 : Nat), c2.length + 2)] ++ c2 ++ [((14 : Nat), c3.length + 1)]).length = pre.length + c1.length + (c2.length + 2) := by simp only [List.length_append, List.length_cons, List.length_nil] <;> omega
        rw [lp3, show pre.length + c1.length + (c2.length + 2) + c3.length = pre.length + (c1.length + 1 + c2.length + 1 + c3.length) by omega] at hk3
        have ev : vif (some x) v2 v3 = v3 := if_pos e0
        rw [ev]
        exact ⟨k1 + 1 + k3, (A1.tr (XRn.one (by omega) (by omega) (by rw [hl]; omega) hx (by omega) (by omega) (by omega))).tr (hk3.mo (by omega) (Nat.le_refl _) (by omega))⟩
      · rw [if_neg e0] at hx
        obtain ⟨k2, hk2⟩ := r2 (pre ++ c1 ++ [(13, c2.length + 2)]) ((14, c3.length + 1) :: (c3 ++ post)) s
        rw [← eC2, lp2] at hk2
        have ev : vif (some x) v2 v3 = v2 := if_neg e0
        rw [ev]
        have hj : xs1 g l C (pre.length + c1.length + 1 + c2.length) (v2 :: s) = some (pre.length + (c1.length + 1 + c2.length + 1 + c3.length), v2 :: s) := by
          unfold xs1
          rw [gJ]
          show some (pre.length + c1.length + 1 + c2.length + (c3.length + 1), v2 :: s) = _
          rw [show pre.length + c1.length + 1 + c2.length + (c3.length + 1) = pre.length + (c1.length + 1 + c2.length + 1 + c3.length) by omega]
        exact ⟨k1 + 1 + k2 + 1, ((A1.tr (XRn.one (by omega) (by omega) (by rw [hl]; omega) hx (by omega) (by omega) (by omega))).tr (hk2.mo (by omega) (by omega) (by omega))).tr (XRn.one (by omega) (by omega) (by rw [hl]; omega) hj (by omega) (Nat.le_refl _) (by rw [hl]; omega))⟩
theorem CR_PX {ok : Nat → Prop} {lt : Bool} {h : Nat} {m c : List (Nat × Nat)} (hC : CR ok lt h m c) : 1 ≤ h ∧ PXp g l h m c := by
  refine hC (fun h m c => 1 ≤ h ∧ PXp g l h m c) ⟨fun v _ => ⟨Nat.le_refl _, ?_⟩, fun _ => ⟨Nat.le_refl _, ?_⟩, fun s _ => ⟨Nat.le_refl _, ?_⟩, fun h m c z => ⟨z.1, PX_neg z.2 z.1⟩, fun o ho h m c m2 c2 z y => ⟨by omega, PX_bin ho z.2 y.2 y.1⟩, fun h m1 c1 m2 c2 m3 c3 x y z => ⟨by omega, PX_if x.2 y.2 z.2 z.1⟩, fun h m c z => ⟨by omega, ?_⟩⟩
  · refine PX_leaf (v := some (nI v)) (fun s => rfl) (fun C j s e => ?_)
    unfold xs1; rw [e]; rfl
  · refine PX_leaf (v := l) (fun s => rfl) (fun C j s e => ?_)
    unfold xs1; rw [e]; rfl
  · refine PX_leaf (v := g s) (fun s => rfl) (fun C j s e => ?_)
    unfold xs1; rw [e]; rfl
  · obtain ⟨v, w, r⟩ := z.2
    refine ⟨v, w, fun pre post s => ?_⟩
    obtain ⟨k, hk⟩ := r pre post s
    exact ⟨k, hk.mo (Nat.le_refl _) (Nat.le_refl _) (by omega)⟩
end XX
