/-! ===== evaluation: what is to come out ===== -/
def mC (Γ : GRT) (p x : Nat) : List (Nat × Nat) := ((Γ.2.2.1 p).2.2.2.2.2 x).2.1
/-- the value of a rule's expression at a node -/
def RV (Γ : GRT) (T : TST) (kp : Nat → Nat → VL8) (m x : Nat) : VL8 := (wo (fun y => kp (T.ch m (y / 8)) (y % 8)) (some (T.li m)) (mC Γ (T.pr m) x) []).headD none
def ClX (Γ : GRT) (T : TST) (X : Nat → Nat → Prop) : Prop := ∀ m, m < T.N → ∀ x, (Γ.2.2.1 (T.pr m)).2.2.2.2.1 x = true → (∀ y, nmd Γ (T.pr m) x y = true → X (T.ch m (y / 8)) (y % 8)) → X (T.ch m (x / 8)) (x % 8)
/-- all values -/
def EVl (Γ : GRT) (T : TST) (val : Nat → Nat → VL8) : Prop := (∀ m, m < T.N → ∀ x, (Γ.2.2.1 (T.pr m)).2.2.2.2.1 x = true → val (T.ch m (x / 8)) (x % 8) = RV Γ T val m x) ∧ ∀ X, ClX Γ T X → ∀ k, k < T.N → ∀ a, a < Γ.1.2.2.1 (hdS Γ (T.pr k)) → X k a
theorem wo_cg {g g' : Nat → VL8} {l : VL8} : ∀ (m : List (Nat × Nat)) (s : List VL8), (∀ z, nmA 50 m z = true → g z = g' z) → wo g l m s = wo g' l m s
  | [], _, _ => rfl
  | z :: r, s, h => by
    show wo g l r (wo1 g l s z) = wo g' l r (wo1 g' l s z)
    have e : wo1 g l s z = wo1 g' l s z := by
      unfold wo1
      by_cases k : z.1 = 50
      · have := h z.2 (by unfold nmA; rw [List.any_cons, decide_eq_true ⟨k, rfl⟩]; rfl)
        rw [this]
      · rw [if_neg k, if_neg k]
    rw [e]
    exact wo_cg r _ (fun y hy => h y (by unfold nmA at hy ⊢; rw [List.any_cons, hy, Bool.or_true]))
section EV
variable {Γ : GRT} {T : TST} {kp kp' : Nat → Nat → VL8} {m x : Nat}
theorem nm50 (hV : GRV Γ) {p x : Nat} (hp : p < Γ.2.1) (hd : (Γ.2.2.1 p).2.2.2.2.1 x = true) (y : Nat) : nmA 50 (mC Γ p x) y = nmd Γ p x y := by
  obtain ⟨q1, q2, q3, q4, q5⟩ := (hV.2.2.2 p hp).2.1.2.2 x hd
  rw [nmd_A, hd, Bool.true_and]
  exact (CR_nm q5).1 y
theorem RV_cg (hV : GRV Γ) (hp : T.pr m < Γ.2.1) (hd : (Γ.2.2.1 (T.pr m)).2.2.2.2.1 x = true) (h : ∀ y, nmd Γ (T.pr m) x y = true → kp' (T.ch m (y / 8)) (y % 8) = kp (T.ch m (y / 8)) (y % 8)) : RV Γ T kp' m x = RV Γ T kp m x := by
  unfold RV
  rw [wo_cg (mC Γ (T.pr m) x) [] (fun z hz => h z (by rw [nm50 hV hp hd] at hz; exact hz))]
/-- the code of a rule comes to its value -/
theorem RV_run (hV : GRV Γ) (hp : T.pr m < Γ.2.1) (hd : (Γ.2.2.1 (T.pr m)).2.2.2.2.1 x = true) : (∀ s, wo (fun y => kp (T.ch m (y / 8)) (y % 8)) (some (T.li m)) (mC Γ (T.pr m) x) s = RV Γ T kp m x :: s) ∧ ∃ k, XRn (fun y => kp (T.ch m (y / 8)) (y % 8)) (some (T.li m)) (rC Γ (T.pr m) x) 0 (rC Γ (T.pr m) x).length 34 k 0 [] (rC Γ (T.pr m) x).length [RV Γ T kp m x] := by
  obtain ⟨q1, q2, q3, q4, q5⟩ := (hV.2.2.2 _ hp).2.1.2.2 x hd
  obtain ⟨_, v, hw, hr⟩ := CR_PX (g := fun y => kp (T.ch m (y / 8)) (y % 8)) (l := some (T.li m)) q5
  have e : RV Γ T kp m x = v := by
    unfold RV mC
    rw [hw]; rfl
  rw [e]
  refine ⟨hw, ?_⟩
  obtain ⟨k, hk⟩ := hr [] [] []
  refine ⟨k, ?_⟩
  have e3 : ([] : List (Nat × Nat)) ++ ((Γ.2.2.1 (T.pr m)).2.2.2.2.2 x).2.2.2 ++ [] = rC Γ (T.pr m) x := by simp [rC]
  rw [e3] at hk
  simpa [rC] using hk
/-- a defined slot, told from where it is -/
theorem at_src (hV : GRV Γ) (hT : TOK Γ T) (hm : m < T.N) (hd : (Γ.2.2.1 (T.pr m)).2.2.2.2.1 x = true) : T.ch m (x / 8) < T.N ∧ x % 8 < Γ.1.2.2.1 (hdS Γ (T.pr (T.ch m (x / 8)))) ∧ ((Γ.1.2.2.2.1 (hdS Γ (T.pr (T.ch m (x / 8)))) (x % 8) = false ∧ m = T.ch m (x / 8) ∧ x = x % 8) ∨ (Γ.1.2.2.2.1 (hdS Γ (T.pr (T.ch m (x / 8)))) (x % 8) = true ∧ T.pa (T.ch m (x / 8)) = m + 1 ∧ T.pl (T.ch m (x / 8)) = x / 8)) := by
  obtain ⟨t1, t2⟩ := hT.2.2 m hm
  have hp := t1.1
  obtain ⟨q1, q2, q3, q4, q5⟩ := (hV.2.2.2 _ hp).2.1.2.2 x hd
  unfold dfn at q2
  rw [Bool.and_eq_true, Bool.and_eq_true, decide_eq_true_eq, decide_eq_true_eq, beq_iff_eq] at q2
  obtain ⟨d1, d2, d3⟩ := q2
  have d1 : x / 8 ≤ rt Γ (T.pr m) := d1
  by_cases h0 : x / 8 = 0
  · have e : T.ch m (x / 8) = m := by rw [h0]; exact t1.2.2.2.2.2.1
    rw [h0] at d2 d3
    rw [e]
    exact ⟨hm, d2, Or.inl ⟨by rw [decide_eq_false (Nat.lt_irrefl 0)] at d3; exact d3, rfl, by omega⟩⟩
  · obtain ⟨c1, c2, c3, c4⟩ := t1.2.2.2.2.2.2.1 (x / 8) (by omega) (by omega)
    have tc := (hT.2.2 _ c2).1
    have eh : hdS Γ (T.pr (T.ch m (x / 8))) = oSy Γ (T.pr m) (x / 8) := by
      have := (tc.2.2.2.2.2.2.2 (by omega)).2.2.2
      rw [c3, c4, show m + 1 - 1 = m by omega] at this
      exact this
    rw [eh]
    rw [decide_eq_true (show 0 < x / 8 by omega)] at d3
    exact ⟨c2, d2, Or.inr ⟨d3, c3, c4⟩⟩
theorem at_uq (hV : GRV Γ) (hT : TOK Γ T) {m' x' : Nat} (hm : m < T.N) (hd : (Γ.2.2.1 (T.pr m)).2.2.2.2.1 x = true) (hm' : m' < T.N) (hd' : (Γ.2.2.1 (T.pr m')).2.2.2.2.1 x' = true) (e1 : T.ch m (x / 8) = T.ch m' (x' / 8)) (e2 : x % 8 = x' % 8) : m = m' ∧ x = x' := by
  obtain ⟨a1, a2, a3⟩ := at_src hV hT hm hd
  obtain ⟨b1, b2, b3⟩ := at_src hV hT hm' hd'
  rw [← e1, ← e2] at b3
  rcases a3 with ⟨a3, a4, a5⟩ | ⟨a3, a4, a5⟩
  · rcases b3 with ⟨b3, b4, b5⟩ | ⟨b3, b4, b5⟩
    · exact ⟨by omega, by omega⟩
    · rw [a3] at b3; exact absurd b3 (by decide)
  · rcases b3 with ⟨b3, b4, b5⟩ | ⟨b3, b4, b5⟩
    · rw [a3] at b3; exact absurd b3 (by decide)
    · exact ⟨by omega, by omega⟩
end EV
