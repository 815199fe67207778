/-! ===== values as the class keeps them ===== -/
def vL : VL8 → Int64
  | none => -9223372036854775808
  | some x => x.toInt64
theorem vL_ne (x : Int32) : ¬ x.toInt64 = (-9223372036854775808 : Int64) := by
  intro h
  have h1 : x.toInt64.toInt = (-9223372036854775808 : Int64).toInt := by rw [h]
  rw [Int32.toInt_toInt64] at h1
  have h2 : (-9223372036854775808 : Int64).toInt = -9223372036854775808 := by decide
  have h3 := Int32.le_toInt x
  omega
theorem vL_inj {a b : Int32} : a.toInt64 = b.toInt64 ↔ a = b := by
  constructor
  · intro h
    have := congrArg Int64.toInt32 h
    rwa [Int32.toInt32_toInt64, Int32.toInt32_toInt64] at this
  · intro h; rw [h]
theorem vL_eq {a b : VL8} : vL a = vL b ↔ a = b := by
  cases a with
  | none =>
    cases b with
    | none => exact ⟨fun _ => rfl, fun _ => rfl⟩
    | some y => exact ⟨fun h => absurd h.symm (vL_ne y), fun h => absurd h (by simp)⟩
  | some x =>
    cases b with
    | none => exact ⟨fun h => absurd h (vL_ne x), fun h => absurd h (by simp)⟩
    | some y => exact ⟨fun h => by rw [vL_inj.mp h], fun h => by rw [h]⟩
theorem vL_0 {a : VL8} : vL a = 0 ↔ a = some 0 := by
  have : vL (some 0) = 0 := by decide
  rw [← this]; exact vL_eq
theorem vL_z {x : Int32} : x.toInt64 = 0 ↔ x = 0 := by
  have : (0 : Int32).toInt64 = 0 := by decide
  rw [← this]; exact vL_inj
theorem vL_div (a b : Int32) : (a.toInt64 / b.toInt64).toInt32 = a / b := by
  apply Int32.toInt_inj.mp
  rw [Int64.toInt_toInt32, Int64.toInt_div, Int32.toInt_div, Int32.toInt_toInt64, Int32.toInt_toInt64]
  have h1 := Int32.le_toInt a
  have h2 := Int32.toInt_lt a
  have h3 := Int32.le_toInt b
  have h4 := Int32.toInt_lt b
  have hb : (a.toInt.tdiv b.toInt).bmod (2 ^ 64) = a.toInt.tdiv b.toInt := by
    have hab : (a.toInt.tdiv b.toInt).natAbs ≤ a.toInt.natAbs := Int.natAbs_tdiv_le_natAbs _ _
    apply Int.bmod_eq_of_le
    · omega
    · omega
  rw [hb]
theorem lgc_lt (a b : Int32) : (0 ≤ lg_cmp a.toInt64 b.toInt64) ↔ ¬ a < b := by
  have hlt : b.toInt64 < a.toInt64 ↔ b < a := by
    rw [Int64.lt_iff_toInt_lt, Int32.lt_iff_toInt_lt, Int32.toInt_toInt64, Int32.toInt_toInt64]
  have h1 := Int32.lt_iff_toInt_lt (x := a) (y := b)
  have h2 := Int32.lt_iff_toInt_lt (x := b) (y := a)
  have h3 : a = b ↔ a.toInt = b.toInt := Int32.toInt_inj.symm
  unfold lg_cmp
  by_cases c : b < a
  · have e1 : ¬ a < b := by rw [h1]; rw [h2] at c; omega
    have e2 := hlt.mpr c
    constructor
    · intro _; exact e1
    · intro _
      rw [if_pos e2]; decide
  · have e2 : ¬ b.toInt64 < a.toInt64 := fun z => c (hlt.mp z)
    rw [if_neg e2]
    by_cases e : a = b
    · rw [if_pos (by rw [e])]
      exact ⟨fun _ => by rw [e, Int32.lt_iff_toInt_lt]; omega, fun _ => by decide⟩
    · rw [if_neg (fun z => e (vL_inj.mp z))]
      have e3 : a < b := by
        rw [h1]
        rw [h2] at c
        rw [h3] at e
        omega
      exact ⟨fun z => absurd z (by decide), fun z => absurd e3 z⟩
section CV
variable {σ : ab_S} {E : String → ab_S → Prop}
theorem c_op {k : Nat} (h7 : 7 ≤ k) (h12 : k ≤ 12) {a b : VL8} {Q : Int64 → ab_S → Prop} (h : Q (vL (vbin k a b)) σ) : wX2_operate (nI k) (vL a) (vL b) Q E σ := by
  unfold wX2_operate
  cases a with
  | none => exact yes ((lgc0 _ _).mpr rfl) h
  | some a =>
    refine no (fun z => vL_ne a ((lgc0 _ _).mp z)) ?_
    cases b with
    | none => exact no (fun z => z ((lgc0 _ _).mpr rfl)) h
    | some b =>
      refine yes (fun z => vL_ne b ((lgc0 _ _).mp z)) ?_
      have hk : k = 7 ∨ k = 8 ∨ k = 9 ∨ k = 10 ∨ k = 11 ∨ k = 12 := by omega
      rcases hk with rfl | rfl | rfl | rfl | rfl | rfl
      · refine yes rfl ?_
        have e : ((vL (some a) + vL (some b)).toInt32).toInt64 = vL (vbin 7 (some a) (some b)) := by
          show ((a.toInt64 + b.toInt64).toInt32).toInt64 = (a + b).toInt64
          rw [Int64.toInt32_add, Int32.toInt32_toInt64, Int32.toInt32_toInt64]
        rw [e]; exact h
      · refine no (by decide) (yes rfl ?_)
        have e : ((vL (some a) - vL (some b)).toInt32).toInt64 = vL (vbin 8 (some a) (some b)) := by
          show ((a.toInt64 - b.toInt64).toInt32).toInt64 = (a - b).toInt64
          rw [Int64.toInt32_sub, Int32.toInt32_toInt64, Int32.toInt32_toInt64]
        rw [e]; exact h
      · refine no (by decide) (no (by decide) (yes rfl ?_))
        have e : ((vL (some a) * vL (some b)).toInt32).toInt64 = vL (vbin 9 (some a) (some b)) := by
          show ((a.toInt64 * b.toInt64).toInt32).toInt64 = (a * b).toInt64
          rw [Int64.toInt32_mul, Int32.toInt32_toInt64, Int32.toInt32_toInt64]
        rw [e]; exact h
      · refine no (by decide) (no (by decide) (no (by decide) (yes rfl ?_)))
        by_cases b0 : b = 0
        · have e : vL (vbin 10 (some a) (some b)) = -9223372036854775808 := by
            show vL (if b = 0 then none else some (a / b)) = _
            rw [if_pos b0]; rfl
          rw [e] at h
          exact no (fun z => z ((lgc0 _ _).mpr (vL_z.mpr b0))) h
        · have hb : ¬ vL (some b) = 0 := fun z => b0 (vL_z.mp z)
          have e : ((vL (some a) / vL (some b)).toInt32).toInt64 = vL (vbin 10 (some a) (some b)) := by
            show ((a.toInt64 / b.toInt64).toInt32).toInt64 = vL (if b = 0 then none else some (a / b))
            rw [if_neg b0, vL_div]; rfl
          refine yes (fun z => hb ((lgc0 _ _).mp z)) ⟨hb, ?_⟩
          rw [e]; exact h
      · refine no (by decide) (no (by decide) (no (by decide) (no (by decide) (yes rfl ?_))))
        have hv : vbin 11 (some a) (some b) = some (if a < b then 1 else 0) := rfl
        rw [hv] at h
        by_cases c : a < b
        · rw [if_pos c] at h
          exact no (fun z => (lgc_lt a b).mp z c) h
        · rw [if_neg c] at h
          exact yes ((lgc_lt a b).mpr c) h
      · refine no (by decide) (no (by decide) (no (by decide) (no (by decide) (no (by decide) ?_))))
        have hv : vbin 12 (some a) (some b) = some (if a = b then 1 else 0) := rfl
        rw [hv] at h
        by_cases c : a = b
        · rw [if_pos c] at h
          exact no (fun z => z ((lgc0 _ _).mpr (by rw [c]))) h
        · rw [if_neg c] at h
          exact yes (fun z => c (vL_inj.mp ((lgc0 _ _).mp z))) h
end CV
