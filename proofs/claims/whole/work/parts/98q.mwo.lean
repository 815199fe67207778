/-! ===== evaluation, the model's: an expression worked out, step by step ===== -/
theorem WSt.psh {σ : ab_S} {s : List VL8} {v : VL8} {u w : Int32} (h : WSt σ s) (hw : w = vB v) (hu : ∀ x, v = some x → u = x) : WSt (ab_I (ab_I σ 144 s.length u) 145 s.length w) (v :: s) := by
  refine ⟨by rw [gI_s, if_pos rfl]; exact hw, fun x hx => by rw [gI_o (by decide), gI_s, if_pos rfl]; exact hu x hx, h.cg (fun i hi => ?_)⟩
  refine ⟨?_, ?_⟩
  · rw [gI_o (by decide), gI_s, if_neg (by omega)]
  · rw [gI_s, if_neg (by omega), gI_o (by decide)]
theorem WSt.psh2 {σ : ab_S} {s : List VL8} {v : VL8} {u w : Int32} (h : WSt σ s) (hw : w = vB v) (hu : ∀ x, v = some x → u = x) : WSt (ab_I (ab_I σ 145 s.length w) 144 s.length u) (v :: s) := by
  refine ⟨by rw [gI_o (by decide), gI_s, if_pos rfl]; exact hw, fun x hx => by rw [gI_s, if_pos rfl]; exact hu x hx, h.cg (fun i hi => ?_)⟩
  refine ⟨?_, ?_⟩
  · rw [gI_s, if_neg (by omega), gI_o (by decide)]
  · rw [gI_o (by decide), gI_s, if_neg (by omega)]
theorem S144_2 {σ : ab_S} {i j : Nat} {u w : Int32} : FM S144 σ (ab_I (ab_I σ 144 i u) 145 j w) := ((FM.rf _ σ).I (decide_eq_true (by omega))).I (decide_eq_true (by omega))
theorem S144_3 {σ : ab_S} {i j : Nat} {u w : Int32} : FM S144 σ (ab_I (ab_I σ 145 j w) 144 i u) := ((FM.rf _ σ).I (decide_eq_true (by omega))).I (decide_eq_true (by omega))
theorem vB_0 {v : VL8} : vB v = 0 ↔ v ≠ none := by cases v <;> simp [vB]
section MW
variable {σ : ab_S} {E : String → ab_S → Prop} {Q : ab_S → Prop} {Bk : Int32 → Int32 → Int32 → ab_S → Prop} {n at' pos : Nat} {a1 : Int32} {s : List VL8}
theorem m_two {o : Nat} (ho : o ∈ mops) {x y : Int32} {Q : Int32 → ab_S → Prop} (h : ∀ u, (∀ w, vbin (bo o) (some x) (some y) = some w → u = w) → Q u σ) : wX12_two (nI o) x y Q E σ := by
  have hob : o = 13 ∨ o = 14 ∨ o = 15 ∨ o = 16 ∨ o = 17 ∨ o = 4 := by simpa [mops] using ho
  unfold wX12_two
  rcases hob with z | z | z | z | z | z <;> rw [z] <;> rw [z] at h
  · exact yes rfl (h _ (fun w hw => Option.some.inj hw))
  · exact no (by decide) (yes rfl (h _ (fun w hw => Option.some.inj hw)))
  · exact no (by decide) (no (by decide) (yes rfl (h _ (fun w hw => Option.some.inj hw))))
  · refine no (by decide) (no (by decide) (no (by decide) (yes rfl ?_)))
    by_cases hy : y = 0
    · refine no (fun q => q hy) (h _ (fun w hw => ?_))
      have e : vbin (bo 16) (some x) (some y) = none := by
        show (if y = 0 then none else some (x / y)) = none
        rw [if_pos hy]
      rw [e] at hw; exact absurd hw (by simp)
    · refine yes hy ⟨hy, h _ (fun w hw => ?_)⟩
      have e : vbin (bo 16) (some x) (some y) = some (x / y) := by
        show (if y = 0 then none else some (x / y)) = _
        rw [if_neg hy]
      rw [e] at hw; exact Option.some.inj hw
  · refine no (by decide) (no (by decide) (no (by decide) (no (by decide) (yes rfl ?_))))
    have e : vbin (bo 17) (some x) (some y) = some (if x < y then 1 else 0) := rfl
    by_cases hy : y ≤ x
    · refine yes hy (h _ (fun w hw => ?_))
      rw [e, if_neg (Int32.not_lt.mpr hy)] at hw; exact Option.some.inj hw
    · refine no hy (h _ (fun w hw => ?_))
      rw [e, if_pos (Int32.not_le.mp hy)] at hw; exact Option.some.inj hw
  · refine no (by decide) (no (by decide) (no (by decide) (no (by decide) (no (by decide) ?_))))
    have e : vbin (bo 4) (some x) (some y) = some (if x = y then 1 else 0) := rfl
    by_cases hy : x = y
    · refine no (fun q => q hy) (h _ (fun w hw => ?_))
      rw [e, if_pos hy] at hw; exact Option.some.inj hw
    · refine yes hy (h _ (fun w hw => ?_))
      rw [e, if_neg hy] at hw; exact Option.some.inj hw
theorem vbin_none {k : Nat} {a b : VL8} (h : a = none ∨ b = none) : vbin k a b = none := by
  rcases h with h | h <;> rw [h]
  · rfl
  · cases a <;> rfl
theorem vbin_some {o : Nat} (ho : o ∈ mops) {x y : Int32} (h : ¬ (o = 16 ∧ y = 0)) : vbin (bo o) (some x) (some y) ≠ none := by
  have hob : o = 13 ∨ o = 14 ∨ o = 15 ∨ o = 16 ∨ o = 17 ∨ o = 4 := by simpa [mops] using ho
  rcases hob with z | z | z | z | z | z <;> rw [z]
  · exact fun q => nomatch q
  · exact fun q => nomatch q
  · exact fun q => nomatch q
  · have e : vbin (bo 16) (some x) (some y) = some (x / y) := by
      show (if y = 0 then none else some (x / y)) = _
      rw [if_neg (fun q => h ⟨z, q⟩)]
    rw [e]; exact fun q => nomatch q
  · exact fun q => nomatch q
  · exact fun q => nomatch q
theorem m_woP {v : VL8} {u : Int32} (hl : s.length ≤ 34) (hS : WSt σ s) (hv : v = some u) (h : ∀ τ, FM S144 σ τ → WSt τ (v :: s) → Bk (nI at') (nI (s.length + 1)) (nI (pos + 1)) τ) : wX12_workOut_j86 (nI n) a1 Q E Bk (nI at') (nI s.length) (nI pos) u (nI s.length) σ := by
  have ec : (nI s.length).toNatClampNeg = s.length := nI_clampE (by omega)
  have ev : vp_in (nI s.length) 64 := by simp (disch := omega) only [nI_lit, nI_add, nI_mulE, nI_clampE, nI_eqE, nI_leE, nI_ltE, vp_nIE, true_and, and_true]; omega
  unfold wX12_workOut_j86
  rw [ec]
  refine ⟨ev, fe ⟨ev, fe (fe ?_)⟩⟩
  unfold wX12_workOut_j369
  rw [nI_1, nI_1]
  refine fe (h _ S144_2 (hS.psh ?_ (fun x hx => ?_)))
  · rw [hv]; show vp_nar .boolean (0 : Int32) = 0; decide
  · rw [hv] at hx; exact Option.some.inj hx
end MW
