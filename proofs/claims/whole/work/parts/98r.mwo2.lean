/-! ===== evaluation, the model's: a step of the working out ===== -/
section MW
variable {σ : ab_S} {E : String → ab_S → Prop} {Q : ab_S → Prop} {Bk : Int32 → Int32 → Int32 → ab_S → Prop} {n at' pos : Nat} {a1 : Int32} {r : List VL8}
theorem m_wo337 {o : Nat} (ho : o ∈ mops) {a b : VL8} (hl : r.length + 2 ≤ 34) (hS : WSt σ (b :: a :: r)) {w : Int32} (hw : vp_nar .boolean w = vB (vbin (bo o) a b)) (h : ∀ τ, FM S144 σ τ → WSt τ (vbin (bo o) a b :: r) → Bk (nI at') (nI (r.length + 1)) (nI (pos + 1)) τ) : wX12_workOut_j337 (nI n) a1 Q E Bk (nI at') (nI (r.length + 1)) (nI pos) (nI o) w (nI r.length) σ := by
  obtain ⟨s1, s2, s3, s4, s5⟩ := hS
  have e1 : nI (r.length + 1) - (1 : Int32) = nI r.length := by show _ - nI 1 = _; rw [nI_subE (by omega)]; congr 1
  have ec : (nI r.length).toNatClampNeg = r.length := nI_clampE (by omega)
  have ec1 : (nI (r.length + 1)).toNatClampNeg = r.length + 1 := nI_clampE (by omega)
  have ev : vp_in (nI r.length) 64 := by simp (disch := omega) only [nI_lit, nI_add, nI_mulE, nI_clampE, nI_eqE, nI_leE, nI_ltE, vp_nIE, true_and, and_true]; omega
  have ev1 : vp_in (nI (r.length + 1)) 64 := by simp (disch := omega) only [nI_lit, nI_add, nI_mulE, nI_clampE, nI_eqE, nI_leE, nI_ltE, vp_nIE, true_and, and_true]; omega
  unfold wX12_workOut_j337
  rw [e1, ec, ec1, hw]
  refine ⟨ev, fe ⟨ev, ev1, ?_⟩⟩
  refine m_two ho (fun u hu => ⟨ev, fe ?_⟩)
  unfold wX12_workOut_j369
  rw [nI_1]
  refine fe (h _ S144_3 (s5.psh2 rfl (fun x hx => ?_)))
  cases a with
  | none => rw [vbin_none (Or.inl rfl)] at hx; exact absurd hx (by simp)
  | some xa => cases b with
    | none => rw [vbin_none (Or.inr rfl)] at hx; exact absurd hx (by simp)
    | some xb =>
      refine hu x ?_
      have q1 : (ab_I σ 145 r.length (vB (vbin (bo o) (some xa) (some xb)))).2.1 144 r.length = xa := by rw [gI_o (by decide)]; exact s4 xa rfl
      have q2 : (ab_I σ 145 r.length (vB (vbin (bo o) (some xa) (some xb)))).2.1 144 (r.length + 1) = xb := by rw [gI_o (by decide)]; exact s2 xb rfl
      rw [q1, q2]; exact hx
theorem m_wo262 {c b a w : VL8} (hl : r.length + 3 ≤ 35) (hS : WSt σ (c :: b :: a :: r)) {j : Nat} {y : Int32} (hj : j = r.length + 1 ∨ j = r.length + 2) (hw : vp_nar .boolean y = vB w) (hv : ∀ x, w = some x → σ.2.1 144 j = x) (h : ∀ τ, FM S144 σ τ → WSt τ (w :: r) → Bk (nI at') (nI (r.length + 1)) (nI (pos + 1)) τ) : wX12_workOut_j262 (nI n) a1 Q E Bk (nI at') (nI (r.length + 1)) (nI pos) (nI j) y (nI r.length) σ := by
  have e1 : nI (r.length + 1) - (1 : Int32) = nI r.length := by show _ - nI 1 = _; rw [nI_subE (by omega)]; congr 1
  have ec : (nI r.length).toNatClampNeg = r.length := nI_clampE (by omega)
  have ec1 : (nI j).toNatClampNeg = j := nI_clampE (by omega)
  have ev : vp_in (nI r.length) 64 := by simp (disch := omega) only [nI_lit, nI_add, nI_mulE, nI_clampE, nI_eqE, nI_leE, nI_ltE, vp_nIE, true_and, and_true]; omega
  have ev1 : vp_in (nI j) 64 := by simp (disch := omega) only [nI_lit, nI_add, nI_mulE, nI_clampE, nI_eqE, nI_leE, nI_ltE, vp_nIE, true_and, and_true]; omega
  unfold wX12_workOut_j262
  rw [e1, ec, ec1, hw]
  refine ⟨ev, fe ⟨ev1, ev, fe ?_⟩⟩
  unfold wX12_workOut_j369
  rw [nI_1]
  refine fe (h _ S144_3 (hS.2.2.2.2.2.2.psh2 rfl (fun x hx => ?_)))
  rw [gI_o (by decide)]; exact hv x hx
theorem m_wo225 {c b a : VL8} (hl : r.length + 3 ≤ 35) (hS : WSt σ (c :: b :: a :: r)) {j : Nat} (hj : j = if σ.2.1 144 r.length = 0 then r.length + 2 else r.length + 1) (h : ∀ τ, FM S144 σ τ → WSt τ (vif a b c :: r) → Bk (nI at') (nI (r.length + 1)) (nI (pos + 1)) τ) : wX12_workOut_j225 (nI n) a1 Q E Bk (nI at') (nI (r.length + 1)) (nI pos) (nI j) σ := by
  have hS' := hS
  obtain ⟨s1, s2, s3, s4, s5, s6, s7⟩ := hS'
  have hj2 : j = r.length + 1 ∨ j = r.length + 2 := by
    by_cases k : σ.2.1 144 r.length = 0
    · rw [if_pos k] at hj; exact Or.inr hj
    · rw [if_neg k] at hj; exact Or.inl hj
  have e1 : nI (r.length + 1) - (1 : Int32) = nI r.length := by show _ - nI 1 = _; rw [nI_subE (by omega)]; congr 1
  have ec : (nI r.length).toNatClampNeg = r.length := nI_clampE (by omega)
  have ec1 : (nI j).toNatClampNeg = j := nI_clampE (by omega)
  have ev : vp_in (nI r.length) 64 := by simp (disch := omega) only [nI_lit, nI_add, nI_mulE, nI_clampE, nI_eqE, nI_leE, nI_ltE, vp_nIE, true_and, and_true]; omega
  have ev1 : vp_in (nI j) 64 := by simp (disch := omega) only [nI_lit, nI_add, nI_mulE, nI_clampE, nI_eqE, nI_leE, nI_ltE, vp_nIE, true_and, and_true]; omega
  unfold wX12_workOut_j225
  rw [e1, ec, ec1]
  have s5 : σ.2.1 145 r.length = vB a := s5
  have s1 : σ.2.1 145 (r.length + 2) = vB c := s1
  have s3 : σ.2.1 145 (r.length + 1) = vB b := s3
  have s2 : ∀ x, c = some x → σ.2.1 144 (r.length + 2) = x := s2
  have s4 : ∀ x, b = some x → σ.2.1 144 (r.length + 1) = x := s4
  refine ⟨ev, ?_⟩
  cases a with
  | none =>
    refine yes (by rw [s5]; decide) ?_
    unfold wX12_workOut_j257
    exact m_wo262 hl hS hj2 (w := none) (by decide) (fun x hx => nomatch hx) h
  | some xa =>
    have s6 : σ.2.1 144 r.length = xa := s6 xa rfl
    refine no (fun q => q (by rw [s5]; rfl)) ⟨ev1, ?_⟩
    obtain ⟨w, hw⟩ : ∃ w, w = vif (some xa) b c := ⟨_, rfl⟩
    have hb : σ.2.1 145 j = vB w ∧ ∀ x, w = some x → σ.2.1 144 j = x := by
      by_cases k : xa = 0
      · have ew : w = c := by rw [hw]; exact if_pos k
        rw [if_pos (by rw [s6]; exact k)] at hj
        rw [hj, ew]; exact ⟨s1, s2⟩
      · have ew : w = b := by rw [hw]; exact if_neg k
        rw [if_neg (by rw [s6]; exact k)] at hj
        rw [hj, ew]; exact ⟨s3, s4⟩
    rw [← hw] at h
    rw [hb.1]
    cases hw' : w with
    | none =>
      rw [hw'] at h hb
      refine no (by decide) ?_
      unfold wX12_workOut_j257
      exact m_wo262 hl hS hj2 (by decide) hb.2 h
    | some xw =>
      rw [hw'] at h hb
      refine yes rfl ?_
      exact m_wo262 hl hS hj2 (w := some xw) (by show vp_nar .boolean (0 : Int32) = 0; decide) hb.2 h
end MW
