/-! ===== evaluation, the model's: a rule worked out ===== -/
section MW
variable {σ : ab_S} {E : String → ab_S → Prop} {Q : ab_S → Prop} {Bk : Int32 → Int32 → Int32 → ab_S → Prop} {n at' pos : Nat} {a1 : Int32} {s : List VL8} {Γ : GRT} {T : TST} {kn : Nat → Nat → Bool} {vl : Nat → Nat → VL8}
theorem m_wo1 (hM : MTt σ Γ T) (hV : GRV Γ) (hT : TOK Γ T) (hn : n < T.N) (hE : MEv σ kn vl) {z : Nat × Nat} (hz : okz z s) (hl : s.length ≤ 34) (hS : WSt σ s) (c1 : σ.2.1 107 pos = nI z.1) (c2 : σ.2.1 108 pos = nI z.2) (h60 : z.1 < 60 ∧ z.2 < 1000000) (hpos : pos < 2500) (hat : at' < 992) (hle : ¬ σ.2.1 106 at' ≤ nI pos) (hg : z.1 = 50 → z.2 < 32 ∧ z.2 / 8 ≤ rt Γ (T.pr n) ∧ kn (T.ch n (z.2 / 8)) (z.2 % 8) = true) (h : ∀ τ, FM S144 σ τ → WSt τ (wo1 (fun y => vl (T.ch n (y / 8)) (y % 8)) (some (T.li n)) s z) → Bk (nI at') (nI (wo1 (fun y => vl (T.ch n (y / 8)) (y % 8)) (some (T.li n)) s z).length) (nI (pos + 1)) τ) : wX12_workOut_l23_b (nI n) a1 Q E Bk (nI at') (nI s.length) (nI pos) σ := by
  have hN := hT.2.1
  have ecp : (nI pos).toNatClampNeg = pos := nI_clampE (by omega)
  have evp : vp_in (nI pos) 2500 := by simp (disch := omega) only [nI_lit, nI_add, nI_mulE, nI_clampE, nI_eqE, nI_leE, nI_ltE, vp_nIE, true_and, and_true]; omega
  have eva : vp_in (nI at') 992 := by simp (disch := omega) only [nI_lit, nI_add, nI_mulE, nI_clampE, nI_eqE, nI_leE, nI_ltE, vp_nIE, true_and, and_true]; omega
  have nz : ∀ k, k < 1000 → z.1 ≠ k → ¬ nI z.1 = nI k := fun k hk hne => by rw [nI_eqE (by omega) (by omega)]; exact hne
  unfold wX12_workOut_l23_b
  rw [nI_clampE (show at' < 2147483648 by omega), ecp, c1, c2]
  refine ⟨eva, no hle ⟨evp, fe ?_⟩⟩
  by_cases k40 : z.1 = 40
  · have ew : wo1 (fun y => vl (T.ch n (y / 8)) (y % 8)) (some (T.li n)) s z = some (nI z.2) :: s := by unfold wo1; rw [if_pos k40]
    rw [ew] at h
    refine yes (by rw [k40]; rfl) ?_
    unfold wX12_workOut_j57
    rw [ecp, c2]
    exact no (fun q => q (by rw [k40]; rfl)) ⟨evp, m_woP hl hS rfl h⟩
  refine no (nz 40 (by omega) k40) ?_
  by_cases k41 : z.1 = 41
  · have ew : wo1 (fun y => vl (T.ch n (y / 8)) (y % 8)) (some (T.li n)) s z = some (T.li n) :: s := by unfold wo1; rw [if_neg k40, if_pos k41]
    rw [ew] at h
    refine no (fun q => q (by rw [k41]; rfl)) ?_
    unfold wX12_workOut_j57
    rw [nI_clampE (show n < 2147483648 by omega), (hM.2 n hn).2.2.2.1]
    exact yes (nz 40 (by omega) k40) ⟨by simp (disch := omega) only [nI_lit, nI_add, nI_mulE, nI_clampE, nI_eqE, nI_leE, nI_ltE, vp_nIE, true_and, and_true]; omega, m_woP hl hS rfl h⟩
  refine yes (nz 41 (by omega) k41) ?_
  by_cases k50 : z.1 = 50
  · have ew : wo1 (fun y => vl (T.ch n (y / 8)) (y % 8)) (some (T.li n)) s z = vl (T.ch n (z.2 / 8)) (z.2 % 8) :: s := by unfold wo1; rw [if_neg k40, if_neg k41, if_pos k50]
    rw [ew] at h
    obtain ⟨g1, g2, g3⟩ := hg k50
    have ec : (nI s.length).toNatClampNeg = s.length := nI_clampE (by omega)
    have ev : vp_in (nI s.length) 64 := by simp (disch := omega) only [nI_lit, nI_add, nI_mulE, nI_clampE, nI_eqE, nI_leE, nI_ltE, vp_nIE, true_and, and_true]; omega
    have hch : T.ch n (z.2 / 8) < T.N := by
      obtain ⟨t1, t2⟩ := hT.2.2 n hn
      by_cases h0 : z.2 / 8 = 0
      · rw [h0, t1.2.2.2.2.2.1]; exact hn
      · exact (t1.2.2.2.2.2.2.1 (z.2 / 8) (by omega) (by omega)).2.1
    obtain ⟨v1, v2, v3⟩ := hE (T.ch n (z.2 / 8)) (z.2 % 8) (by omega) (by omega)
    rw [g3] at v1 v2 v3
    have evv : vp_in (nI (8 * T.ch n (z.2 / 8) + z.2 % 8)) 2000 := by simp (disch := omega) only [nI_lit, nI_add, nI_mulE, nI_clampE, nI_eqE, nI_leE, nI_ltE, vp_nIE, true_and, and_true]; omega
    have ecv : (nI (8 * T.ch n (z.2 / 8) + z.2 % 8)).toNatClampNeg = 8 * T.ch n (z.2 / 8) + z.2 % 8 := nI_clampE (by omega)
    refine no (fun q => q (by rw [k50]; rfl)) ⟨evp, ?_⟩
    refine m_vAt hM hV hT hn g1 g2 ⟨evv, ev, ?_⟩
    rw [ecv, ec, v2]
    refine fe ⟨evp, ?_⟩
    rw [gI_o (by decide), c2]
    have hM2 : MTt (ab_I σ 144 s.length (if true = true then vI (vl (T.ch n (z.2 / 8)) (z.2 % 8)) else 0)) Γ T := by
      refine ⟨by rw [gI_o (by decide)]; exact hM.1, fun k hk => ?_⟩
      obtain ⟨b1, b2, b3, b4, b5⟩ := hM.2 k hk
      exact ⟨by rw [gI_o (by decide)]; exact b1, by rw [gI_o (by decide)]; exact b2, by rw [gI_o (by decide)]; exact b3, by rw [gI_o (by decide)]; exact b4, fun o o1 o2 => by rw [gI_o (by decide)]; exact b5 o o1 o2⟩
    refine m_vAt hM2 hV hT hn g1 g2 ⟨evv, ev, ?_⟩
    rw [ecv, gI_o (by decide), v3]
    refine fe ?_
    unfold wX12_workOut_j369
    rw [nI_1, nI_1]
    refine fe (fe (h _ S144_2 (hS.psh ?_ (fun x hx => ?_))))
    · rw [if_pos rfl]
      cases vl (T.ch n (z.2 / 8)) (z.2 % 8)
      · decide
      · show vp_nar .boolean (0 : Int32) = 0; decide
    · rw [if_pos rfl, hx]; rfl
  refine yes (nz 50 (by omega) k50) ?_
  by_cases k30 : z.1 = 30
  · obtain ⟨a, r, hs⟩ : ∃ a r, s = a :: r := by
      have := hz.1 k30
      cases s with
      | nil => exact absurd this (by simp)
      | cons a r => exact ⟨a, r, rfl⟩
    subst hs
    have ew : wo1 (fun y => vl (T.ch n (y / 8)) (y % 8)) (some (T.li n)) (a :: r) z = vneg a :: r := by unfold wo1; rw [if_neg k40, if_neg k41, if_neg k50, if_pos k30]
    rw [ew] at h
    rw [List.length_cons] at hl ⊢
    have e1 : nI (r.length + 1) - (1 : Int32) = nI r.length := by show _ - nI 1 = _; rw [nI_subE (by omega)]; congr 1
    have ev : vp_in (nI r.length) 64 := by simp (disch := omega) only [nI_lit, nI_add, nI_mulE, nI_clampE, nI_eqE, nI_leE, nI_ltE, vp_nIE, true_and, and_true]; omega
    rw [e1, nI_clampE (show r.length < 2147483648 by omega)]
    refine no (fun q => q (by rw [k30]; rfl)) ⟨ev, ev, fe ?_⟩
    unfold wX12_workOut_j369
    rw [nI_1]
    refine fe (h _ ((FM.rf _ σ).I (decide_eq_true (by omega))) ⟨?_, fun x hx => ?_, hS.2.2.cg (fun i hi => ?_)⟩)
    · rw [gI_o (by decide), hS.1]
      cases a <;> rfl
    · rw [gI_s, if_pos rfl]
      cases a with
      | none => exact nomatch hx
      | some xa =>
        rw [hS.2.1 xa rfl]
        have hx : some (0 - xa) = some x := hx
        rw [← Option.some.inj hx]
        exact (Int32.zero_sub xa).symm
    · refine ⟨?_, ?_⟩
      · rw [gI_s, if_neg (by omega)]
      · rw [gI_o (by decide)]
  refine yes (nz 30 (by omega) k30) ?_
  by_cases k31 : z.1 = 31
  · obtain ⟨c, b, a, r, hs⟩ : ∃ c b a r, s = c :: b :: a :: r := by
      have := hz.2.1 k31
      match s, this with
      | c :: b :: a :: r, _ => exact ⟨c, b, a, r, rfl⟩
    subst hs
    have ew : wo1 (fun y => vl (T.ch n (y / 8)) (y % 8)) (some (T.li n)) (c :: b :: a :: r) z = vif a b c :: r := by unfold wo1; rw [if_neg k40, if_neg k41, if_neg k50, if_neg k30, if_pos k31]
    rw [ew] at h
    have hl : r.length + 3 ≤ 34 := hl
    have el : (c :: b :: a :: r).length = r.length + 3 := rfl
    have e2 : nI (r.length + 3) - (2 : Int32) = nI (r.length + 1) := by show _ - nI 2 = _; rw [nI_subE (by omega)]; congr 1
    have e1 : nI (r.length + 1) - (1 : Int32) = nI r.length := by show _ - nI 1 = _; rw [nI_subE (by omega)]; congr 1
    have e3 : nI (r.length + 1) + (1 : Int32) = nI (r.length + 2) := by show _ + nI 1 = _; rw [nI_add]
    have ev : vp_in (nI r.length) 64 := by simp (disch := omega) only [nI_lit, nI_add, nI_mulE, nI_clampE, nI_eqE, nI_leE, nI_ltE, vp_nIE, true_and, and_true]; omega
    rw [el, e2]
    refine no (fun q => q (by rw [k31]; rfl)) (fe ?_)
    rw [e1, e3, nI_clampE (show r.length < 2147483648 by omega)]
    refine ⟨ev, ?_⟩
    by_cases k : σ.2.1 144 r.length = 0
    · exact yes k (m_wo225 (by omega) hS (by rw [if_pos k]) h)
    · exact no k (m_wo225 (by omega) hS (by rw [if_neg k]) h)
  refine yes (nz 31 (by omega) k31) ?_
  obtain ⟨hl2, ho⟩ := hz.2.2 k40 k41 k50 k30 k31
  obtain ⟨b, a, r, hs⟩ : ∃ b a r, s = b :: a :: r := by
    match s, hl2 with
    | b :: a :: r, _ => exact ⟨b, a, r, rfl⟩
  subst hs
  have ew : wo1 (fun y => vl (T.ch n (y / 8)) (y % 8)) (some (T.li n)) (b :: a :: r) z = vbin (bo z.1) a b :: r := by unfold wo1; rw [if_neg k40, if_neg k41, if_neg k50, if_neg k30, if_neg k31]
  rw [ew] at h
  have hl : r.length + 2 ≤ 34 := hl
  have el : (b :: a :: r).length = r.length + 2 := rfl
  have e2 : nI (r.length + 2) - (1 : Int32) = nI (r.length + 1) := by show _ - nI 1 = _; rw [nI_subE (by omega)]; congr 1
  have e1 : nI (r.length + 1) - (1 : Int32) = nI r.length := by show _ - nI 1 = _; rw [nI_subE (by omega)]; congr 1
  have ev : vp_in (nI r.length) 64 := by simp (disch := omega) only [nI_lit, nI_add, nI_mulE, nI_clampE, nI_eqE, nI_leE, nI_ltE, vp_nIE, true_and, and_true]; omega
  have ev1 : vp_in (nI (r.length + 1)) 64 := by simp (disch := omega) only [nI_lit, nI_add, nI_mulE, nI_clampE, nI_eqE, nI_leE, nI_ltE, vp_nIE, true_and, and_true]; omega
  rw [el, e2]
  refine fe ?_
  rw [e1, nI_clampE (show r.length < 2147483648 by omega), nI_clampE (show r.length + 1 < 2147483648 by omega)]
  have hS' := hS
  obtain ⟨s1, s2, s3, s4, s5⟩ := hS'
  have s1 : σ.2.1 145 (r.length + 1) = vB b := s1
  have s3 : σ.2.1 145 r.length = vB a := s3
  rw [s3, s1]
  unfold wX12_workOut_j332 wX12_workOut_j336
  refine ⟨ev, ?_⟩
  cases a with
  | none => exact yes (by decide) (m_wo337 ho hl hS (by rw [vbin_none (Or.inl rfl)]; decide) h)
  | some xa =>
    refine no (fun q => q rfl) ⟨ev1, ?_⟩
    cases b with
    | none => exact yes (by decide) (m_wo337 ho hl hS (by rw [vbin_none (Or.inr rfl)]; decide) h)
    | some xb =>
      refine no (fun q => q rfl) ?_
      have hb : σ.2.1 144 (r.length + 1) = xb := s2 xb rfl
      rw [hb]
      have good : ¬ (z.1 = 16 ∧ xb = 0) → vp_nar .boolean (0 : Int32) = vB (vbin (bo z.1) (some xa) (some xb)) := fun hq => by
        rw [(vB_0).mpr (vbin_some ho hq)]; decide
      by_cases k16 : z.1 = 16
      · refine no (fun q => q (by rw [k16]; rfl)) ⟨ev1, ?_⟩
        by_cases kb : xb = 0
        · refine no (fun q => q kb) (m_wo337 ho hl hS ?_ h)
          have e : vbin (bo z.1) (some xa) (some xb) = none := by
            rw [k16]
            show (if xb = 0 then none else some (xa / xb)) = none
            rw [if_pos kb]
          rw [e]; decide
        · exact yes kb (m_wo337 ho hl hS (good (fun q => kb q.2)) h)
      · exact yes (nz 16 (by omega) k16) (m_wo337 ho hl hS (good (fun q => k16 q.1)) h)
end MW
