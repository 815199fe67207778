/-! ===== plan, start, code ===== -/
section QX
variable {σ : ab_S} {A : AST} {g q x y : Nat} {a b d : Int32} {E : String → ab_S → Prop}
theorem q_pln (hC : CIv σ A g q x y) (hA : AOK A) : ∃ c v, CAns (fun Q => wL_plan a b d Q E) σ c v ∧ ∀ σ', MIv σ' A → MAns (fun Q => wX12_plan a b d Q E) σ' c v := by
  have h11 := hC.2.2.1.1
  have hgG := hC.2.1.1
  cases hg : A.hg with
  | false =>
    refine ⟨1, 0, ⟨by decide, fun Q k => ?_⟩, fun σ' hM Q k => ?_⟩
    · show wL_plan a b d Q E σ
      unfold wL_plan wX11_plan
      exact c_nGn hC hg (Or.inl ⟨rfl, k σ (FM.rf _ _) (fun z => absurd z (by decide))⟩)
    · have h4 := hM.2.2.1.1
      rw [hg] at h4
      show wX12_plan a b d Q E σ'
      unfold wX12_plan wX12_plan_j68 wX12_plan_j69 wX12_plan_j84 wX12_plan_j94
      rw [h4]
      exact yes rfl (no (fun z => z rfl) (no (fun z => z rfl) (m_r1 (no (by decide) (k _ _ fm920 e920 (fun z => absurd z (by decide)))))))
  | true =>
    obtain ⟨o1, o2, o3, o4⟩ := hA.1 hg
    have hV := o3.1
    have hF := o3.2.1
    have h12 := hV.1.1
    have h30 := hV.2.1
    have hW := hC.2.2.2.2.2.1 hg
    have hZ := hW.1.1
    have mm : ∀ σ', MIv σ' A → σ'.2.1 92 4 = 1 ∧ MWh σ' A.G := fun σ' hM => ⟨by rw [hM.2.2.1.1, hg]; rfl, (hM.2.2.2.1 hg).2⟩
    have mbad : ∀ σ', σ'.2.1 92 4 = 1 → ∀ Q : Int32 → ab_S → Prop, (∀ τ r, FM S920 σ' τ → τ.2.1 92 0 = nI 2 → (2 = 0 → r = 0) → Q r τ) → wX12_plan_j68 a b d Q E σ' := by
      intro σ' h4 Q k
      unfold wX12_plan_j68 wX12_plan_j69 wX12_plan_j84 wX12_plan_j94
      rw [h4]
      exact yes (by decide) (no (fun z => z rfl) (m_r2 (no (by decide) (k _ _ fm920 e920 (fun z => absurd z (by decide))))))
    by_cases e1 : isPl A.G a b
    · obtain ⟨p, p1, p2, v, v1, v2, v3⟩ := e1
      have hhd : hdS A.G p < A.G.1.1 := (hV.2.2.2 p p1).2.1.2.1 0 (Nat.zero_le _)
      have h5 := (hF.vis _ hhd).2
      have hB := plB_le hF hV p (by omega)
      have hN := plN_le hF hV p1
      have hle := plF_le (Γ := A.G) (p := p) v2
      have hmo : plF A.G p v ≤ plF A.G p (v + 1) := by have := plF_mo (Γ := A.G) (p := p) (u := v - 1); rw [show v - 1 + 1 = v by omega, show v - 1 + 2 = v + 1 by omega] at this; exact this
      have e4 : (4 : Int32) * nI p = nI (4 * p) := by show nI 4 * nI _ = _; rw [nI_mulE]
      have mpos : ∀ σ', MIv σ' A → ∀ K : ab_S → Prop, ∀ Q : Int32 → ab_S → Prop, ((d < 0) → wX12_plan_j68 (nI p) (nI v) d Q E σ') → (¬ (d < 0) → wX12_plan_j69 (nI p) (nI v) d Q E 1 σ') → wX12_plan (nI p) (nI v) d Q E σ' := by
        intro σ' hM K Q k1 k2
        obtain ⟨h4, hG⟩ := mm σ' hM
        have hMG := hG.1.1.1
        unfold wX12_plan
        rw [h4, hMG.2.1]
        refine no (by decide) (m_ixy (by omega) ⟨p, p1, rfl⟩ (no (by decide) ?_))
        rw [hMG.2.1]
        refine m_ixy (by omega) ⟨p, p1, rfl⟩ (no (by decide) ?_)
        unfold wX12_plan_j51
        rw [e4, nI_clampE (show 4 * p < 2147483648 by omega)]
        have h104 : σ'.2.1 104 (4 * p) = nI (hdS A.G p) := (hMG.2.2.2 p p1).2.2.1 0 (by omega)
        rw [h104, nI_clampE (show hdS A.G p < 2147483648 by omega), (hG.1.1.2.1 _ hhd).2]
        exact ⟨by simp (disch := omega) only [nI_lit, nI_add, nI_mulE, nI_clampE, nI_eqE, nI_leE, nI_ltE, vp_nIE, true_and, and_true]; omega, by simp (disch := omega) only [nI_lit, nI_add, nI_mulE, nI_clampE, nI_eqE, nI_leE, nI_ltE, vp_nIE, true_and, and_true]; omega, m_vxy (by omega) ⟨v, v1, v2, rfl⟩ (no (by decide) ⟨k1, k2⟩)⟩
      rcases i_nn d with hd | ⟨i, i1, i2⟩
      · refine ⟨2, 0, ⟨by decide, fun Q k => ?_⟩, fun σ' hM Q k => ?_⟩
        · show wL_plan a b d Q E σ
          unfold wL_plan wX11_plan
          rw [p2, v3]
          refine c_nGy hC hg (c_nPy hgG h11 hZ hV hF p1 v1 v2 (no (Int32.not_le.mpr hd) (Or.inr ⟨rfl, k σ (FM.rf _ _) (fun z => absurd z (by decide))⟩)))
        · have hb := mbad σ' (mm σ' hM).1 Q k
          show wX12_plan a b d Q E σ'
          rw [p2, v3] at hb ⊢
          exact mpos σ' hM (fun _ => True) Q (fun _ => hb) (fun z => absurd hd z)
      · have hi0 : ¬ d < 0 := by rw [i2]; exact nI_pos i1
        have hi1 : (0 : Int32) ≤ d := Int32.not_lt.mp hi0
        have sub : nI (plB A.G p + plF A.G p (v + 1)) - nI (plB A.G p + plF A.G p v) = nI (plF A.G p (v + 1) - plF A.G p v) := by rw [nI_subE (by omega)]; congr 1; omega
        have add : nI (plB A.G p + plF A.G p v) + nI i = nI (plB A.G p + (plF A.G p v + i)) := by rw [nI_add, Nat.add_assoc]
        have e6 : (6 : Int32) * nI p + nI v = nI (6 * p + v) := by show nI 6 * nI _ + _ = _; rw [nI_mulE, nI_add]
        have e7 : nI v + (1 : Int32) = nI (v + 1) := by show _ + nI 1 = _; rw [nI_add]
        have cl : ∀ {Q : Int32 → ab_S → Prop} {E' : String → ab_S → Prop}, (((nI (plF A.G p (v + 1) - plF A.G p v)) ≤ nI i → Q (-1) σ) ∧ (¬ (nI (plF A.G p (v + 1) - plF A.G p v)) ≤ nI i → vp_in (nI (plB A.G p + (plF A.G p v + i))) 1410 ∧ Q (σ.2.1 12 (nI (plB A.G p + (plF A.G p v + i))).toNatClampNeg) σ)) → wX11_plan (nI p) (nI v) (nI i) Q E' σ := by
          intro Q E' hk
          unfold wX11_plan
          rw [← i2, e7]
          refine c_nGy hC hg (c_nPy hgG h11 hZ hV hF p1 v1 v2 (yes hi1 (c_first hZ hV hF p1 v1 (by omega) (c_first hZ hV hF p1 (by omega) (by omega) ?_))))
          rw [sub, i2, add]
          exact hk
        have ml : ∀ σ', MIv σ' A → ∀ Q : Int32 → ab_S → Prop, (((nI (plF A.G p (v + 1) - plF A.G p v)) ≤ nI i → Q (-1) (ab_I σ' 92 0 (nI 0))) ∧ (¬ (nI (plF A.G p (v + 1) - plF A.G p v)) ≤ nI i → vp_in (nI (plB A.G p + (plF A.G p v + i))) 1600 ∧ Q (σ'.2.1 113 (nI (plB A.G p + (plF A.G p v + i))).toNatClampNeg) (ab_I σ' 92 0 (nI 0)))) → wX12_plan (nI p) (nI v) (nI i) Q E σ' := by
          intro σ' hM Q hk
          obtain ⟨h4, hG⟩ := mm σ' hM
          have mp := mpos σ' hM (fun _ => True) Q
          rw [i2] at mp hi0
          refine mp (fun z => absurd z hi0) (fun _ => ?_)
          unfold wX12_plan_j69 wX12_plan_j84 wX12_plan_j94
          rw [h4, e6, nI_clampE (show 6 * p + v < 2147483648 by omega)]
          refine yes (by decide) (yes (by decide) (m_r0 (yes rfl ⟨by simp (disch := omega) only [nI_lit, nI_add, nI_mulE, nI_clampE, nI_eqE, nI_leE, nI_ltE, vp_nIE, true_and, and_true]; omega, ?_⟩)))
          rw [n920 (by omega), n920 (by omega), ((hG.1.2.1 p p1).1 v v1 v2).1, ((hG.1.2.1 p p1).1 v v1 v2).2]
          refine fe ⟨by simp (disch := omega) only [nI_lit, nI_add, nI_mulE, nI_clampE, nI_eqE, nI_leE, nI_ltE, vp_nIE, true_and, and_true]; omega, ?_⟩
          rw [sub, add, n920 (by omega)]
          exact hk
        by_cases hlt : plF A.G p v + i < plF A.G p (v + 1)
        · have hno : ¬ nI (plF A.G p (v + 1) - plF A.G p v) ≤ nI i := by simp (disch := omega) only [nI_lit, nI_add, nI_mulE, nI_clampE, nI_eqE, nI_leE, nI_ltE, vp_nIE, true_and, and_true]; omega
          have ecl : (nI (plB A.G p + (plF A.G p v + i))).toNatClampNeg = plB A.G p + (plF A.G p v + i) := nI_clampE (by omega)
          refine ⟨0, nI ((plP A.G p).es.getD (plF A.G p v + i) (0, 0, 0)).1, ⟨by decide, fun Q k => ?_⟩, fun σ' hM Q k => ?_⟩
          · show wL_plan a b d Q E σ
            unfold wL_plan
            rw [p2, v3, i2]
            refine cl (no hno ⟨by simp (disch := omega) only [nI_lit, nI_add, nI_mulE, nI_clampE, nI_eqE, nI_leE, nI_ltE, vp_nIE, true_and, and_true]; omega, ?_⟩)
            rw [ecl, ((hZ.2.2 p p1).2.1 _ (by omega)).1]
            exact c_ans (FM.rf _ _) k
          · show wX12_plan a b d Q E σ'
            rw [p2, v3, i2]
            refine ml σ' hM Q (no hno ⟨by simp (disch := omega) only [nI_lit, nI_add, nI_mulE, nI_clampE, nI_eqE, nI_leE, nI_ltE, vp_nIE, true_and, and_true]; omega, ?_⟩)
            rw [ecl, ((mm σ' hM).2.1.2.1 p p1).2.1 _ (by omega)]
            exact k _ _ fm920 e920 (fun _ => rfl)
        · have hyes : nI (plF A.G p (v + 1) - plF A.G p v) ≤ nI i := by simp (disch := omega) only [nI_lit, nI_add, nI_mulE, nI_clampE, nI_eqE, nI_leE, nI_ltE, vp_nIE, true_and, and_true]; omega
          refine ⟨0, -1, ⟨by decide, fun Q k => ?_⟩, fun σ' hM Q k => ?_⟩
          · show wL_plan a b d Q E σ
            unfold wL_plan
            rw [p2, v3, i2]
            exact cl (yes hyes (c_ans (FM.rf _ _) k))
          · show wX12_plan a b d Q E σ'
            rw [p2, v3, i2]
            exact ml σ' hM Q (yes hyes (k _ _ fm920 e920 (fun _ => rfl)))
    · refine ⟨2, 0, ⟨by decide, fun Q k => ?_⟩, fun σ' hM Q k => ?_⟩
      · show wL_plan a b d Q E σ
        unfold wL_plan wX11_plan
        exact c_nGy hC hg (c_nPn hgG h11 hZ hV hF e1 (Or.inr ⟨rfl, k σ (FM.rf _ _) (fun z => absurd z (by decide))⟩))
      · obtain ⟨h4, hG⟩ := mm σ' hM
        have hMG := hG.1.1.1
        have hb := mbad σ' h4 Q k
        show wX12_plan a b d Q E σ'
        unfold wX12_plan
        rw [h4, hMG.2.1]
        refine no (by decide) ?_
        by_cases ep : isIx a A.G.2.1
        · refine m_ixy (by omega) ep (no (by decide) ?_)
          rw [hMG.2.1]
          refine m_ixy (by omega) ep (no (by decide) ?_)
          obtain ⟨p, p1, p2⟩ := ep
          have hhd : hdS A.G p < A.G.1.1 := (hV.2.2.2 p p1).2.1.2.1 0 (Nat.zero_le _)
          have h5 := (hF.vis _ hhd).2
          have e4 : (4 : Int32) * nI p = nI (4 * p) := by show nI 4 * nI _ = _; rw [nI_mulE]
          unfold wX12_plan_j51
          have h104 : σ'.2.1 104 (4 * p) = nI (hdS A.G p) := (hMG.2.2.2 p p1).2.2.1 0 (by omega)
          have eb : ¬ isVx b (svs A.G (hdS A.G p)) := fun z => e1 ⟨p, p1, p2, z⟩
          rw [p2] at hb ⊢
          rw [e4, nI_clampE (show 4 * p < 2147483648 by omega), h104, nI_clampE (show hdS A.G p < 2147483648 by omega), (hG.1.1.2.1 _ hhd).2]
          exact ⟨by simp (disch := omega) only [nI_lit, nI_add, nI_mulE, nI_clampE, nI_eqE, nI_leE, nI_ltE, vp_nIE, true_and, and_true]; omega, by simp (disch := omega) only [nI_lit, nI_add, nI_mulE, nI_clampE, nI_eqE, nI_leE, nI_ltE, vp_nIE, true_and, and_true]; omega, m_vxn (by omega) eb (yes rfl hb)⟩
        · exact m_ixn (by omega) ep (yes rfl hb)
end QX
