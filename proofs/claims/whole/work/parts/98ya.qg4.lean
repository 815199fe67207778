/-! ===== start, code, visit ===== -/
section QX
variable {σ : ab_S} {A : AST} {g q x y : Nat} {a b d : Int32} {E : String → ab_S → Prop}
theorem q_sta (hC : CIv σ A g q x y) (hA : AOK A) : ∃ c v, CAns (fun Q => wL_start a b Q E) σ c v ∧ ∀ σ', MIv σ' A → MAns (fun Q => wX12_start a b Q E) σ' c v := by
  have h11 := hC.2.2.1.1
  have hgG := hC.2.1.1
  cases hg : A.hg with
  | false =>
    refine ⟨1, 0, ⟨by decide, fun Q k => ?_⟩, fun σ' hM Q k => ?_⟩
    · show wL_start a b Q E σ
      unfold wL_start wX11_start
      exact c_nGn hC hg (Or.inl ⟨rfl, k σ (FM.rf _ _) (fun z => absurd z (by decide))⟩)
    · have h4 := hM.2.2.1.1
      rw [hg] at h4
      show wX12_start a b Q E σ'
      unfold wX12_start wX12_start_j25 wX12_start_j26 wX12_start_j64 wX12_start_j65 wX12_start_j80 wX12_start_j96 wX12_start_j97
      rw [h4]
      exact yes rfl (yes rfl (no (fun z => z rfl) (yes rfl (m_r1 (no (by decide) (k _ _ fm920 e920 (fun z => absurd z (by decide))))))))
  | true =>
    obtain ⟨o1, o2, o3, o4⟩ := hA.1 hg
    have hV := o3.1
    have hF := o3.2.1
    have h12 := hV.1.1
    have h30 := hV.2.1
    have hW := hC.2.2.2.2.2.1 hg
    have hZ := hW.1.1
    have mm : ∀ σ', MIv σ' A → σ'.2.1 92 4 = 1 ∧ MWh σ' A.G := fun σ' hM => ⟨by rw [hM.2.2.1.1, hg]; rfl, (hM.2.2.2.1 hg).2⟩
    have mbad : ∀ σ', σ'.2.1 92 4 = 1 → ∀ Q : Int32 → ab_S → Prop, (∀ τ r, FM S920 σ' τ → τ.2.1 92 0 = nI 2 → (2 = 0 → r = 0) → Q r τ) → wX12_start_j64 a b Q E σ' := by
      intro σ' h4 Q k
      unfold wX12_start_j64 wX12_start_j65 wX12_start_j80 wX12_start_j97
      rw [h4]
      exact yes (by decide) (no (by decide) (no (fun z => z rfl) (m_r2 (no (by decide) (k _ _ fm920 e920 (fun z => absurd z (by decide)))))))
    by_cases e1 : isPl A.G a b
    · obtain ⟨p, p1, p2, v, v1, v2, v3⟩ := e1
      have hhd : hdS A.G p < A.G.1.1 := (hV.2.2.2 p p1).2.1.2.1 0 (Nat.zero_le _)
      have h5 := (hF.vis _ hhd).2
      have e4 : (4 : Int32) * nI p = nI (4 * p) := by show nI 4 * nI _ = _; rw [nI_mulE]
      have e6 : (6 : Int32) * nI p + nI v = nI (6 * p + v) := by show nI 6 * nI _ + _ = _; rw [nI_mulE, nI_add]
      have e7 : nI p * (7 : Int32) + nI v = nI (p * 7 + v) := by show nI _ * nI 7 + _ = _; rw [nI_mulE, nI_add]
      refine ⟨0, nI (pgV A.G p v), ⟨by decide, fun Q k => ?_⟩, fun σ' hM Q k => ?_⟩
      · show wL_start a b Q E σ
        unfold wL_start wX11_start
        rw [p2, v3]
        refine c_nGy hC hg (c_nPy hgG h11 hZ hV hF p1 v1 v2 ?_)
        unfold wX5_first
        rw [e7, nI_clampE (show p * 7 + v < 2147483648 by omega), hW.2.1.2 p v p1 v1 v2]
        exact ⟨by simp (disch := omega) only [nI_lit, nI_add, nI_mulE, nI_clampE, nI_eqE, nI_leE, nI_ltE, vp_nIE, true_and, and_true]; omega, c_ans (FM.rf _ _) k⟩
      · obtain ⟨h4, hG⟩ := mm σ' hM
        have hMG := hG.1.1.1
        show wX12_start a b Q E σ'
        unfold wX12_start
        rw [h4, hMG.2.1, p2, v3]
        refine no (by decide) (m_ixy (by omega) ⟨p, p1, rfl⟩ (no (by decide) ?_))
        unfold wX12_start_j26
        refine no (by decide) (no (by decide) ?_)
        unfold wX12_start_j51
        rw [e4, nI_clampE (show 4 * p < 2147483648 by omega)]
        have h104 : σ'.2.1 104 (4 * p) = nI (hdS A.G p) := (hMG.2.2.2 p p1).2.2.1 0 (by omega)
        rw [h104, nI_clampE (show hdS A.G p < 2147483648 by omega), (hG.1.1.2.1 _ hhd).2]
        refine ⟨by simp (disch := omega) only [nI_lit, nI_add, nI_mulE, nI_clampE, nI_eqE, nI_leE, nI_ltE, vp_nIE, true_and, and_true]; omega, by simp (disch := omega) only [nI_lit, nI_add, nI_mulE, nI_clampE, nI_eqE, nI_leE, nI_ltE, vp_nIE, true_and, and_true]; omega, m_vxy (by omega) ⟨v, v1, v2, rfl⟩ (no (by decide) ?_)⟩
        unfold wX12_start_j65 wX12_start_j80 wX12_start_j96 wX12_start_j97
        rw [h4, e6]
        refine yes (by decide) (no (by decide) (yes (by decide) (m_r0 (yes rfl ⟨by simp (disch := omega) only [nI_lit, nI_add, nI_mulE, nI_clampE, nI_eqE, nI_leE, nI_ltE, vp_nIE, true_and, and_true]; omega, ?_⟩))))
        rw [n920 (by omega), nI_clampE (show 6 * p + v < 2147483648 by omega), hG.2.1.2 p v p1 v1 v2]
        exact k _ _ fm920 e920 (fun _ => rfl)
    · refine ⟨2, 0, ⟨by decide, fun Q k => ?_⟩, fun σ' hM Q k => ?_⟩
      · show wL_start a b Q E σ
        unfold wL_start wX11_start
        exact c_nGy hC hg (c_nPn hgG h11 hZ hV hF e1 (Or.inr ⟨rfl, k σ (FM.rf _ _) (fun z => absurd z (by decide))⟩))
      · obtain ⟨h4, hG⟩ := mm σ' hM
        have hMG := hG.1.1.1
        have hb := mbad σ' h4 Q k
        show wX12_start a b Q E σ'
        unfold wX12_start wX12_start_j25
        rw [h4, hMG.2.1]
        refine no (by decide) ?_
        by_cases ep : isIx a A.G.2.1
        · refine m_ixy (by omega) ep (no (by decide) ?_)
          obtain ⟨p, p1, p2⟩ := ep
          have hhd : hdS A.G p < A.G.1.1 := (hV.2.2.2 p p1).2.1.2.1 0 (Nat.zero_le _)
          have h5 := (hF.vis _ hhd).2
          have e4 : (4 : Int32) * nI p = nI (4 * p) := by show nI 4 * nI _ = _; rw [nI_mulE]
          unfold wX12_start_j26
          refine no (by decide) (no (by decide) ?_)
          unfold wX12_start_j51
          have h104 : σ'.2.1 104 (4 * p) = nI (hdS A.G p) := (hMG.2.2.2 p p1).2.2.1 0 (by omega)
          have eb : ¬ isVx b (svs A.G (hdS A.G p)) := fun z => e1 ⟨p, p1, p2, z⟩
          rw [p2] at hb ⊢
          rw [e4, nI_clampE (show 4 * p < 2147483648 by omega), h104, nI_clampE (show hdS A.G p < 2147483648 by omega), (hG.1.1.2.1 _ hhd).2]
          exact ⟨by simp (disch := omega) only [nI_lit, nI_add, nI_mulE, nI_clampE, nI_eqE, nI_leE, nI_ltE, vp_nIE, true_and, and_true]; omega, by simp (disch := omega) only [nI_lit, nI_add, nI_mulE, nI_clampE, nI_eqE, nI_leE, nI_ltE, vp_nIE, true_and, and_true]; omega, m_vxn (by omega) eb (yes rfl hb)⟩
        · refine m_ixn (by omega) ep (yes rfl ?_)
          unfold wX12_start_j26
          exact yes rfl hb
theorem c_nIn {N : Nat} {Q : ab_S → Prop} (hN : N ≤ 2147483647) (h : ¬ isIx a N) (k : E "java/lang/IndexOutOfBoundsException" σ) : wX11_needIndex a (nI N) Q E σ := by
  unfold wX11_needIndex wX11_needIndex_j9
  exact c_ixn hN h k
theorem c_nIy {N i : Nat} {Q : ab_S → Prop} (hN : N ≤ 2147483647) (h : i < N) (k : Q σ) : wX11_needIndex (nI i) (nI N) Q E σ := by
  unfold wX11_needIndex
  exact c_ixy hN h k
theorem isIx2 (h0 : a ≠ 0) (h1 : a ≠ 1) : ¬ isIx a 2 := by
  rintro ⟨j, j1, j2⟩
  have : j = 0 ∨ j = 1 := by omega
  rcases this with z | z
  · exact h0 (by rw [j2, z]; rfl)
  · exact h1 (by rw [j2, z]; rfl)
theorem q_cod (hC : CIv σ A g q x y) (hA : AOK A) : ∃ c v, CAns (fun Q => wL_code a b Q E) σ c v ∧ ∀ σ', MIv σ' A → MAns (fun Q => wX12_code a b Q E) σ' c v := by
  have h11 := hC.2.2.1.1
  have hgG := hC.2.1.1
  cases hg : A.hg with
  | false =>
    refine ⟨1, 0, ⟨by decide, fun Q k => ?_⟩, fun σ' hM Q k => ?_⟩
    · show wL_code a b Q E σ
      unfold wL_code wX11_code
      exact c_nGn hC hg (Or.inl ⟨rfl, k σ (FM.rf _ _) (fun z => absurd z (by decide))⟩)
    · have h4 := hM.2.2.1.1
      rw [hg] at h4
      show wX12_code a b Q E σ'
      unfold wX12_code wX12_code_j25 wX12_code_j26 wX12_code_j40 wX12_code_j55 wX12_code_j56 wX12_code_j73 wX12_code_j74
      rw [h4]
      exact yes rfl (no (fun z => z rfl) (yes rfl (yes rfl (m_r1 (no (by decide) (k _ _ fm920 e920 (fun z => absurd z (by decide))))))))
  | true =>
    obtain ⟨o1, o2, o3, o4⟩ := hA.1 hg
    have hw := o3.2.2.2.1
    have hW := hC.2.2.2.2.2.1 hg
    have hPg := hW.2.1.1
    have hlen : (PLs A.G A.G.2.1).length ≤ 3000 := by rw [LP_len]; exact hw
    have mm : ∀ σ', MIv σ' A → σ'.2.1 92 4 = 1 ∧ MWh σ' A.G := fun σ' hM => ⟨by rw [hM.2.2.1.1, hg]; rfl, (hM.2.2.2.1 hg).2⟩
    by_cases e1 : isIx a (PLs A.G A.G.2.1).length
    · obtain ⟨i, i1, i2⟩ := e1
      have ml : ∀ σ', MIv σ' A → ∀ Q : Int32 → ab_S → Prop, (∀ z : Bool, (z = false → isIx b 2) → (z = true → ¬ isIx b 2) → wX12_code_j74 (nI i) b Q E (bI z) 0 0 σ') → wX12_code (nI i) b Q E σ' := by
        intro σ' hM Q hk
        obtain ⟨h4, hG⟩ := mm σ' hM
        unfold wX12_code
        rw [h4, hG.2.1.1.1]
        refine no (by decide) (m_ixy (by omega) ⟨i, i1, rfl⟩ (no (by decide) ?_))
        unfold wX12_code_j26
        rw [h4]
        refine yes (by decide) ?_
        unfold wX12_code_j40
        rw [h4]
        refine no (by decide) (yes (by decide) ?_)
        unfold wX12_code_j55 wX12_code_j56
        refine no (by decide) ?_
        by_cases q2 : isIx b 2
        · have := m_ixy (σ := σ') (E := E) (N := 2) (by omega) q2 (Q := fun u4 σ3 => ((¬ u4 = 0) → wX12_code_j73 (nI i) b Q E 0 0 σ3) ∧ (¬ (¬ u4 = 0) → wX12_code_j74 (nI i) b Q E 1 0 0 σ3)) (yes (by decide) (hk false (fun _ => q2) (fun z => absurd z (by decide))))
          exact this
        · have := m_ixn (σ := σ') (E := E) (N := 2) (by omega) q2 (Q := fun u4 σ3 => ((¬ u4 = 0) → wX12_code_j73 (nI i) b Q E 0 0 σ3) ∧ (¬ (¬ u4 = 0) → wX12_code_j74 (nI i) b Q E 1 0 0 σ3)) (no (fun z => z rfl) (hk true (fun z => absurd z (by decide)) (fun _ => q2)))
          exact this
      have eci : (nI i).toNatClampNeg = i := nI_clampE (by omega)
      by_cases b0 : b = 0
      · refine ⟨0, nI ((PLs A.G A.G.2.1).getD i (0, 0, 0)).1, ⟨by decide, fun Q k => ?_⟩, fun σ' hM Q k => ?_⟩
        · show wL_code a b Q E σ
          unfold wL_code
          rw [i2]
          unfold wX11_code
          refine c_nGy hC hg ?_
          rw [hPg.1]
          refine c_nIy (by omega) i1 (yes b0 ⟨by simp (disch := omega) only [nI_lit, nI_add, nI_mulE, nI_clampE, nI_eqE, nI_leE, nI_ltE, vp_nIE, true_and, and_true]; omega, ?_⟩)
          rw [eci, (hPg.2 i i1).1]
          exact c_ans (FM.rf _ _) k
        · show wX12_code a b Q E σ'
          rw [i2]
          refine ml σ' hM Q (fun z z1 z2 => ?_)
          cases z with
          | true => exact absurd ⟨0, by omega, b0⟩ (z2 rfl)
          | false =>
            unfold wX12_code_j74
            refine m_r0 (yes rfl (no (fun z => z b0) ⟨by simp (disch := omega) only [nI_lit, nI_add, nI_mulE, nI_clampE, nI_eqE, nI_leE, nI_ltE, vp_nIE, true_and, and_true]; omega, ?_⟩))
            rw [n920 (by omega), eci, ((mm σ' hM).2.2.1.1.2 i i1).1]
            exact k _ _ fm920 e920 (fun _ => rfl)
      · by_cases b1 : b = 1
        · refine ⟨0, nI ((PLs A.G A.G.2.1).getD i (0, 0, 0)).2.1, ⟨by decide, fun Q k => ?_⟩, fun σ' hM Q k => ?_⟩
          · show wL_code a b Q E σ
            unfold wL_code
            rw [i2]
            unfold wX11_code
            refine c_nGy hC hg ?_
            rw [hPg.1]
            refine c_nIy (by omega) i1 (no b0 (yes b1 ⟨by simp (disch := omega) only [nI_lit, nI_add, nI_mulE, nI_clampE, nI_eqE, nI_leE, nI_ltE, vp_nIE, true_and, and_true]; omega, ?_⟩))
            rw [eci, (hPg.2 i i1).2.1]
            exact c_ans (FM.rf _ _) k
          · show wX12_code a b Q E σ'
            rw [i2]
            refine ml σ' hM Q (fun z z1 z2 => ?_)
            cases z with
            | true => exact absurd ⟨1, by omega, b1⟩ (z2 rfl)
            | false =>
              unfold wX12_code_j74
              refine m_r0 (yes rfl (yes b0 ⟨by simp (disch := omega) only [nI_lit, nI_add, nI_mulE, nI_clampE, nI_eqE, nI_leE, nI_ltE, vp_nIE, true_and, and_true]; omega, ?_⟩))
              rw [n920 (by omega), eci, ((mm σ' hM).2.2.1.1.2 i i1).2]
              exact k _ _ fm920 e920 (fun _ => rfl)
        · refine ⟨3, 0, ⟨by decide, fun Q k => ?_⟩, fun σ' hM Q k => ?_⟩
          · show wL_code a b Q E σ
            unfold wL_code
            rw [i2]
            unfold wX11_code
            refine c_nGy hC hg ?_
            rw [hPg.1]
            exact c_nIy (by omega) i1 (no b0 (no b1 (Or.inr (Or.inr ⟨rfl, k σ (FM.rf _ _) (fun z => absurd z (by decide))⟩))))
          · show wX12_code a b Q E σ'
            rw [i2]
            refine ml σ' hM Q (fun z z1 z2 => ?_)
            cases z with
            | false => exact absurd (z1 rfl) (isIx2 b0 b1)
            | true =>
              unfold wX12_code_j74
              exact m_r3 (no (by decide) (k _ _ fm920 e920 (fun z => absurd z (by decide))))
    · refine ⟨2, 0, ⟨by decide, fun Q k => ?_⟩, fun σ' hM Q k => ?_⟩
      · show wL_code a b Q E σ
        unfold wL_code wX11_code
        refine c_nGy hC hg ?_
        rw [hPg.1]
        exact c_nIn (by omega) e1 (Or.inr (Or.inl ⟨rfl, k σ (FM.rf _ _) (fun z => absurd z (by decide))⟩))
      · obtain ⟨h4, hG⟩ := mm σ' hM
        show wX12_code a b Q E σ'
        unfold wX12_code wX12_code_j25
        rw [h4, hG.2.1.1.1]
        refine no (by decide) (m_ixn (by omega) e1 (yes rfl ?_))
        unfold wX12_code_j26
        rw [h4]
        refine yes (by decide) ?_
        unfold wX12_code_j40
        rw [h4]
        refine no (by decide) (no (fun z => z rfl) ?_)
        unfold wX12_code_j56 wX12_code_j73 wX12_code_j74
        exact yes rfl (m_r2 (no (by decide) (k _ _ fm920 e920 (fun z => absurd z (by decide)))))
end QX
