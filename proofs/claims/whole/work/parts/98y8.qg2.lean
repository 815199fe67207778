/-! ===== size, depends, level, store ===== -/
section QX
variable {σ : ab_S} {A : AST} {g q x y : Nat} {a b d : Int32} {E : String → ab_S → Prop}
theorem c_nGn {Q : ab_S → Prop} (hC : CIv σ A g q x y) (hg : A.hg = false) (k : E "java/lang/IllegalStateException" σ) : wX11_needGrammar Q E σ := by
  unfold wX11_needGrammar
  rw [hC.2.2.2.1.1, hg]
  exact no (fun z => z rfl) k
theorem c_nGy {Q : ab_S → Prop} (hC : CIv σ A g q x y) (hg : A.hg = true) (k : Q σ) : wX11_needGrammar Q E σ := by
  unfold wX11_needGrammar
  rw [hC.2.2.2.1.1, hg]
  exact yes (by decide) k
theorem nz (h : Nat → False) {P : Prop} {c : Nat} (hc : c ≠ 0) : c = 0 → P := fun z => absurd z hc
theorem q_size (hC : CIv σ A g q x y) (hA : AOK A) : ∃ c v, CAns (fun Q => wL_size a Q E) σ c v ∧ ∀ σ', MIv σ' A → MAns (fun Q => wX12_size a Q E) σ' c v := by
  have h11 := hC.2.2.1.1
  have hgG := hC.2.1.1
  cases hg : A.hg with
  | false =>
    refine ⟨1, 0, ⟨by decide, fun Q k => ?_⟩, fun σ' hM Q k => ?_⟩
    · show wL_size a Q E σ
      unfold wL_size wX11_size
      exact c_nGn hC hg (Or.inl ⟨rfl, k σ (FM.rf _ _) (fun z => absurd z (by decide))⟩)
    · have h4 := hM.2.2.1.1
      rw [hg] at h4
      show wX12_size a Q E σ'
      unfold wX12_size wX12_size_j13 wX12_size_j33 wX12_size_j34
      rw [h4]
      exact no (fun z => z rfl) (yes rfl (m_r1 (no (by decide) (k _ _ fm920 e920 (fun z => absurd z (by decide))))))
  | true =>
    obtain ⟨o1, o2, o3, o4⟩ := hA.1 hg
    have hW := hC.2.2.2.2.2.1 hg
    have hCG := hW.1.1.1.2.2.1
    have mm : ∀ σ', MIv σ' A → σ'.2.1 92 4 = 1 ∧ MGr σ' A.G := fun σ' hM => ⟨by rw [hM.2.2.1.1, hg]; rfl, (hM.2.2.2.1 hg).2.1.1.1⟩
    by_cases e0 : a = 0
    · refine ⟨0, nI A.G.1.1, ⟨by decide, fun Q k => ?_⟩, fun σ' hM Q k => ?_⟩
      · show wL_size a Q E σ
        unfold wL_size wX11_size
        refine c_nGy hC hg (yes e0 ⟨g, h11, hgG, ?_⟩)
        rw [hCG.1.1]
        exact c_ans (FM.rf _ _) k
      · obtain ⟨h4, hG⟩ := mm σ' hM
        show wX12_size a Q E σ'
        unfold wX12_size wX12_size_j13 wX12_size_j33 wX12_size_j34
        rw [h4]
        refine yes (by decide) (no (by decide) ?_)
        rw [show (1 : Int32) = nI 2 - 1 by decide]
        refine m_ixy (by omega) ⟨0, by omega, e0⟩ (yes (by decide) (m_r0 (yes rfl (no (fun z => z e0) ?_))))
        rw [n920 (by omega), hG.1.1]
        exact k _ _ fm920 e920 (fun _ => rfl)
    · by_cases e1 : a = 1
      · refine ⟨0, nI A.G.2.1, ⟨by decide, fun Q k => ?_⟩, fun σ' hM Q k => ?_⟩
        · show wL_size a Q E σ
          unfold wL_size wX11_size
          refine c_nGy hC hg (no e0 (yes e1 ⟨g, h11, hgG, ?_⟩))
          rw [hCG.2.1]
          exact c_ans (FM.rf _ _) k
        · obtain ⟨h4, hG⟩ := mm σ' hM
          show wX12_size a Q E σ'
          unfold wX12_size wX12_size_j13 wX12_size_j33 wX12_size_j34
          rw [h4]
          refine yes (by decide) (no (by decide) ?_)
          rw [show (1 : Int32) = nI 2 - 1 by decide]
          refine m_ixy (by omega) ⟨1, by omega, e1⟩ (yes (by decide) (m_r0 (yes rfl (yes e0 ?_))))
          rw [n920 (by omega), hG.2.1]
          exact k _ _ fm920 e920 (fun _ => rfl)
      · refine ⟨2, 0, ⟨by decide, fun Q k => ?_⟩, fun σ' hM Q k => ?_⟩
        · show wL_size a Q E σ
          unfold wL_size wX11_size
          exact c_nGy hC hg (no e0 (no e1 (Or.inr ⟨rfl, k σ (FM.rf _ _) (fun z => absurd z (by decide))⟩)))
        · obtain ⟨h4, hG⟩ := mm σ' hM
          show wX12_size a Q E σ'
          unfold wX12_size wX12_size_j13 wX12_size_j33 wX12_size_j34
          rw [h4]
          refine yes (by decide) (no (by decide) ?_)
          have hn : ¬ isIx a 2 := by
            rintro ⟨j, j1, j2⟩
            have : j = 0 ∨ j = 1 := by omega
            rcases this with z | z
            · exact e0 (by rw [j2, z]; rfl)
            · exact e1 (by rw [j2, z]; rfl)
          have := m_ixn (σ := σ') (E := E) (N := 2) (by omega) hn (Q := fun u4 σ3 => ((¬ u4 = 0) → wX12_refuse 0 0 0 (fun u2 σ1 => ((u2 = 0) → ((¬ a = 0) → Q (σ1.2.1 92 14) σ1) ∧ (¬ (¬ a = 0) → Q (σ1.2.1 92 9) σ1)) ∧ (¬ (u2 = 0) → Q (0 : Int32) σ1)) E σ3) ∧ (¬ (¬ u4 = 0) → wX12_refuse 0 1 0 (fun u2 σ1 => ((u2 = 0) → ((¬ a = 0) → Q (σ1.2.1 92 14) σ1) ∧ (¬ (¬ a = 0) → Q (σ1.2.1 92 9) σ1)) ∧ (¬ (u2 = 0) → Q (0 : Int32) σ1)) E σ3)) (no (fun z => z rfl) (m_r2 (no (by decide) (k _ _ fm920 e920 (fun z => absurd z (by decide))))))
          exact this
theorem q_dep (hC : CIv σ A g q x y) (hA : AOK A) : ∃ c w, CAns (fun Q => wL_depends a b d Q E) σ c (bI w) ∧ ∀ σ', MIv σ' A → MAns (fun Q => wX12_depends a b d Q E) σ' c (bI w) := by
  have h11 := hC.2.2.1.1
  have hgG := hC.2.1.1
  cases hg : A.hg with
  | false =>
    refine ⟨1, false, ⟨by decide, fun Q k => ?_⟩, fun σ' hM Q k => ?_⟩
    · show wL_depends a b d Q E σ
      unfold wL_depends wX11_depends
      exact c_nGn hC hg (Or.inl ⟨rfl, k σ (FM.rf _ _) (fun z => absurd z (by decide))⟩)
    · have h4 := hM.2.2.1.1
      rw [hg] at h4
      show wX12_depends a b d Q E σ'
      unfold wX12_depends wX12_depends_j29 wX12_depends_j30 wX12_depends_j45 wX12_depends_j55
      rw [h4]
      exact yes rfl (no (fun z => z rfl) (no (fun z => z rfl) (m_r1 (no (by decide) (k _ _ fm920 e920 (fun z => absurd z (by decide)))))))
  | true =>
    obtain ⟨o1, o2, o3, o4⟩ := hA.1 hg
    have hV := o3.1
    have h12 := hV.1.1
    have hW := hC.2.2.2.2.2.1 hg
    have hCG := hW.1.1.1.2.2.1
    have mm : ∀ σ', MIv σ' A → σ'.2.1 92 4 = 1 ∧ MWh σ' A.G := fun σ' hM => ⟨by rw [hM.2.2.1.1, hg]; rfl, (hM.2.2.2.1 hg).2⟩
    have mbad : ∀ σ', σ'.2.1 92 4 = 1 → ∀ Q : Int32 → ab_S → Prop, (∀ τ r, FM S920 σ' τ → τ.2.1 92 0 = nI 2 → (2 = 0 → r = 0) → Q r τ) → wX12_depends_j30 a b d Q E 0 σ' := by
      intro σ' h4 Q k
      unfold wX12_depends_j30 wX12_depends_j45 wX12_depends_j55
      rw [h4]
      exact yes (by decide) (no (fun z => z rfl) (m_r2 (no (by decide) (k _ _ fm920 e920 (fun z => absurd z (by decide))))))
    by_cases e1 : isAt A.G a b
    · obtain ⟨s, s1, s2, i, i1, i2⟩ := e1
      have h8 := (hV.1.2.2 s s1).2.1
      by_cases e2 : isAt A.G a d
      · obtain ⟨s', s1', s2', j, j1, j2⟩ := e2
        have es : s' = s := by
          rw [s2] at s2'
          rw [nI_eqE (by omega) (by omega)] at s2'
          exact s2'.symm
        rw [es] at j1
        have hI := hW.2.2 s (by omega) i (by omega)
        have ec : nI s * (8 : Int32) + nI i = nI (s * 8 + i) := by show nI s * nI 8 + _ = _; rw [nI_mulE, nI_add]
        have em : (8 : Int32) * nI s + nI i = nI (8 * s + i) := by show nI 8 * nI s + _ = _; rw [nI_mulE, nI_add]
        refine ⟨0, (oEnd A.G).2 s i j, ⟨by decide, fun Q k => ?_⟩, fun σ' hM Q k => ?_⟩
        · show wL_depends a b d Q E σ
          unfold wL_depends wX11_depends
          rw [s2, i2, j2]
          refine c_nGy hC hg (c_nAy hgG h11 hCG hV s1 i1 (c_nAy hgG h11 hCG hV s1 j1 ⟨g, h11, hgG, ?_⟩))
          rw [ec, nI_clampE (show s * 8 + i < 2147483648 by omega)]
          refine ⟨by simp (disch := omega) only [nI_lit, nI_add, nI_mulE, nI_clampE, nI_eqE, nI_leE, nI_ltE, vp_nIE, true_and, and_true]; omega, ?_⟩
          have hb := hI.bit (show j < 32 by omega)
          unfold wL_depends_j18
          cases hv : (oEnd A.G).2 s i j
          · rw [hv] at hb k
            refine yes (hb.mpr rfl) (yes rfl ?_)
            exact c_ans (v := bI false) (FM.rf _ _) k
          · rw [hv] at hb k
            refine no (fun z => absurd (hb.mp z) (by decide)) (no (by decide) ?_)
            exact c_ans (v := bI true) (FM.rf _ _) k
        · obtain ⟨h4, hG⟩ := mm σ' hM
          have hMG := hG.1.1.1
          show wX12_depends a b d Q E σ'
          unfold wX12_depends
          rw [h4, s2, i2, j2]
          refine no (by decide) (m_isAy hMG hV s1 i1 (no (by decide) (m_isAy hMG hV s1 j1 (no (by decide) ?_))))
          unfold wX12_depends_j30 wX12_depends_j45 wX12_depends_j55
          rw [h4, em, nI_clampE (show 8 * s + i < 2147483648 by omega)]
          refine yes (by decide) (yes (by decide) (m_r0 (yes rfl ⟨by simp (disch := omega) only [nI_lit, nI_add, nI_mulE, nI_clampE, nI_eqE, nI_leE, nI_ltE, vp_nIE, true_and, and_true]; omega, ?_⟩)))
          have hb := (hG.2.2 s (by omega) i (by omega)).bit (show j < 32 by omega)
          rw [gL_I]
          cases hv : (oEnd A.G).2 s i j
          · rw [hv] at hb k
            exact yes (fun z => absurd (hb.mp z) (by decide)) (k _ _ fm920 e920 (fun _ => rfl))
          · rw [hv] at hb k
            exact no (fun z => z (hb.mpr rfl)) (k _ _ fm920 e920 (fun _ => rfl))
      · refine ⟨2, false, ⟨by decide, fun Q k => ?_⟩, fun σ' hM Q k => ?_⟩
        · show wL_depends a b d Q E σ
          unfold wL_depends wX11_depends
          rw [s2] at e2 ⊢
          rw [i2]
          exact c_nGy hC hg (c_nAy hgG h11 hCG hV s1 i1 (c_nAn hgG h11 hCG hV e2 (Or.inr ⟨rfl, k σ (FM.rf _ _) (fun z => absurd z (by decide))⟩)))
        · obtain ⟨h4, hG⟩ := mm σ' hM
          have hMG := hG.1.1.1
          have hb := mbad σ' h4 Q k
          show wX12_depends a b d Q E σ'
          unfold wX12_depends wX12_depends_j29
          rw [h4]
          rw [s2] at e2 hb ⊢
          rw [i2] at hb ⊢
          exact no (by decide) (m_isAy hMG hV s1 i1 (no (by decide) (m_isAn hMG hV e2 (yes rfl hb))))
    · refine ⟨2, false, ⟨by decide, fun Q k => ?_⟩, fun σ' hM Q k => ?_⟩
      · show wL_depends a b d Q E σ
        unfold wL_depends wX11_depends
        exact c_nGy hC hg (c_nAn hgG h11 hCG hV e1 (Or.inr ⟨rfl, k σ (FM.rf _ _) (fun z => absurd z (by decide))⟩))
      · obtain ⟨h4, hG⟩ := mm σ' hM
        have hMG := hG.1.1.1
        have hb := mbad σ' h4 Q k
        show wX12_depends a b d Q E σ'
        unfold wX12_depends wX12_depends_j29
        rw [h4]
        exact no (by decide) (m_isAn hMG hV e1 (yes rfl hb))
theorem q_lev (hC : CIv σ A g q x y) (hA : AOK A) : ∃ c v, CAns (fun Q => wL_level a b Q E) σ c v ∧ ∀ σ', MIv σ' A → MAns (fun Q => wX12_level a b Q E) σ' c v := by
  have h11 := hC.2.2.1.1
  have hgG := hC.2.1.1
  cases hg : A.hg with
  | false =>
    refine ⟨1, 0, ⟨by decide, fun Q k => ?_⟩, fun σ' hM Q k => ?_⟩
    · show wL_level a b Q E σ
      unfold wL_level wX11_level
      exact c_nGn hC hg (Or.inl ⟨rfl, k σ (FM.rf _ _) (fun z => absurd z (by decide))⟩)
    · have h4 := hM.2.2.1.1
      rw [hg] at h4
      show wX12_level a b Q E σ'
      unfold wX12_level wX12_level_j39 wX12_level_j40 wX12_level_j54 wX12_level_j63
      rw [h4]
      exact yes rfl (no (fun z => z rfl) (no (fun z => z rfl) (m_r1 (no (by decide) (k _ _ fm920 e920 (fun z => absurd z (by decide)))))))
  | true =>
    obtain ⟨o1, o2, o3, o4⟩ := hA.1 hg
    have hV := o3.1
    have h12 := hV.1.1
    have hW := hC.2.2.2.2.2.1 hg
    have hCG := hW.1.1.1.2.2.1
    have hCL := hW.1.1.1.2.2.2
    have mm : ∀ σ', MIv σ' A → σ'.2.1 92 4 = 1 ∧ MWh σ' A.G := fun σ' hM => ⟨by rw [hM.2.2.1.1, hg]; rfl, (hM.2.2.2.1 hg).2⟩
    have mbad : ∀ σ', σ'.2.1 92 4 = 1 → ∀ Q : Int32 → ab_S → Prop, (∀ τ r, FM S920 σ' τ → τ.2.1 92 0 = nI 2 → (2 = 0 → r = 0) → Q r τ) → wX12_level_j39 a b Q E σ' := by
      intro σ' h4 Q k
      unfold wX12_level_j39 wX12_level_j40 wX12_level_j54 wX12_level_j63
      rw [h4]
      exact yes (by decide) (no (fun z => z rfl) (m_r2 (no (by decide) (k _ _ fm920 e920 (fun z => absurd z (by decide))))))
    by_cases e1 : isIx a A.G.1.1
    · by_cases em1 : b = -1
      · obtain ⟨s, s1, s2⟩ := e1
        refine ⟨0, nI (svs A.G s), ⟨by decide, fun Q k => ?_⟩, fun σ' hM Q k => ?_⟩
        · show wL_level a b Q E σ
          unfold wL_level wX11_level
          rw [s2]
          refine c_nGy hC hg (c_nSy hgG h11 hCG hV s1 (no (fun z => z em1) ⟨g, h11, hgG, by simp (disch := omega) only [nI_lit, nI_add, nI_mulE, nI_clampE, nI_eqE, nI_leE, nI_ltE, vp_nIE, true_and, and_true]; omega, ?_⟩))
          rw [nI_clampE (show s < 2147483648 by omega), (hCL s s1).2]
          exact c_ans (FM.rf _ _) k
        · obtain ⟨h4, hG⟩ := mm σ' hM
          have hMG := hG.1.1.1
          show wX12_level a b Q E σ'
          unfold wX12_level
          rw [h4, hMG.1.1, s2]
          refine no (by decide) (m_ixy (by omega) ⟨s, s1, rfl⟩ (no (by decide) (yes em1 ?_)))
          unfold wX12_level_j35 wX12_level_j40 wX12_level_j54 wX12_level_j63
          rw [h4]
          refine yes (by decide) (yes (by decide) (m_r0 (yes rfl (no (by rw [em1]; decide) ⟨by simp (disch := omega) only [nI_lit, nI_add, nI_mulE, nI_clampE, nI_eqE, nI_leE, nI_ltE, vp_nIE, true_and, and_true]; omega, ?_⟩))))
          rw [n920 (by omega), nI_clampE (show s < 2147483648 by omega), (hG.1.1.2.1 s s1).2]
          exact k _ _ fm920 e920 (fun _ => rfl)
      · by_cases e2 : isAt A.G a b
        · obtain ⟨s, s1, s2, i, i1, i2⟩ := e2
          have h8 := (hV.1.2.2 s s1).2.1
          have ec : nI s * (8 : Int32) + nI i = nI (s * 8 + i) := by show nI s * nI 8 + _ = _; rw [nI_mulE, nI_add]
          have em : (8 : Int32) * nI s + nI i = nI (8 * s + i) := by show nI 8 * nI s + _ = _; rw [nI_mulE, nI_add]
          refine ⟨0, nI (slv A.G s i), ⟨by decide, fun Q k => ?_⟩, fun σ' hM Q k => ?_⟩
          · show wL_level a b Q E σ
            unfold wL_level wX11_level
            rw [i2] at em1 ⊢
            rw [s2]
            refine c_nGy hC hg (c_nSy hgG h11 hCG hV s1 (yes em1 (c_nAy hgG h11 hCG hV s1 i1 ⟨g, h11, hgG, ?_⟩)))
            rw [ec, nI_clampE (show s * 8 + i < 2147483648 by omega), (hCL s s1).1 i i1]
            exact ⟨by simp (disch := omega) only [nI_lit, nI_add, nI_mulE, nI_clampE, nI_eqE, nI_leE, nI_ltE, vp_nIE, true_and, and_true]; omega, c_ans (FM.rf _ _) k⟩
          · obtain ⟨h4, hG⟩ := mm σ' hM
            have hMG := hG.1.1.1
            show wX12_level a b Q E σ'
            unfold wX12_level
            rw [h4, hMG.1.1]
            rw [i2] at em1 ⊢
            rw [s2]
            refine no (by decide) (m_ixy (by omega) ⟨s, s1, rfl⟩ (no (by decide) (no em1 (m_isAy hMG hV s1 i1 (no (by decide) ?_)))))
            unfold wX12_level_j35 wX12_level_j40 wX12_level_j54 wX12_level_j63
            rw [h4, em]
            refine yes (by decide) (yes (by decide) (m_r0 (yes rfl (yes (by show nI 0 ≤ _; simp (disch := omega) only [nI_lit, nI_add, nI_mulE, nI_clampE, nI_eqE, nI_leE, nI_ltE, vp_nIE, true_and, and_true]; omega) ⟨by simp (disch := omega) only [nI_lit, nI_add, nI_mulE, nI_clampE, nI_eqE, nI_leE, nI_ltE, vp_nIE, true_and, and_true]; omega, ?_⟩))))
            rw [n920 (by omega), nI_clampE (show 8 * s + i < 2147483648 by omega), (hG.1.1.2.1 s s1).1 i (by omega)]
            exact k _ _ fm920 e920 (fun _ => rfl)
        · refine ⟨2, 0, ⟨by decide, fun Q k => ?_⟩, fun σ' hM Q k => ?_⟩
          · obtain ⟨s, s1, s2⟩ := e1
            show wL_level a b Q E σ
            unfold wL_level wX11_level
            rw [s2] at e2 ⊢
            exact c_nGy hC hg (c_nSy hgG h11 hCG hV s1 (yes em1 (c_nAn hgG h11 hCG hV e2 (Or.inr ⟨rfl, k σ (FM.rf _ _) (fun z => absurd z (by decide))⟩))))
          · obtain ⟨h4, hG⟩ := mm σ' hM
            have hMG := hG.1.1.1
            have hb := mbad σ' h4 Q k
            show wX12_level a b Q E σ'
            unfold wX12_level
            rw [h4, hMG.1.1]
            exact no (by decide) (m_ixy (by omega) e1 (no (by decide) (no em1 (m_isAn hMG hV e2 (yes rfl hb)))))
    · refine ⟨2, 0, ⟨by decide, fun Q k => ?_⟩, fun σ' hM Q k => ?_⟩
      · show wL_level a b Q E σ
        unfold wL_level wX11_level
        exact c_nGy hC hg (c_nSn hgG h11 hCG hV e1 (Or.inr ⟨rfl, k σ (FM.rf _ _) (fun z => absurd z (by decide))⟩))
      · obtain ⟨h4, hG⟩ := mm σ' hM
        have hMG := hG.1.1.1
        have hb := mbad σ' h4 Q k
        show wX12_level a b Q E σ'
        unfold wX12_level
        rw [h4, hMG.1.1]
        exact no (by decide) (m_ixn (by omega) e1 (yes rfl hb))
theorem q_sto (hC : CIv σ A g q x y) (hA : AOK A) : ∃ c v, CAns (fun Q => wL_store a b Q E) σ c v ∧ ∀ σ', MIv σ' A → MAns (fun Q => wX12_store a b Q E) σ' c v := by
  have h11 := hC.2.2.1.1
  have hgG := hC.2.1.1
  cases hg : A.hg with
  | false =>
    refine ⟨1, 0, ⟨by decide, fun Q k => ?_⟩, fun σ' hM Q k => ?_⟩
    · show wL_store a b Q E σ
      unfold wL_store wX11_store
      exact c_nGn hC hg (Or.inl ⟨rfl, k σ (FM.rf _ _) (fun z => absurd z (by decide))⟩)
    · have h4 := hM.2.2.1.1
      rw [hg] at h4
      show wX12_store a b Q E σ'
      unfold wX12_store wX12_store_j20 wX12_store_j21 wX12_store_j35 wX12_store_j44
      rw [h4]
      exact yes rfl (no (fun z => z rfl) (no (fun z => z rfl) (m_r1 (no (by decide) (k _ _ fm920 e920 (fun z => absurd z (by decide)))))))
  | true =>
    obtain ⟨o1, o2, o3, o4⟩ := hA.1 hg
    have hV := o3.1
    have h12 := hV.1.1
    have hW := hC.2.2.2.2.2.1 hg
    have hCG := hW.1.1.1.2.2.1
    have mm : ∀ σ', MIv σ' A → σ'.2.1 92 4 = 1 ∧ MWh σ' A.G := fun σ' hM => ⟨by rw [hM.2.2.1.1, hg]; rfl, (hM.2.2.2.1 hg).2⟩
    by_cases e2 : isAt A.G a b
    · obtain ⟨s, s1, s2, i, i1, i2⟩ := e2
      have h8 := (hV.1.2.2 s s1).2.1
      have ec : nI s * (8 : Int32) + nI i = nI (s * 8 + i) := by show nI s * nI 8 + _ = _; rw [nI_mulE, nI_add]
      have em : (8 : Int32) * nI s + nI i = nI (8 * s + i) := by show nI 8 * nI s + _ = _; rw [nI_mulE, nI_add]
      refine ⟨0, nI (stv A.G s i), ⟨by decide, fun Q k => ?_⟩, fun σ' hM Q k => ?_⟩
      · show wL_store a b Q E σ
        unfold wL_store wX11_store
        rw [s2, i2]
        refine c_nGy hC hg (c_nAy hgG h11 hCG hV s1 i1 ?_)
        rw [ec, nI_clampE (show s * 8 + i < 2147483648 by omega), (hW.1.2.1.1 s i s1 i1).1]
        exact ⟨by simp (disch := omega) only [nI_lit, nI_add, nI_mulE, nI_clampE, nI_eqE, nI_leE, nI_ltE, vp_nIE, true_and, and_true]; omega, c_ans (FM.rf _ _) k⟩
      · obtain ⟨h4, hG⟩ := mm σ' hM
        have hMG := hG.1.1.1
        show wX12_store a b Q E σ'
        unfold wX12_store
        rw [h4, s2, i2]
        refine no (by decide) (m_isAy hMG hV s1 i1 (no (by decide) ?_))
        unfold wX12_store_j21 wX12_store_j35 wX12_store_j44
        rw [h4, em]
        refine yes (by decide) (yes (by decide) (m_r0 (yes rfl ⟨by simp (disch := omega) only [nI_lit, nI_add, nI_mulE, nI_clampE, nI_eqE, nI_leE, nI_ltE, vp_nIE, true_and, and_true]; omega, ?_⟩)))
        rw [n920 (by omega), nI_clampE (show 8 * s + i < 2147483648 by omega), hG.1.2.2 s i s1 i1]
        exact k _ _ fm920 e920 (fun _ => rfl)
    · refine ⟨2, 0, ⟨by decide, fun Q k => ?_⟩, fun σ' hM Q k => ?_⟩
      · show wL_store a b Q E σ
        unfold wL_store wX11_store
        exact c_nGy hC hg (c_nAn hgG h11 hCG hV e2 (Or.inr ⟨rfl, k σ (FM.rf _ _) (fun z => absurd z (by decide))⟩))
      · obtain ⟨h4, hG⟩ := mm σ' hM
        have hMG := hG.1.1.1
        show wX12_store a b Q E σ'
        unfold wX12_store wX12_store_j20 wX12_store_j21 wX12_store_j35 wX12_store_j44
        rw [h4]
        exact no (by decide) (m_isAn hMG hV e2 (yes rfl (yes (by rw [h4]; decide) (no (fun z => z rfl) (m_r2 (no (by decide) (k _ _ fm920 e920 (fun z => absurd z (by decide)))))))))
end QX
