/-! ===== count ===== -/
noncomputable def vW (Γ : GRT) (k : Nat) : Nat := vaS Γ (k / 8) + vaA Γ (k / 8) (min (k % 8) (Γ.1.2.2.1 (k / 8)))
theorem vW_s {Γ : GRT} {k : Nat} (h8 : Γ.1.2.2.1 (k / 8) ≤ 8) : vW Γ (k + 1) = vW Γ k + (if k % 8 < Γ.1.2.2.1 (k / 8) ∧ stv Γ (k / 8) (k % 8) = 0 then 1 else 0) := by
  have key : vaA Γ (k / 8) (min (k % 8 + 1) (Γ.1.2.2.1 (k / 8))) = vaA Γ (k / 8) (min (k % 8) (Γ.1.2.2.1 (k / 8))) + (if k % 8 < Γ.1.2.2.1 (k / 8) ∧ stv Γ (k / 8) (k % 8) = 0 then 1 else 0) := by
    by_cases z : k % 8 < Γ.1.2.2.1 (k / 8)
    · rw [Nat.min_eq_left (by omega), Nat.min_eq_left (by omega)]
      show vaA Γ (k / 8) (k % 8) + _ = _
      congr 1
      by_cases z2 : stv Γ (k / 8) (k % 8) = 0
      · rw [if_pos z2, if_pos ⟨z, z2⟩]
      · rw [if_neg z2, if_neg (fun q => z2 q.2)]
    · rw [Nat.min_eq_right (by omega), Nat.min_eq_right (by omega), if_neg (fun q => z q.1)]
      rfl
  unfold vW
  by_cases e : k % 8 = 7
  · rw [show (k + 1) / 8 = k / 8 + 1 by omega, show (k + 1) % 8 = 0 by omega]
    rw [e, show 7 + 1 = 8 by omega, Nat.min_eq_right h8] at key
    show vaS Γ (k / 8) + vaA Γ (k / 8) (Γ.1.2.2.1 (k / 8)) + vaA Γ (k / 8 + 1) (min 0 _) = _
    rw [Nat.zero_min, key, e]
    show _ + _ + 0 = _
    omega
  · rw [show (k + 1) / 8 = k / 8 by omega, show (k + 1) % 8 = k % 8 + 1 by omega, key]; omega
section QX
variable {σ : ab_S} {E : String → ab_S → Prop} {Q : Int32 → ab_S → Prop} {Γ : GRT} {T : TST} {c : Nat}
theorem m_c48 (hW : MW σ Γ) (hV : GRV Γ) (hc : c ≤ 6) (k : wX12_count_j104 (nI c) Q E (nI (cAc Γ T c 0)) σ) : ∃ m, wX12_count_l48 (nI c) Q E (wX12_count_j104 (nI c) Q E) m 0 0 σ := by
  have h12 := hV.1.1
  have e8 : (8 : Int32) * nI Γ.1.1 = nI (8 * Γ.1.1) := by show nI 8 * nI _ = _; rw [nI_mulE]
  by_cases c6 : c = 6
  · refine ⟨8 * Γ.1.1 + 1, ?_⟩
    have ec : cAc Γ T c 0 = vW Γ (8 * Γ.1.1) := by
      unfold cAc vW
      rw [if_neg (by omega), if_pos c6, show 8 * Γ.1.1 / 8 = Γ.1.1 by omega, show 8 * Γ.1.1 % 8 = 0 by omega, Nat.zero_min]; rfl
    rw [ec] at k
    suffices H : ∀ f j, 8 * Γ.1.1 - j = f → j ≤ 8 * Γ.1.1 → wX12_count_l48 (nI c) Q E (wX12_count_j104 (nI c) Q E) (f + 1) (nI (vW Γ j)) (nI j) σ by
      have := H _ 0 rfl (Nat.zero_le _)
      have e0 : vW Γ 0 = 0 := by unfold vW; rw [show 0 / 8 = 0 by omega, show 0 % 8 = 0 by omega, Nat.zero_min]; rfl
      rw [e0] at this
      exact this
    intro f
    induction f with
    | zero =>
      intro j hf hj
      have e : j = 8 * Γ.1.1 := by omega
      show wX12_count_l48_b _ _ _ _ _ _ _ _
      unfold wX12_count_l48_b
      rw [hW.1.1.1.1, e8]
      refine yes (by rw [e]; simp (disch := omega) only [nI_lit, nI_add, nI_mulE, nI_clampE, nI_eqE, nI_leE, nI_ltE, vp_nIE, true_and, and_true]; omega) ?_
      rw [e]; exact k
    | succ f ih =>
      intro j hf hj
      have hj1 : j < 8 * Γ.1.1 := by omega
      have hs : j / 8 < Γ.1.1 := by omega
      have h8 := (hV.1.2.2 _ hs).2.1
      have IH := ih (j + 1) (by omega) (by omega)
      rw [vW_s h8] at IH
      show wX12_count_l48_b (nI c) Q E (wX12_count_j104 (nI c) Q E) (wX12_count_l48 (nI c) Q E (wX12_count_j104 (nI c) Q E) (f + 1)) _ _ σ
      unfold wX12_count_l48_b
      rw [hW.1.1.1.1, e8, i_mod8 j (by omega), i_div8 j (by omega), nI_clampE (show j / 8 < 2147483648 by omega), (hW.1.1.1.2 _ hs).2.1, nI_clampE (show j < 2147483648 by omega)]
      refine no (by simp (disch := omega) only [nI_lit, nI_add, nI_mulE, nI_clampE, nI_eqE, nI_leE, nI_ltE, vp_nIE, true_and, and_true]; omega) (no (fun z => z (by rw [c6]; rfl)) ⟨by simp (disch := omega) only [nI_lit, nI_add, nI_mulE, nI_clampE, nI_eqE, nI_leE, nI_ltE, vp_nIE, true_and, and_true]; omega, ?_⟩)
      unfold wX12_count_j96 wX12_count_j97
      by_cases z : j % 8 < Γ.1.2.2.1 (j / 8)
      · have hst := hW.2.2 (j / 8) (j % 8) hs z
        rw [show 8 * (j / 8) + j % 8 = j by omega] at hst
        have hst2 := stv_le Γ (j / 8) (j % 8)
        rw [hst]
        refine no (by simp (disch := omega) only [nI_lit, nI_add, nI_mulE, nI_clampE, nI_eqE, nI_leE, nI_ltE, vp_nIE, true_and, and_true]; omega) ⟨by simp (disch := omega) only [nI_lit, nI_add, nI_mulE, nI_clampE, nI_eqE, nI_leE, nI_ltE, vp_nIE, true_and, and_true]; omega, ?_⟩
        by_cases z2 : stv Γ (j / 8) (j % 8) = 0
        · rw [if_pos ⟨z, z2⟩] at IH
          refine no (fun q => q (by rw [z2]; rfl)) ?_
          rw [nI_1, nI_1]
          exact fe IH
        · rw [if_neg (fun q => z2 q.2), Nat.add_zero] at IH
          refine yes (by show ¬ nI _ = nI 0; rw [nI_eqE (by omega) (by omega)]; exact z2) ?_
          rw [nI_1]
          exact fe IH
      · rw [if_neg (fun q => z q.1), Nat.add_zero] at IH
        refine yes (by simp (disch := omega) only [nI_lit, nI_add, nI_mulE, nI_clampE, nI_eqE, nI_leE, nI_ltE, vp_nIE, true_and, and_true]; omega) ?_
        rw [nI_1]
        exact fe IH
  · refine ⟨1, ?_⟩
    have ec : cAc Γ T c 0 = 0 := by
      unfold cAc
      rw [if_neg c6]
      split <;> rfl
    rw [ec] at k
    show wX12_count_l48_b _ _ _ _ _ _ _ _
    unfold wX12_count_l48_b
    exact ⟨fun _ => k, fun _ => yes (by show ¬ nI c = nI 6; rw [nIc hc (by omega)]; exact c6) k⟩
variable {A : AST} {g q x y : Nat} {a b d : Int32}
theorem sumF_cg {f h : Nat → Nat} : ∀ k, (∀ m, m < k → f m = h m) → sumF f k = sumF h k
  | 0, _ => rfl
  | k + 1, e => by show sumF f k + f k = sumF h k + h k; rw [sumF_cg k (fun m hm => e m (by omega)), e k (by omega)]
theorem sumF_1 : ∀ k, sumF (fun _ => 1) k = k
  | 0 => rfl
  | k + 1 => by show sumF _ k + 1 = k + 1; rw [sumF_1 k]
theorem q_cnt (hC : CIv σ A g q x y) (hA : AOK A) : ∃ c v, CAns (fun Q => wL_count a Q E) σ c v ∧ ∀ σ', MIv σ' A → MAns (fun Q => wX12_count a Q E) σ' c v := by
  cases ht : A.ht with
  | false =>
    refine ⟨1, 0, ⟨by decide, fun Q k => ?_⟩, fun σ' hM Q k => ?_⟩
    · show wL_count a Q E σ
      unfold wL_count wX11_count
      exact c_nTn hC ht (Or.inl ⟨rfl, k σ (FM.rf _ _) (fun z => absurd z (by decide))⟩)
    · have h4 := hM.2.2.1.2.1
      rw [ht] at h4
      show wX12_count a Q E σ'
      unfold wX12_count wX12_count_j13 wX12_count_j34 wX12_count_j35
      rw [h4]
      exact no (fun z => z rfl) (yes rfl (m_r1 (no (by decide) (k _ _ fm920 e920 (fun z => absurd z (by decide))))))
  | true =>
    have hg := hA.hg ht
    obtain ⟨o1, o2, o3, o4⟩ := hA.1 hg
    have hV := o3.1
    have hT := (hA.2.1 ht).2
    have hTr := (hC.2.2.2.2.2.2.1 ht).1
    by_cases e1 : isIx a 7
    · obtain ⟨c, c1, c2⟩ := e1
      refine ⟨0, nI (cAc A.G A.T c A.T.N), ⟨by decide, fun Q k => ?_⟩, fun σ' hM Q k => ?_⟩
      · show wL_count a Q E σ
        unfold wL_count wX11_count
        refine c_nTy hC ht ?_
        have fin : ∀ v, v = cAc A.G A.T c A.T.N → vp_in (0 : Int32) 1 ∧ (∀ σ3 : ab_S, σ3 = ab_L σ 163 (0 : Int32).toNatClampNeg (nI v).toInt64 → Q (0 : Int32) σ3) := fun v hv => by rw [hv]; exact c_ans (FM.rf _ _) k
        have sm : ∀ {f : Nat → Nat}, c ≠ 5 → c ≠ 6 → (∀ m, m < A.T.N → f m = cCt A.G A.T c m) → sumF f A.T.N = cAc A.G A.T c A.T.N := by
          intro f h5 h6 e
          unfold cAc
          rw [if_neg h5, if_neg h6]
          exact sumF_cg _ e
        have ne : ∀ j, j < 100 → c ≠ j → ¬ a = nI j := fun j hj h => by rw [c2, nIc (by omega) hj]; exact h
        by_cases d0 : c = 0
        · refine yes (by rw [c2, d0]; rfl) ⟨x, hC.2.2.1.2.2.1, hC.2.1.2.2.2.1, ?_⟩
          rw [hTr.1]
          refine fin _ ?_
          rw [← sumF_1 A.T.N, sumF_1 (A.T.N)]
          rw [← sm (f := fun _ => 1) (by omega) (by omega) (fun m _ => by unfold cCt; rw [if_pos d0])]
          exact (sumF_1 _).symm
        refine no (ne 0 (by omega) d0) ?_
        by_cases d1 : c = 1
        · refine yes (by rw [c2, d1]; rfl) (c_cAt hC hA ht (fin _ (sm (by omega) (by omega) (fun m _ => by unfold cCt; rw [if_neg d0, if_pos d1]))))
        refine no (ne 1 (by omega) d1) ?_
        by_cases d2 : c = 2
        · refine yes (by rw [c2, d2]; rfl) (c_cVi hC hA ht (fin _ (sm (by omega) (by omega) (fun m _ => by unfold cCt; rw [if_neg d0, if_neg d1, if_pos d2]))))
        refine no (ne 2 (by omega) d2) ?_
        by_cases d3 : c = 3
        · refine yes (by rw [c2, d3]; rfl) (c_cEr hC hA ht (fin _ (sm (by omega) (by omega) (fun m _ => by unfold cCt; rw [if_neg d0, if_neg d1, if_neg d2, if_pos d3]))))
        refine no (ne 3 (by omega) d3) ?_
        by_cases d4 : c = 4
        · refine yes (by rw [c2, d4]; rfl) (c_cKe hC hA ht (fin _ (sm (by omega) (by omega) (fun m _ => by unfold cCt; rw [if_neg d0, if_neg d1, if_neg d2, if_neg d3, if_pos d4]))))
        refine no (ne 4 (by omega) d4) ?_
        by_cases d5 : c = 5
        · refine yes (by rw [c2, d5]; rfl) (c_hFr hC hA ht (fun τ F => ?_))
          have e : fMx A.G A.T A.T.N = cAc A.G A.T c A.T.N := by unfold cAc; rw [if_pos d5]
          rw [e]
          exact c_ans (F.mono (fun a i y => by have y := of_decide_eq_false y; exact decide_eq_false (by omega))) k
        refine no (ne 5 (by omega) d5) ?_
        have d6 : c = 6 := by omega
        refine yes (by rw [c2, d6]; rfl) ?_
        rw [(hC.2.2.2.2.2.1 hg).1.2.1.2]
        exact fin _ (by unfold cAc; rw [if_neg d5, if_pos d6])
      · obtain ⟨h4, hG, hTt, hVl⟩ := hM.tr hA ht
        show wX12_count a Q E σ'
        unfold wX12_count
        rw [h4]
        refine yes (by decide) ?_
        unfold wX12_count_j13
        rw [h4]
        refine no (by decide) ?_
        have := m_ixy (σ := σ') (E := E) (N := 7) (by omega) ⟨c, c1, c2⟩ (Q := fun u20 σ19 => ((¬ u20 = 0) → wX12_count_j34 a Q E 0 σ19) ∧ (¬ (¬ u20 = 0) → wX12_count_j35 a Q E 1 0 σ19)) (yes (by decide) ?_)
        · exact this
        unfold wX12_count_j34 wX12_count_j35
        rw [c2]
        refine m_r0 (yes rfl ?_)
        have F : FM S920 σ' (ab_I σ' 92 0 (nI 0)) := fm920
        have W' : MW (ab_I σ' 92 0 (nI 0)) A.G := hG.1.fm hV F (fun a i _ => decide_eq_false (by omega))
        have T' : MTt (ab_I σ' 92 0 (nI 0)) A.G A.T := hTt.fm F (decide_eq_false (by omega)) (fun a i _ _ => decide_eq_false (by omega))
        have V' : MVl (ab_I σ' 92 0 (nI 0)) (val A.G A.T) := hVl.fm F (fun a i _ => decide_eq_false (by omega))
        exact m_c48 (T := A.T) W' hV (by omega) (m_c106 W' T' V' o3 hT (by omega) (k _ _ fm920 e920 (fun _ => rfl)))
    · have ne : ∀ j, j < 7 → ¬ a = nI j := fun j hj h => e1 ⟨j, hj, h⟩
      refine ⟨2, 0, ⟨by decide, fun Q k => ?_⟩, fun σ' hM Q k => ?_⟩
      · show wL_count a Q E σ
        unfold wL_count wX11_count
        exact c_nTy hC ht (no (ne 0 (by omega)) (no (ne 1 (by omega)) (no (ne 2 (by omega)) (no (ne 3 (by omega)) (no (ne 4 (by omega)) (no (ne 5 (by omega)) (no (ne 6 (by omega)) (Or.inr ⟨rfl, k σ (FM.rf _ _) (fun z => absurd z (by decide))⟩))))))))
      · obtain ⟨h4, hG, hTt, hVl⟩ := hM.tr hA ht
        show wX12_count a Q E σ'
        unfold wX12_count
        rw [h4]
        refine yes (by decide) ?_
        unfold wX12_count_j13
        rw [h4]
        refine no (by decide) ?_
        have := m_ixn (σ := σ') (E := E) (N := 7) (by omega) e1 (Q := fun u20 σ19 => ((¬ u20 = 0) → wX12_count_j34 a Q E 0 σ19) ∧ (¬ (¬ u20 = 0) → wX12_count_j35 a Q E 1 0 σ19)) (no (fun z => z rfl) ?_)
        · exact this
        unfold wX12_count_j35
        exact m_r2 (no (by decide) (k _ _ fm920 e920 (fun z => absurd z (by decide))))
end QX
