/-! ===== begin, step ===== -/
section QX
variable {σ τ : ab_S} {A : AST} {g q x y : Nat} {a b d : Int32} {E : String → ab_S → Prop}
theorem u_beg (hC : CIv σ A g q x y) (hA : AOK A) : ∃ A' c v, AOK A' ∧ CDo (fun Q => wL_begin Q E) σ c v A' ∧ ∀ σ', MIv σ' A → MDo (fun Q => wX12_begin Q E) σ' c v A' := by
  have hxT := hC.2.1.2.2.2.1
  have hgb := isG_b hC.2.1.1
  have hxb := isT_b hxT
  cases ht : A.ht with
  | false =>
    refine ⟨A, 1, 0, hA, ⟨by decide, fun Q k => ?_⟩, fun σ' hM Q k => ?_⟩
    · show wL_begin Q E σ
      unfold wL_begin wX11_begin
      exact c_nTn hC ht ⟨rfl, k σ (FM.rf _ _) ⟨g, q, x, y, hC⟩ (fun z => absurd z (by decide))⟩
    · have h4 := hM.2.2.1.2.1
      rw [ht] at h4
      show wX12_begin Q E σ'
      unfold wX12_begin wX12_begin_j13
      rw [h4]
      exact no (fun z => z rfl) (m_r1 (no (by decide) (k _ _ fmMdl0 (hM.z0 hA) e920 (fun z => absurd z (by decide)))))
  | true =>
    have hg := hA.hg ht
    obtain ⟨o1, o2, o3, o4⟩ := hA.1 hg
    have hV := o3.1
    have hT := (hA.2.1 ht).2
    have hN := hT.2.1
    have hA' : AOK (A.1, A.2.1, A.2.2.1, (true, mSt0 A.G A.T, 0)) := ⟨hA.1, hA.2.1, fun _ => ⟨ht, mSt0_ol o3 hT⟩⟩
    refine ⟨(A.1, A.2.1, A.2.2.1, (true, mSt0 A.G A.T, 0)), 0, nI (pgV A.G (A.T.pr 0) 1), hA', ⟨by decide, fun Q k => ?_⟩, fun σ' hM Q k => ?_⟩
    · show wL_begin Q E σ
      unfold wL_begin wX11_begin
      refine c_nTy hC ht (fe ?_)
      obtain ⟨h1, h2, ⟨r1, r2, r3, r4⟩, ⟨f1, f2, f3⟩, ⟨m1, m2⟩, h6, h7, h8⟩ := hC
      have w17 : (ab_I σ 0 17 (1 : Int32)).2.1 0 17 = 1 := by rw [gI_s, if_pos rfl]
      have F1 : FM (fun a i => decide (a = 0 ∧ i = 17)) σ (ab_I σ 0 17 (1 : Int32)) := (FM.rf _ _).I (decide_eq_true ⟨rfl, rfl⟩)
      generalize ab_I σ 0 17 (1 : Int32) = τ1 at *
      have W1 : CWh τ1 g A.G := (h6 hg).fm hV F1 (fun a i _ => decide_eq_false (by omega))
      refine ⟨g, by rw [F1.2.2 _ _ (decide_eq_false (by omega))]; exact r1, h2.1, x, by rw [F1.2.2 _ _ (decide_eq_false (by omega))]; exact r3, hxT, ?_⟩
      refine c_rst (b := false) (Or.inr rfl) o3 hT h2.1 hxT (by rw [F1.1 _ _ (decide_eq_false (by omega))]; exact m2) W1.2.1 ((h7 ht).1.fm F1 (fun a i _ _ => decide_eq_false (by omega))) W1.1.1.1.2.2.1 W1.1.1.1.2.2.2 (fun τ2 F2 S2 R2 h13 => ?_)
      have F12 : FM (fun a i => decide ((a = 0 ∧ i = 17) ∨ (a = 35 ∧ (i = 2 ∨ i = 3 ∨ (10 ≤ i ∧ i ≤ 13))) ∨ (36 ≤ a ∧ a ≤ 41))) σ τ2 := (F1.mono (fun a i y => by have y := of_decide_eq_false y; exact decide_eq_false (by omega))).tr (F2.mono (fun a i y => by have y := of_decide_eq_false y; exact decide_eq_false (by omega)))
      have e10 : τ2.2.1 35 10 = nI (pgV A.G (A.T.pr 0) 1) := by
        rw [R2.1]
        show (if pgV A.G (A.T.pr 0) 1 + 1 = 0 then (-1 : Int32) else nI (pgV A.G (A.T.pr 0) 1 + 1 - 1)) = _
        rw [if_neg (Nat.succ_ne_zero _), Nat.add_sub_cancel]
      show vp_in (0 : Int32) 1 ∧ (∀ σ3 : ab_S, σ3 = ab_L τ2 163 (0 : Int32).toNatClampNeg (τ2.2.1 35 10).toInt64 → Q (0 : Int32) σ3)
      rw [e10]
      refine c_ans3 (g := g) (q := q) (x := x) (y := y) hA' (F12.mono (fun a i y => by have y := of_decide_eq_false y; exact decide_eq_false (by omega))) ?_ k
      exact ⟨h1.fm F12 (fun a i _ => decide_eq_false (by omega)), h2, ⟨by rw [F12.2.2 _ _ (decide_eq_false (by omega))]; exact r1, by rw [F12.2.2 _ _ (decide_eq_false (by omega))]; exact r2, by rw [F12.2.2 _ _ (decide_eq_false (by omega))]; exact r3, by rw [F12.2.2 _ _ (decide_eq_false (by omega))]; exact r4⟩, ⟨by rw [F12.1 _ _ (decide_eq_false (by omega))]; exact f1, by rw [F12.1 _ _ (decide_eq_false (by omega))]; exact f2, by rw [F2.1 _ _ (decide_eq_false (by omega))]; exact w17⟩, ⟨by rw [F12.1 _ _ (decide_eq_false (by omega))]; exact m1, by rw [F12.1 _ _ (decide_eq_false (by omega))]; exact m2⟩, fun z => (h6 z).fm hV F12 (fun a i _ => decide_eq_false (by omega)), fun z => ⟨(h7 z).1.fm F12 (fun a i _ _ => decide_eq_false (by omega)), (h7 z).2.fm F12 (fun i => decide_eq_false (by omega))⟩, fun _ => ⟨S2, R2, h13⟩⟩
    · obtain ⟨h52, hG, hTt, _⟩ := hM.tr hA ht
      show wX12_begin Q E σ'
      unfold wX12_begin wX12_begin_j13
      rw [h52]
      refine yes (by decide) (m_r0 (yes rfl (fe (fe (fe ?_)))))
      have M1 := hM.z0 (y := nI 0) hA
      obtain ⟨h1, h2, ⟨f1, f2, f3⟩, h4, h5, h6⟩ := M1
      generalize hτ1 : ab_I (ab_I (ab_I (ab_I σ' 92 0 (nI 0)) 92 83 1) 92 85 0) 92 90 0 = τ1
      have F1 : FM (fun a i => decide (a = 92 ∧ (i = 83 ∨ i = 85 ∨ i = 90))) (ab_I σ' 92 0 (nI 0)) τ1 := by rw [← hτ1]; exact (((FM.rf _ _).I (decide_eq_true (by omega))).I (decide_eq_true (by omega))).I (decide_eq_true (by omega))
      have w83 : τ1.2.1 92 83 = 1 := by rw [← hτ1, gI_s, if_neg (by decide), gI_s, if_neg (by decide), gI_s, if_pos rfl]
      have w85 : τ1.2.1 92 85 = nI 0 := by rw [← hτ1, gI_s, if_neg (by decide), gI_s, if_pos rfl]; rfl
      have w90 : τ1.2.1 92 90 = nI 0 := by rw [← hτ1, gI_s, if_pos rfl]; rfl
      clear hτ1
      have W1 : MWh τ1 A.G := (h4 hg).2.fm hV F1 (fun a i _ => decide_eq_false (by omega))
      refine m_beg W1.2.1 ((h5 ht).1.fm F1 (decide_eq_false (by omega)) (fun a i _ _ => decide_eq_false (by omega))) o3 hT w90 (fun τ2 F2 R2 => ?_)
      have F12 : FM (fun a i => decide ((a = 92 ∧ (83 ≤ i ∧ i ≤ 90)) ∨ (154 ≤ a ∧ a ≤ 162))) (ab_I σ' 92 0 (nI 0)) τ2 := (F1.mono (fun a i y => by have y := of_decide_eq_false y; exact decide_eq_false (by omega))).tr (F2.mono (fun a i y => by have y := of_decide_eq_false y; exact decide_eq_false (by omega)))
      exact k τ2 _ (fmMdl0.tr (F12.mono (fun a i y => by have y := of_decide_eq_false y; exact decide_eq_false (by omega)))) ⟨h1.fm F12 (decide_eq_false (by omega)) (fun i => decide_eq_false (by omega)), h2.fm F12 (fun i => decide_eq_false (by omega)), ⟨by rw [F12.1 _ _ (decide_eq_false (by omega))]; exact f1, by rw [F12.1 _ _ (decide_eq_false (by omega))]; exact f2, by rw [F2.1 _ _ (decide_eq_false (by omega))]; exact w83⟩, fun z => ⟨(h4 z).1.fm F12 (decide_eq_false (by omega)) (fun i => decide_eq_false (by omega)), (h4 z).2.fm (hA.gV z) F12 (fun a i _ => decide_eq_false (by omega))⟩, fun z => ⟨(h5 z).1.fm F12 (decide_eq_false (by omega)) (fun a i _ _ => decide_eq_false (by omega)), (h5 z).2.fm F12 (fun a i _ => decide_eq_false (by omega))⟩, fun _ => ⟨R2, by rw [F2.1 _ _ (decide_eq_false (by omega))]; exact w85⟩⟩ (by rw [F12.1 _ _ (decide_eq_false (by omega))]; exact e920) (fun _ => rfl)
theorem u_ste (hC : CIv σ A g q x y) (hA : AOK A) : ∃ A' c v, AOK A' ∧ CDo (fun Q => wL_step a Q E) σ c v A' ∧ ∀ σ', MIv σ' A → MDo (fun Q => wX12_step a Q E) σ' c v A' := by
  have hxT := hC.2.1.2.2.2.1
  have hgb := isG_b hC.2.1.1
  have hxb := isT_b hxT
  cases hb : A.hb with
  | false =>
    refine ⟨A, 1, 0, hA, ⟨by decide, fun Q k => ?_⟩, fun σ' hM Q k => ?_⟩
    · show wL_step a Q E σ
      unfold wL_step wX11_step
      exact c_nMn hC hb (Or.inl ⟨rfl, k σ (FM.rf _ _) ⟨g, q, x, y, hC⟩ (fun z => absurd z (by decide))⟩)
    · have h4 := hM.2.2.1.2.2
      rw [hb] at h4
      show wX12_step a Q E σ'
      unfold wX12_step wX12_step_j13 wX12_step_j35 wX12_step_j36
      rw [h4]
      exact no (fun z => z rfl) (yes rfl (m_r1 (no (by decide) (k _ _ fmMdl0 (hM.z0 hA) e920 (fun z => absurd z (by decide))))))
  | true =>
    have ht := hA.ht hb
    have hg := hA.hg ht
    obtain ⟨o1, o2, o3, o4⟩ := hA.1 hg
    have hV := o3.1
    have hT := (hA.2.1 ht).2
    have hO := (hA.2.2 hb).2
    by_cases e1 : isIx a 100001
    · obtain ⟨m, q1, q2⟩ := e1
      have hA' : AOK (A.1, A.2.1, A.2.2.1, (true, mRun A.G A.T false m A.S, A.dn + mCnt A.G A.T false m A.S)) := ⟨hA.1, hA.2.1, fun _ => ⟨ht, hO.runs o3 hT m _⟩⟩
      refine ⟨(A.1, A.2.1, A.2.2.1, (true, mRun A.G A.T false m A.S, A.dn + mCnt A.G A.T false m A.S)), 0, nI (mCnt A.G A.T false m A.S), hA', ⟨by decide, fun Q k => ?_⟩, fun σ' hM Q k => ?_⟩
      · show wL_step a Q E σ
        unfold wL_step wX11_step
        refine c_nMy hC hb ?_
        rw [q2]
        refine no (nI_pos (by omega)) (yes (by show _ ≤ nI 100000; simp (disch := omega) only [nI_lit, nI_add, nI_mulE, nI_clampE, nI_eqE, nI_leE, nI_ltE, vp_nIE, true_and, and_true]; omega) ?_)
        obtain ⟨h1, h2, ⟨r1, r2, r3, r4⟩, ⟨f1, f2, f3⟩, ⟨m1, m2⟩, h6, h7, h8⟩ := hC
        obtain ⟨s1, s2, s3⟩ := h8 hb
        refine c_run (Or.inr rfl) o3 hT s1 s2 hO.ok (by omega) s3 (fun τ2 F12 R2 h13 => ?_)
        refine c_ans3 (g := g) (q := q) (x := x) (y := y) hA' (F12.mono (fun a i y => by have y := of_decide_eq_false y; exact decide_eq_false (by omega))) ?_ k
        exact ⟨h1.fm F12 (fun a i _ => decide_eq_false (by omega)), h2, ⟨by rw [F12.2.2 _ _ (decide_eq_false (by omega))]; exact r1, by rw [F12.2.2 _ _ (decide_eq_false (by omega))]; exact r2, by rw [F12.2.2 _ _ (decide_eq_false (by omega))]; exact r3, by rw [F12.2.2 _ _ (decide_eq_false (by omega))]; exact r4⟩, ⟨by rw [F12.1 _ _ (decide_eq_false (by omega))]; exact f1, by rw [F12.1 _ _ (decide_eq_false (by omega))]; exact f2, by rw [F12.1 _ _ (decide_eq_false (by omega))]; exact f3.trans (congrArg bI hb)⟩, ⟨by rw [F12.1 _ _ (decide_eq_false (by omega))]; exact m1, by rw [F12.1 _ _ (decide_eq_false (by omega))]; exact m2⟩, fun z => (h6 z).fm hV F12 (fun a i _ => decide_eq_false (by omega)), fun z => ⟨(h7 z).1.fm F12 (fun a i _ _ => decide_eq_false (by omega)), (h7 z).2.fm F12 (fun i => decide_eq_false (by omega))⟩, fun _ => ⟨s1.fmA hV F12 (fun a i _ => decide_eq_false (by omega)), R2, h13⟩⟩
      · obtain ⟨h83, hR, h85⟩ := hM.mc hb
        show wX12_step a Q E σ'
        unfold wX12_step wX12_step_j13
        rw [h83]
        refine yes (by decide) (no (by decide) ?_)
        rw [show (100000 : Int32) = nI 100001 - 1 by decide]
        refine m_ixy (N := 100001) (by omega) ⟨m, q1, q2⟩ (yes (by decide) ?_)
        unfold wX12_step_j35 wX12_step_j36
        refine m_r0 (yes rfl ?_)
        have M1 := hM.z0 (y := nI 0) hA
        obtain ⟨h1, h2, ⟨f1, f2, f3⟩, h4, h5, h6⟩ := M1
        rw [q2]
        refine m_run (h4 hg).2.1 (h4 hg).2.2.1 (h5 ht).1 o3 hT (h6 hb).1 hO.ok (by omega) (h6 hb).2 (fun τ2 F12 R2 h13 => ?_)
        exact k τ2 _ (fmMdl0.tr (F12.mono (fun a i y => by have y := of_decide_eq_false y; exact decide_eq_false (by omega)))) ⟨h1.fm F12 (decide_eq_false (by omega)) (fun i => decide_eq_false (by omega)), h2.fm F12 (fun i => decide_eq_false (by omega)), ⟨by rw [F12.1 _ _ (decide_eq_false (by omega))]; exact f1, by rw [F12.1 _ _ (decide_eq_false (by omega))]; exact f2, by rw [F12.1 _ _ (decide_eq_false (by omega))]; exact f3.trans (congrArg bI hb)⟩, fun z => ⟨(h4 z).1.fm F12 (decide_eq_false (by omega)) (fun i => decide_eq_false (by omega)), (h4 z).2.fm (hA.gV z) F12 (fun a i _ => decide_eq_false (by omega))⟩, fun z => ⟨(h5 z).1.fm F12 (decide_eq_false (by omega)) (fun a i _ _ => decide_eq_false (by omega)), (h5 z).2.fm F12 (fun a i _ => decide_eq_false (by omega))⟩, fun _ => ⟨R2, h13⟩⟩ (by rw [F12.1 _ _ (decide_eq_false (by omega))]; exact e920) (fun _ => rfl)
    · refine ⟨A, 2, 0, hA, ⟨by decide, fun Q k => ?_⟩, fun σ' hM Q k => ?_⟩
      · show wL_step a Q E σ
        unfold wL_step wX11_step wX11_step_j15
        refine c_nMy hC hb ?_
        have bad : ("java/lang/IllegalArgumentException" = "java/lang/IllegalStateException" ∧ Q (1 : Int32) σ) ∨ ("java/lang/IllegalArgumentException" = "java/lang/IllegalArgumentException" ∧ Q (2 : Int32) σ) := Or.inr ⟨rfl, k σ (FM.rf _ _) ⟨g, q, x, y, hC⟩ (fun z => absurd z (by decide))⟩
        rcases isIx_n (by omega) e1 with z | z
        · exact yes z bad
        · refine ⟨fun _ => bad, fun h0 => no ?_ bad⟩
          rcases i_nn a with w | ⟨j, j1, j2⟩
          · exact absurd w h0
          · rw [j2] at z ⊢
            rw [nI_leE (by omega) (by omega)] at z
            show ¬ _ ≤ nI 100000
            simp (disch := omega) only [nI_lit, nI_add, nI_mulE, nI_clampE, nI_eqE, nI_leE, nI_ltE, vp_nIE, true_and, and_true]; omega
      · obtain ⟨h83, hR, h85⟩ := hM.mc hb
        show wX12_step a Q E σ'
        unfold wX12_step wX12_step_j13
        rw [h83]
        refine yes (by decide) (no (by decide) ?_)
        rw [show (100000 : Int32) = nI 100001 - 1 by decide]
        refine m_ixn (N := 100001) (by omega) e1 (no (fun z => z rfl) ?_)
        unfold wX12_step_j36
        exact m_r2 (no (by decide) (k _ _ fmMdl0 (hM.z0 hA) e920 (fun z => absurd z (by decide))))
end QX
