/-! ===== tree ===== -/
section QX
variable {σ : ab_S} {A : AST} {g q x y : Nat} {E : String → ab_S → Prop}
theorem c_ans3 {τ : ab_S} {v : Int32} {Q : Int32 → ab_S → Prop} {A' : AST} {g q x y : Nat} (hA : AOK A') (f : FM Cls σ τ) (hC : CIv τ A' g q x y) (k : ∀ τ, FM Cls σ τ → (∃ g q x y, CIv τ A' g q x y) → ((0 : Nat) = 0 → τ.2.2.1 163 0 = v.toInt64) → Q (nI 0) τ) : vp_in (0 : Int32) 1 ∧ (∀ σ3 : ab_S, σ3 = ab_L τ 163 (0 : Int32).toNatClampNeg v.toInt64 → Q (0 : Int32) σ3) := c_ans2 hA f hC k
theorem u_tre (hC : CIv σ A g q x y) (hA : AOK A) : ∃ A' c v, AOK A' ∧ CDo (fun Q => wL_tree Q E) σ c v A' ∧ ∀ σ', MIv σ' A → MDo (fun Q => wX12_tree Q E) σ' c v A' := by
  obtain ⟨gq, xy⟩ := hC.gq
  have hT := hC.1
  have hn := hT.1
  cases hg : A.hg with
  | false =>
    refine ⟨A, 1, 0, hA, ⟨by decide, fun Q k => ?_⟩, fun σ' hM Q k => ?_⟩
    · show wL_tree Q E σ
      unfold wL_tree wX11_tree
      exact c_nGn hC hg ⟨rfl, k σ (FM.rf _ _) ⟨g, q, x, y, hC⟩ (fun z => absurd z (by decide))⟩
    · have h4 := hM.2.2.1.1
      rw [hg] at h4
      show wX12_tree Q E σ'
      unfold wX12_tree wX12_tree_j13
      rw [h4]
      exact no (fun z => z rfl) (m_r1 (no (by decide) (k _ _ fmMdl0 (hM.z0 hA) e920 (fun z => absurd z (by decide)))))
  | true =>
    obtain ⟨o1, o2, o3, o4⟩ := hA.1 hg
    have hV := o3.1
    have hW := hC.2.2.2.2.2.1 hg
    have hCG := hW.1.1.1.2.2.1
    have mstart : ∀ σ', MIv σ' A → ∀ Q : Int32 → ab_S → Prop, (∀ τ, FM (fun a i => decide ((a = 92 ∧ i = 8) ∨ a = 96)) (ab_I σ' 92 0 (nI 0)) τ → MT τ A.t A.n → wX12_readTree (fun σ13 => wX12_good (fun u15 σ14 => ((¬ u15 = 0) → (∀ σ16 : ab_S, σ16 = ab_I σ14 92 53 (σ14.2.1 92 59) → ∃ n, wX12_tree_l54 Q E (wX12_tree_j148 Q E) n (0 : Int32) σ16)) ∧ (¬ (¬ u15 = 0) → Q (σ14.2.1 92 44) σ14)) E σ13) E τ) → wX12_tree Q E σ' := by
      intro σ' hM Q hk
      have h4 := hM.2.2.1.1
      rw [hg] at h4
      unfold wX12_tree wX12_tree_j13
      rw [h4]
      refine yes (by decide) (m_r0 (yes rfl ?_))
      have M1 := hM.z0 (y := nI 0) hA
      exact m_take0 M1.1 M1.2.1 hk
    cases hp : (pTr A.G A.t A.n).1 with
    | false =>
      refine ⟨A, 0, nI (pTr A.G A.t A.n).2.1, hA, ⟨by decide, fun Q k => ?_⟩, fun σ' hM Q k => ?_⟩
      · show wL_tree Q E σ
        unfold wL_tree wX11_tree
        refine c_nGy hC hg ⟨y, hC.2.2.1.2.2.2, hC.2.1.2.2.2.2.1, g, hC.2.2.1.1, hC.2.1.1, ?_⟩
        refine c_trd hT hC.2.1.1 hC.2.1.2.2.2.2.1 hV hCG (fun z => by rw [hp] at z; exact absurd z (by decide)) (fun _ hle τ F => ?_)
        refine no (nI_m1 (by omega)) ?_
        exact c_ans2 hA (F.mono (fun a i y => by have y := of_decide_eq_false y; exact decide_eq_false (by omega))) (hC.fm2 hA F (fun a i h1 h2 => decide_eq_false (by omega))) k
      · show wX12_tree Q E σ'
        refine mstart σ' hM Q (fun τ F1 T1 => ?_)
        have M1 := hM.z0 (y := nI 0) hA
        have hMG : MGr τ A.G := (M1.2.2.2.1 hg).2.1.1.1.fm hV F1 ⟨decide_eq_false (by omega), decide_eq_false (by omega), decide_eq_false (by omega)⟩ (fun a i _ _ => decide_eq_false (by omega))
        refine m_trd T1 hV hMG (fun z => by rw [hp] at z; exact absurd z (by decide)) (fun _ τ2 F2 B2 => ?_)
        have F12 : FM (fun a i => decide ((a = 92 ∧ (i = 8 ∨ (40 ≤ i ∧ i ≤ 44) ∨ i = 59 ∨ i = 64)) ∨ a = 96 ∨ (133 ≤ a ∧ a ≤ 138))) (ab_I σ' 92 0 (nI 0)) τ2 := (F1.mono (fun a i y => by have y := of_decide_eq_false y; exact decide_eq_false (by omega))).tr (F2.mono (fun a i y => by have y := of_decide_eq_false y; exact decide_eq_false (by omega)))
        refine m_goodN B2 ?_
        refine no (fun z => z rfl) ?_
        rw [B2.1]
        obtain ⟨h1, h2, ⟨f1, f2, f3⟩, h4, h5, h6⟩ := M1
        exact k τ2 _ (fmMdl0.tr (F12.mono (fun a i y => by have y := of_decide_eq_false y; exact decide_eq_false (by omega)))) ⟨h1.fm F12 (decide_eq_false (by omega)) (fun i => decide_eq_false (by omega)), h2.fm F12 (fun i => decide_eq_false (by omega)), ⟨by rw [F12.1 _ _ (decide_eq_false (by omega))]; exact f1, by rw [F12.1 _ _ (decide_eq_false (by omega))]; exact f2, by rw [F12.1 _ _ (decide_eq_false (by omega))]; exact f3⟩, fun z => ⟨(h4 z).1.fm F12 (decide_eq_false (by omega)) (fun i => decide_eq_false (by omega)), (h4 z).2.fm (hA.gV z) F12 (fun a i _ => decide_eq_false (by omega))⟩, fun z => ⟨(h5 z).1.fm F12 (decide_eq_false (by omega)) (fun a i _ _ => decide_eq_false (by omega)), (h5 z).2.fm F12 (fun a i _ => decide_eq_false (by omega))⟩, fun z => ⟨(h6 z).1.fm F12 (fun a i _ => decide_eq_false (by omega)), by rw [F12.1 _ _ (decide_eq_false (by omega))]; exact (h6 z).2⟩⟩ (by rw [F12.1 _ _ (decide_eq_false (by omega))]; exact e920) (fun _ => rfl)
    | true =>
      have hTO := pTr_I hp
      have hA' : AOK (A.1, A.2.1, (true, (pTr A.G A.t A.n).2.2), (false, A.S, A.dn)) := ⟨hA.1, fun _ => ⟨hg, hTO⟩, fun z => absurd z Bool.false_ne_true⟩
      refine ⟨(A.1, A.2.1, (true, (pTr A.G A.t A.n).2.2), (false, A.S, A.dn)), 0, -1, hA', ⟨by decide, fun Q k => ?_⟩, fun σ' hM Q k => ?_⟩
      · show wL_tree Q E σ
        unfold wL_tree wX11_tree
        refine c_nGy hC hg ⟨y, hC.2.2.1.2.2.2, hC.2.1.2.2.2.2.1, g, hC.2.2.1.1, hC.2.1.1, ?_⟩
        refine c_trd hT hC.2.1.1 hC.2.1.2.2.2.2.1 hV hCG (fun _ τ F hTr => ?_) (fun z => by rw [hp] at z; exact absurd z (by decide))
        have C1 := hC.fm2 hA F (fun a i h1 h2 => decide_eq_false (by omega))
        obtain ⟨h1, h2, ⟨r1, r2, r3, r4⟩, ⟨f1, f2, f3⟩, ⟨m1, m2⟩, h6, h7, h8⟩ := C1
        refine yes rfl ⟨x, r3, h2.2.2.2.1, fe (fe (fe (fe ?_)))⟩
        generalize hτ1 : ab_I (ab_I (ab_R (ab_R τ 0 14 (some x)) 0 13 (some y)) 0 16 1) 0 17 0 = τ1
        have F1 : FM (fun a i => decide (a = 0 ∧ 13 ≤ i ∧ i ≤ 17 ∧ i ≠ 15)) τ τ1 := by
          rw [← hτ1]
          have r1 : FM (fun a i => decide (a = 0 ∧ 13 ≤ i ∧ i ≤ 17 ∧ i ≠ 15)) τ (ab_R (ab_R τ 0 14 (some x)) 0 13 (some y)) := by
            refine ⟨fun a i _ => rfl, fun a i _ => rfl, fun a i z => ?_⟩
            have z := of_decide_eq_false z
            by_cases e : a = 0
            · rw [gR_R, if_pos e, if_neg (by omega), gR_R, if_pos rfl, if_neg (by omega), e]
            · rw [gR_R, if_neg e, gR_R, if_neg e]
          exact (r1.I (decide_eq_true (by omega))).I (decide_eq_true (by omega))
        have w13 : τ1.2.2.2 0 13 = some y := by rw [← hτ1, gR_I, gR_I, gR_R, if_pos rfl, if_pos rfl]
        have w14 : τ1.2.2.2 0 14 = some x := by rw [← hτ1, gR_I, gR_I, gR_R, if_pos rfl, if_neg (by decide), gR_R, if_pos rfl, if_pos rfl]
        have w16 : τ1.2.1 0 16 = 1 := by rw [← hτ1, gI_s, if_neg (by decide), gI_s, if_pos rfl]
        have w17 : τ1.2.1 0 17 = 0 := by rw [← hτ1, gI_s, if_pos rfl]
        clear hτ1
        have W1 : CWh τ1 g A.G := (h6 hg).fm hV F1 (fun a i _ => decide_eq_false (by omega))
        refine c_eval o3 hTO h2.1 h2.2.2.2.2.1 (by rw [F1.2.2 _ _ (decide_eq_false (by omega))]; exact r1) w13 (by rw [F1.1 _ _ (decide_eq_false (by omega))]; exact m1) W1.2.1 (hTr.fm F1 (fun a i _ _ => decide_eq_false (by omega))) W1.1.1.1.2.2.1 W1.1.1.1.2.2.2 (fun τ2 F2 hVl => ?_)
        have F12 : FM (fun a i => decide ((a = 0 ∧ 13 ≤ i ∧ i ≤ 17 ∧ i ≠ 15) ∨ (a = 28 ∧ (i = 2 ∨ i = 3 ∨ (10 ≤ i ∧ i ≤ 13))) ∨ (29 ≤ a ∧ a ≤ 34))) τ τ2 := (F1.mono (fun a i y => by have y := of_decide_eq_false y; exact decide_eq_false (by omega))).tr (F2.mono (fun a i y => by have y := of_decide_eq_false y; exact decide_eq_false (by omega)))
        refine c_ans3 (g := g) (q := q) (x := y) (y := x) hA' ((F.mono (fun a i y => by have y := of_decide_eq_false y; exact decide_eq_false (by omega))).tr (F12.mono (fun a i y => by have y := of_decide_eq_false y; exact decide_eq_false (by omega)))) ?_ k
        refine ⟨h1.fm F12 (fun a i _ => decide_eq_false (by omega)), ⟨h2.1, h2.2.1, h2.2.2.1, h2.2.2.2.2.1, h2.2.2.2.1, fun z => h2.2.2.2.2.2 z.symm⟩, ⟨by rw [F12.2.2 _ _ (decide_eq_false (by omega))]; exact r1, by rw [F12.2.2 _ _ (decide_eq_false (by omega))]; exact r2, by rw [F2.2.2 _ _ (decide_eq_false (by omega))]; exact w13, by rw [F2.2.2 _ _ (decide_eq_false (by omega))]; exact w14⟩, ⟨by rw [F12.1 _ _ (decide_eq_false (by omega))]; exact f1, by rw [F2.1 _ _ (decide_eq_false (by omega))]; exact w16, by rw [F2.1 _ _ (decide_eq_false (by omega))]; exact w17⟩, ⟨by rw [F12.1 _ _ (decide_eq_false (by omega))]; exact m1, by rw [F12.1 _ _ (decide_eq_false (by omega))]; exact m2⟩, fun z => (h6 z).fm hV F12 (fun a i _ => decide_eq_false (by omega)), fun _ => ⟨hTr.fm F12 (fun a i _ _ => decide_eq_false (by omega)), hVl⟩, fun z => absurd z Bool.false_ne_true⟩
      · show wX12_tree Q E σ'
        refine mstart σ' hM Q (fun τ F1 T1 => ?_)
        have M1 := hM.z0 (y := nI 0) hA
        have hMG : MGr τ A.G := (M1.2.2.2.1 hg).2.1.1.1.fm hV F1 ⟨decide_eq_false (by omega), decide_eq_false (by omega), decide_eq_false (by omega)⟩ (fun a i _ _ => decide_eq_false (by omega))
        refine m_trd T1 hV hMG (fun _ τ2 F2 O2 hTr => ?_) (fun z => by rw [hp] at z; exact absurd z (by decide))
        refine m_goodY O2 ?_
        refine yes (by decide) (m_tcp hTO hV hTr (fun τ3 F3 hTt => ?_))
        unfold wX12_tree_j148
        refine fe (fe ?_)
        generalize hτ4 : ab_I (ab_I τ3 92 52 1) 92 83 0 = τ4
        have F4 : FM (fun a i => decide (a = 92 ∧ (i = 52 ∨ i = 83))) τ3 τ4 := by rw [← hτ4]; exact ((FM.rf _ τ3).I (decide_eq_true (by omega))).I (decide_eq_true (by omega))
        have w52 : τ4.2.1 92 52 = 1 := by rw [← hτ4, gI_s, if_neg (by decide), gI_s, if_pos rfl]
        have w83 : τ4.2.1 92 83 = 0 := by rw [← hτ4, gI_s, if_pos rfl]
        clear hτ4
        have F14 : FM (fun a i => decide ((a = 92 ∧ (i = 8 ∨ (40 ≤ i ∧ i ≤ 44) ∨ i = 52 ∨ i = 53 ∨ i = 59 ∨ i = 64 ∨ i = 83)) ∨ a = 96 ∨ (128 ≤ a ∧ a ≤ 138))) (ab_I σ' 92 0 (nI 0)) τ4 := (((F1.mono (fun a i y => by have y := of_decide_eq_false y; exact decide_eq_false (by omega))).tr (F2.mono (fun a i y => by have y := of_decide_eq_false y; exact decide_eq_false (by omega)))).tr (F3.mono (fun a i y => by have y := of_decide_eq_false y; exact decide_eq_false (by omega)))).tr (F4.mono (fun a i y => by have y := of_decide_eq_false y; exact decide_eq_false (by omega)))
        have W4 : MWh τ4 A.G := (M1.2.2.2.1 hg).2.fm hV F14 (fun a i _ => decide_eq_false (by omega))
        have T4 : MTt τ4 A.G (pTr A.G A.t A.n).2.2 := hTt.fm F4 (decide_eq_false (by omega)) (fun a i _ _ => decide_eq_false (by omega))
        refine m_eval W4.1.1 T4 hV hTO (val_ev o3 o4 hTO) (val_z o3 hTO) (fun τ5 F5 hVl => ?_)
        have F15 : FM (fun a i => decide ((a = 92 ∧ (i = 8 ∨ (40 ≤ i ∧ i ≤ 44) ∨ i = 52 ∨ i = 53 ∨ i = 59 ∨ i = 64 ∨ i = 83)) ∨ a = 96 ∨ (128 ≤ a ∧ a ≤ 145))) (ab_I σ' 92 0 (nI 0)) τ5 := (F14.mono (fun a i y => by have y := of_decide_eq_false y; exact decide_eq_false (by omega))).tr (F5.mono (fun a i y => by have y := of_decide_eq_false y; exact decide_eq_false (by omega)))
        obtain ⟨h1, h2, ⟨f1, f2, f3⟩, h4, h5, h6⟩ := M1
        exact k τ5 _ (fmMdl0.tr (F15.mono (fun a i y => by have y := of_decide_eq_false y; exact decide_eq_false (by omega)))) ⟨h1.fm F15 (decide_eq_false (by omega)) (fun i => decide_eq_false (by omega)), h2.fm F15 (fun i => decide_eq_false (by omega)), ⟨by rw [F15.1 _ _ (decide_eq_false (by omega))]; exact f1, by rw [F5.1 _ _ (decide_eq_false (by omega))]; exact w52, by rw [F5.1 _ _ (decide_eq_false (by omega))]; exact w83⟩, fun z => ⟨(h4 z).1.fm F15 (decide_eq_false (by omega)) (fun i => decide_eq_false (by omega)), (h4 z).2.fm (hA.gV z) F15 (fun a i _ => decide_eq_false (by omega))⟩, fun _ => ⟨T4.fm F5 (decide_eq_false (by omega)) (fun a i _ _ => decide_eq_false (by omega)), hVl⟩, fun z => absurd z Bool.false_ne_true⟩ (by rw [F15.1 _ _ (decide_eq_false (by omega))]; exact e920) (fun _ => rfl)
end QX
