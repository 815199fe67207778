/-! ===== put, end: both sides ===== -/
def CDe (W : (Int32 → ab_S → Prop) → ab_S → Prop) (σ : ab_S) (c : Nat) (A : AST) : Prop := c ≤ 4 ∧ ∀ Q : Int32 → ab_S → Prop, (∀ τ, FM Cls σ τ → (∃ g q x y, CIv τ A g q x y) → Q (nI c) τ) → W Q σ
def MDe (W : (ab_S → Prop) → ab_S → Prop) (σ : ab_S) (c : Nat) (A : AST) : Prop := ∀ Q : ab_S → Prop, (∀ τ, FM Mdl σ τ → MIv τ A → τ.2.1 92 0 = nI c → Q τ) → W Q σ
section QX
variable {σ : ab_S} {A : AST} {g q x y : Nat} {a b d : Int32} {E : String → ab_S → Prop}
theorem c_ans2 {τ : ab_S} {v : Int32} {Q : Int32 → ab_S → Prop} {g q x y : Nat} (hA : AOK A) (f : FM Cls σ τ) (hC : CIv τ A g q x y) (k : ∀ τ, FM Cls σ τ → (∃ g q x y, CIv τ A g q x y) → ((0 : Nat) = 0 → τ.2.2.1 163 0 = v.toInt64) → Q (nI 0) τ) : vp_in (0 : Int32) 1 ∧ (∀ σ3 : ab_S, σ3 = ab_L τ 163 (0 : Int32).toNatClampNeg v.toInt64 → Q (0 : Int32) σ3) :=
  ⟨vp_0_1, fe (k _ (f.L (decide_eq_true (by omega))) ⟨g, q, x, y, hC.fm (F := fun a _ => decide (a = 163)) hA ((FM.rf _ τ).L (decide_eq_true rfl)) (fun a i h1 h2 => decide_eq_false (by omega))⟩ (fun _ => by rw [gL_L, if_pos rfl, if_pos (by decide)]))⟩
theorem fmMdl0 {y : Int32} : FM Mdl σ (ab_I σ 92 0 y) := (FM.rf _ σ).I (decide_eq_true (by omega))
theorem MIv.z0 {y : Int32} (hM : MIv σ A) (hA : AOK A) : MIv (ab_I σ 92 0 y) A := hM.fm (F := S920) hA fm920 (fun a i h1 h2 h3 => decide_eq_false (by omega))
theorem u_put (hC : CIv σ A g q x y) (hA : AOK A) : ∃ A' c v, AOK A' ∧ CDo (fun Q => wL_put a Q E) σ c v A' ∧ ∀ σ', MIv σ' A → MDo (fun Q => wX12_put a Q E) σ' c v A' := by
  have hT := hC.1
  have hle := cnB_le a 4
  have hn := hT.1
  have e2 : (2400 : Int32) = nI 2400 := rfl
  cases hok : okA a 4 with
  | false =>
    refine ⟨A, 1, 0, hA, ⟨by decide, fun Q k => ?_⟩, fun σ' hM Q k => ?_⟩
    · show wL_put a Q E σ
      unfold wL_put
      refine c_pL (fun z => by rw [hok] at z; exact absurd z (by decide)) (fun _ => Or.inl ⟨rfl, k σ (FM.rf _ _) ⟨g, q, x, y, hC⟩ (fun z => absurd z (by decide))⟩)
    · show wX12_put a Q E σ'
      refine m_pL ?_
      unfold wX12_put_j79
      rw [hok]
      refine no (fun z => z rfl) ?_
      unfold wX12_put_j89 wX12_put_j106
      have fin : ∀ z : Int32, wX12_refuse 1 z 0 (fun u6 σ5 => ((u6 = 0) → ∃ n, wX12_put_l118 a Q E (wX12_put_j169 a Q E) n (0 : Int32) σ5) ∧ (¬ (u6 = 0) → Q (0 : Int32) σ5)) E σ' := fun z => m_r1 (no (by decide) (k _ _ fmMdl0 (hM.z0 hA) e920 (fun z => absurd z (by decide))))
      exact ⟨fun _ => fin 0, fun _ => fin 1⟩
  | true =>
    by_cases hl : A.n + cnB a 4 ≤ 2400
    · refine ⟨((pT a A.t A.n 4, A.n + cnB a 4), A.2), 0, nI (A.n + cnB a 4), hA, ⟨by decide, fun Q k => ?_⟩, fun σ' hM Q k => ?_⟩
      · show wL_put a Q E σ
        unfold wL_put
        refine c_pL (fun _ => ?_) (fun z => by rw [hok] at z; exact absurd z (by decide))
        unfold wX11_put_j56
        rw [hT.2.1, nI_add]
        refine yes (by rw [e2]; simp (disch := omega) only [nI_lit, nI_add, nI_mulE, nI_clampE, nI_eqE, nI_leE, nI_ltE, vp_nIE, true_and, and_true]; omega) (c_app hT hok hl (fun τ F hT' => ?_))
        rw [hT'.2.1]
        have hC' := hC.tx (t := pT a A.t A.n 4) (n := A.n + cnB a 4) hA F (fun a i h1 h2 => decide_eq_false (by omega)) hT'
        exact c_ans2 (A := ((pT a A.t A.n 4, A.n + cnB a 4), A.2)) hA (F.mono (fun a i y => by have y := of_decide_eq_false y; exact decide_eq_false (by omega))) hC' k
      · have hT2 := hM.1
        show wX12_put a Q E σ'
        refine m_pL ?_
        unfold wX12_put_j79
        rw [hok]
        refine yes (by decide) ?_
        unfold wX12_put_j89
        rw [hT2.2.1, nI_add]
        refine yes (by rw [e2]; simp (disch := omega) only [nI_lit, nI_add, nI_mulE, nI_clampE, nI_eqE, nI_leE, nI_ltE, vp_nIE, true_and, and_true]; omega) ?_
        unfold wX12_put_j106
        refine m_r0 (yes rfl ?_)
        have M1 := hM.z0 (y := nI 0) hA
        refine m_app M1.1 hok hl (fun τ F hT' => ?_)
        have M2 := M1.tx (t := pT a A.t A.n 4) (n := A.n + cnB a 4) hA F (fun a i h1 h2 h3 => decide_eq_false (by omega)) hT'
        exact k _ _ (fmMdl0.tr (F.mono (fun a i y => by have y := of_decide_eq_false y; exact decide_eq_false (by omega)))) M2 (by rw [F.1 _ _ (decide_eq_false (by omega))]; exact e920) (fun _ => rfl)
    · refine ⟨A, 2, 0, hA, ⟨by decide, fun Q k => ?_⟩, fun σ' hM Q k => ?_⟩
      · show wL_put a Q E σ
        unfold wL_put
        refine c_pL (fun _ => ?_) (fun z => by rw [hok] at z; exact absurd z (by decide))
        unfold wX11_put_j56
        rw [hT.2.1, nI_add]
        exact no (by rw [e2]; simp (disch := omega) only [nI_lit, nI_add, nI_mulE, nI_clampE, nI_eqE, nI_leE, nI_ltE, vp_nIE, true_and, and_true]; omega) (Or.inr ⟨rfl, k σ (FM.rf _ _) ⟨g, q, x, y, hC⟩ (fun z => absurd z (by decide))⟩)
      · have hT2 := hM.1
        show wX12_put a Q E σ'
        refine m_pL ?_
        unfold wX12_put_j79
        rw [hok]
        refine yes (by decide) ?_
        unfold wX12_put_j89
        rw [hT2.2.1, nI_add]
        refine no (by rw [e2]; simp (disch := omega) only [nI_lit, nI_add, nI_mulE, nI_clampE, nI_eqE, nI_leE, nI_ltE, vp_nIE, true_and, and_true]; omega) ?_
        unfold wX12_put_j106
        exact m_r2 (no (by decide) (k _ _ fmMdl0 (hM.z0 hA) e920 (fun z => absurd z (by decide))))
theorem u_end (hC : CIv σ A g q x y) (hA : AOK A) : ∃ A' c, AOK A' ∧ CDe (fun Q => wL_end a Q E) σ c A' ∧ ∀ σ', MIv σ' A → MDe (fun Q => wX12_end a Q E) σ' c A' := by
  have hT := hC.1
  have hn := hT.1
  by_cases e1 : isIx a (A.n + 1)
  · obtain ⟨i, i1, i2⟩ := e1
    refine ⟨((A.t, i), A.2), 0, hA, ⟨by decide, fun Q k => ?_⟩, fun σ' hM Q k => ?_⟩
    · show wL_end a Q E σ
      unfold wL_end wX11_end
      rw [hT.2.1, i2]
      refine no (nI_pos (by omega)) (yes (by simp (disch := omega) only [nI_lit, nI_add, nI_mulE, nI_clampE, nI_eqE, nI_leE, nI_ltE, vp_nIE, true_and, and_true]; omega) (fe ?_))
      have F : FM (fun a _ => decide (a = 1 ∨ a = 2)) σ (ab_I σ 1 1 (nI i)) := (FM.rf _ σ).I (decide_eq_true (by omega))
      refine k _ (F.mono (fun a i y => by have y := of_decide_eq_false y; exact decide_eq_false (by omega))) ⟨g, q, x, y, hC.tx (t := A.t) (n := i) hA F (fun a i h1 h2 => decide_eq_false (by omega)) ⟨by omega, by rw [gI_s, if_pos rfl], fun j hj => ?_⟩⟩
      rw [gI_o (by decide)]; exact hT.2.2 j (by omega)
    · have hT2 := hM.1
      show wX12_end a Q E σ'
      unfold wX12_end
      rw [hT2.2.1, i2, show nI A.n = nI (A.n + 1) - 1 by show _ = _ - nI 1; rw [nI_subE (by omega)]; congr 1]
      refine m_ixy (by omega) ⟨i, i1, rfl⟩ (yes (by decide) ?_)
      unfold wX12_end_j18
      refine m_r0 (no (fun z => z rfl) (fe ?_))
      have M1 := hM.z0 (y := nI 0) hA
      have F : FM (fun a i => decide ((a = 92 ∧ i = 2) ∨ a = 93)) (ab_I σ' 92 0 (nI 0)) (ab_I (ab_I σ' 92 0 (nI 0)) 92 2 (nI i)) := (FM.rf _ _).I (decide_eq_true (by omega))
      refine k _ (fmMdl0.tr (F.mono (fun a i y => by have y := of_decide_eq_false y; exact decide_eq_false (by omega)))) (M1.tx (t := A.t) (n := i) hA F (fun a i h1 h2 h3 => decide_eq_false (by omega)) ⟨by omega, by rw [gI_s, if_pos rfl], fun j hj => ?_⟩) (by rw [F.1 _ _ (decide_eq_false (by omega))]; exact e920)
      rw [gI_o (by decide)]; exact M1.1.2.2 j (by omega)
  · refine ⟨A, 1, hA, ⟨by decide, fun Q k => ?_⟩, fun σ' hM Q k => ?_⟩
    · show wL_end a Q E σ
      unfold wL_end wX11_end wX11_end_j15
      rw [hT.2.1]
      have bad : ("java/lang/IllegalArgumentException" = "java/lang/IllegalArgumentException" ∧ Q (1 : Int32) σ) := ⟨rfl, k σ (FM.rf _ _) ⟨g, q, x, y, hC⟩⟩
      rcases isIx_n (by omega) e1 with z | z
      · exact yes z bad
      · refine ⟨fun _ => bad, fun h0 => no ?_ bad⟩
        rcases i_nn a with w | ⟨j, j1, j2⟩
        · exact absurd w h0
        · rw [j2] at z ⊢
          rw [nI_leE (by omega) (by omega)] at z
          simp (disch := omega) only [nI_lit, nI_add, nI_mulE, nI_clampE, nI_eqE, nI_leE, nI_ltE, vp_nIE, true_and, and_true]; omega
    · have hT2 := hM.1
      show wX12_end a Q E σ'
      unfold wX12_end
      rw [hT2.2.1, show nI A.n = nI (A.n + 1) - 1 by show _ = _ - nI 1; rw [nI_subE (by omega)]; congr 1]
      refine m_ixn (by omega) e1 (no (fun z => z rfl) ?_)
      unfold wX12_end_j18
      exact m_r1 (yes (by decide) (k _ fmMdl0 (hM.z0 hA) e920))
end QX
