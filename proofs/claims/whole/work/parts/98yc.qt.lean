/-! ===== node, value ===== -/
section QX
variable {σ : ab_S} {A : AST} {g q x y : Nat} {a b d : Int32} {E : String → ab_S → Prop}
theorem c_nTn {Q : ab_S → Prop} (hC : CIv σ A g q x y) (hg : A.ht = false) (k : E "java/lang/IllegalStateException" σ) : wX11_needTree Q E σ := by
  unfold wX11_needTree
  rw [hC.2.2.2.1.2.1, hg]
  exact no (fun z => z rfl) k
theorem c_nTy {Q : ab_S → Prop} (hC : CIv σ A g q x y) (hg : A.ht = true) (k : Q σ) : wX11_needTree Q E σ := by
  unfold wX11_needTree
  rw [hC.2.2.2.1.2.1, hg]
  exact yes (by decide) k
theorem c_nNn {Q : ab_S → Prop} (hC : CIv σ A g q x y) (hA : AOK A) (ht : A.ht = true) (h : ¬ isIx a A.T.N) (k : E "java/lang/IndexOutOfBoundsException" σ) : wX11_needNode a Q E σ := by
  have hN := (hA.2.1 ht).2.2.1
  unfold wX11_needNode
  refine ⟨x, hC.2.2.1.2.2.1, hC.2.1.2.2.2.1, ?_⟩
  rw [(hC.2.2.2.2.2.2.1 ht).1.1]
  exact c_nIn (by omega) h k
theorem c_nNy {n : Nat} {Q : ab_S → Prop} (hC : CIv σ A g q x y) (hA : AOK A) (ht : A.ht = true) (h : n < A.T.N) (k : Q σ) : wX11_needNode (nI n) Q E σ := by
  have hN := (hA.2.1 ht).2.2.1
  unfold wX11_needNode
  refine ⟨x, hC.2.2.1.2.2.1, hC.2.1.2.2.2.1, ?_⟩
  rw [(hC.2.2.2.2.2.2.1 ht).1.1]
  exact c_nIy (by omega) h k
theorem c_syO {n : Nat} {Q : Int32 → ab_S → Prop} (hC : CIv σ A g q x y) (hA : AOK A) (ht : A.ht = true) (h : n < A.T.N) (k : Q (nI (hdS A.G (A.T.pr n))) σ) : wX11_symbolOf (nI n) Q E σ := by
  have hN := (hA.2.1 ht).2.2.1
  have hg := hA.hg ht
  have hV := hA.gV hg
  have hp := ((hA.2.1 ht).2.2.2 n h).1.1
  unfold wX11_symbolOf
  refine ⟨g, hC.2.2.1.1, hC.2.1.1, x, hC.2.2.1.2.2.1, hC.2.1.2.2.2.1, by simp (disch := omega) only [nI_lit, nI_add, nI_mulE, nI_clampE, nI_eqE, nI_leE, nI_ltE, vp_nIE, true_and, and_true]; omega, ?_⟩
  rw [nI_clampE (show n < 2147483648 by omega), ((hC.2.2.2.2.2.2.1 ht).1.2 n h).1]
  exact c_sym (o := 0) (hC.2.2.2.2.2.1 hg).1.1 hV hp (Nat.zero_le _) k
theorem m_syO {n : Nat} {Q : Int32 → ab_S → Prop} {Γ : GRT} {T : TST} (hM : MGr σ Γ) (hTt : MTt σ Γ T) (hV : GRV Γ) (hT : TOK Γ T) (h : n < T.N) (k : Q (nI (hdS Γ (T.pr n))) σ) : wX12_symbolOf (nI n) Q E σ := by
  have hN := hT.2.1
  have h30 := hV.2.1
  have hp := (hT.2.2 n h).1.1
  have e4 : (4 : Int32) * nI (T.pr n) = nI (4 * T.pr n) := by show nI 4 * nI _ = _; rw [nI_mulE]
  unfold wX12_symbolOf
  rw [nI_clampE (show n < 2147483648 by omega), (hTt.2 n h).1, e4, nI_clampE (show 4 * T.pr n < 2147483648 by omega)]
  have h104 : σ.2.1 104 (4 * T.pr n) = nI (hdS Γ (T.pr n)) := (hM.2.2.2 _ hp).2.2.1 0 (by omega)
  rw [h104]
  exact ⟨by simp (disch := omega) only [nI_lit, nI_add, nI_mulE, nI_clampE, nI_eqE, nI_leE, nI_ltE, vp_nIE, true_and, and_true]; omega, by simp (disch := omega) only [nI_lit, nI_add, nI_mulE, nI_clampE, nI_eqE, nI_leE, nI_ltE, vp_nIE, true_and, and_true]; omega, k⟩
theorem m_iN {Q : Int32 → ab_S → Prop} {Γ : GRT} {T : TST} (hTt : MTt σ Γ T) (hT : TOK Γ T) (k1 : isIx a T.N → Q 1 σ) (k0 : ¬ isIx a T.N → Q 0 σ) : wX12_isNode a Q E σ := by
  have hN := hT.2.1
  unfold wX12_isNode
  rw [hTt.1]
  by_cases h : isIx a T.N
  · exact m_ixy (by omega) h ⟨Or.inr rfl, k1 h⟩
  · exact m_ixn (by omega) h ⟨Or.inl rfl, k0 h⟩
theorem isIx4 (h0 : a ≠ 0) (h1 : a ≠ 1) (h2 : a ≠ 2) (h3 : a ≠ 3) : ¬ isIx a 4 := by
  rintro ⟨j, j1, j2⟩
  have : j = 0 ∨ j = 1 ∨ j = 2 ∨ j = 3 := by omega
  rcases this with z | z | z | z
  · exact h0 (by rw [j2, z]; rfl)
  · exact h1 (by rw [j2, z]; rfl)
  · exact h2 (by rw [j2, z]; rfl)
  · exact h3 (by rw [j2, z]; rfl)
/-- what the model has when there is a tree -/
theorem MIv.tr (hM : MIv σ A) (hA : AOK A) (ht : A.ht = true) : σ.2.1 92 52 = 1 ∧ MWh σ A.G ∧ MTt σ A.G A.T ∧ MVl σ (val A.G A.T) := ⟨by rw [hM.2.2.1.2.1, ht]; rfl, (hM.2.2.2.1 (hA.hg ht)).2, (hM.2.2.2.2.1 ht).1, (hM.2.2.2.2.1 ht).2⟩
theorem q_nod (hC : CIv σ A g q x y) (hA : AOK A) : ∃ c v, CAns (fun Q => wL_node a b Q E) σ c v ∧ ∀ σ', MIv σ' A → MAns (fun Q => wX12_node a b Q E) σ' c v := by
  have h13 := hC.2.2.1.2.2.1
  have hxT := hC.2.1.2.2.2.1
  cases ht : A.ht with
  | false =>
    refine ⟨1, 0, ⟨by decide, fun Q k => ?_⟩, fun σ' hM Q k => ?_⟩
    · show wL_node a b Q E σ
      unfold wL_node wX11_node
      exact c_nTn hC ht (Or.inl ⟨rfl, k σ (FM.rf _ _) (fun z => absurd z (by decide))⟩)
    · have h4 := hM.2.2.1.2.1
      rw [ht] at h4
      show wX12_node a b Q E σ'
      unfold wX12_node wX12_node_j19 wX12_node_j20 wX12_node_j34 wX12_node_j49 wX12_node_j50 wX12_node_j67 wX12_node_j68
      rw [h4]
      exact yes rfl (no (fun z => z rfl) (yes rfl (yes rfl (m_r1 (no (by decide) (k _ _ fm920 e920 (fun z => absurd z (by decide))))))))
  | true =>
    have hg := hA.hg ht
    obtain ⟨o1, o2, o3, o4⟩ := hA.1 hg
    have hV := o3.1
    have hT := (hA.2.1 ht).2
    have hN := hT.2.1
    have hTr := (hC.2.2.2.2.2.2.1 ht).1
    by_cases e1 : isIx a A.T.N
    · obtain ⟨n, n1, n2⟩ := e1
      have ecn : (nI n).toNatClampNeg = n := nI_clampE (by omega)
      have ev : vp_in (nI n) 250 := by simp (disch := omega) only [nI_lit, nI_add, nI_mulE, nI_clampE, nI_eqE, nI_leE, nI_ltE, vp_nIE, true_and, and_true]; omega
      have ev2 : vp_in (nI n) 251 := by simp (disch := omega) only [nI_lit, nI_add, nI_mulE, nI_clampE, nI_eqE, nI_leE, nI_ltE, vp_nIE, true_and, and_true]; omega
      have ml : ∀ σ', MIv σ' A → ∀ Q : Int32 → ab_S → Prop, (∀ z : Bool, (z = false → isIx b 4) → (z = true → ¬ isIx b 4) → wX12_node_j68 (nI n) b Q E (bI z) 0 0 σ') → wX12_node (nI n) b Q E σ' := by
        intro σ' hM Q hk
        obtain ⟨h4, hG, hTt, _⟩ := hM.tr hA ht
        unfold wX12_node
        rw [h4]
        refine no (by decide) (m_iN hTt hT (fun _ => no (by decide) ?_) (fun z => absurd ⟨n, n1, rfl⟩ z))
        unfold wX12_node_j20
        rw [h4]
        refine yes (by decide) ?_
        unfold wX12_node_j34
        rw [h4]
        refine no (by decide) (yes (by decide) ?_)
        unfold wX12_node_j49 wX12_node_j50
        refine no (by decide) ?_
        by_cases q2 : isIx b 4
        · have := m_ixy (σ := σ') (E := E) (N := 4) (by omega) q2 (Q := fun u6 σ5 => ((¬ u6 = 0) → wX12_node_j67 (nI n) b Q E 0 0 σ5) ∧ (¬ (¬ u6 = 0) → wX12_node_j68 (nI n) b Q E 1 0 0 σ5)) (yes (by decide) (hk false (fun _ => q2) (fun z => absurd z (by decide))))
          exact this
        · have := m_ixn (σ := σ') (E := E) (N := 4) (by omega) q2 (Q := fun u6 σ5 => ((¬ u6 = 0) → wX12_node_j67 (nI n) b Q E 0 0 σ5) ∧ (¬ (¬ u6 = 0) → wX12_node_j68 (nI n) b Q E 1 0 0 σ5)) (no (fun z => z rfl) (hk true (fun z => absurd z (by decide)) (fun _ => q2)))
          exact this
      have mi : ∀ σ', MIv σ' A → ∀ Q : Int32 → ab_S → Prop, isIx b 4 → ((¬ b = 0 → (¬ b = 1 → (¬ b = 2 → wX12_symbolOf (nI n) (fun u4 σ3 => Q u4 σ3) E (ab_I σ' 92 0 (nI 0))) ∧ (¬ ¬ b = 2 → Q (A.T.li n) (ab_I σ' 92 0 (nI 0)))) ∧ (¬ ¬ b = 1 → Q (abI (A.T.pa n)) (ab_I σ' 92 0 (nI 0)))) ∧ (¬ ¬ b = 0 → Q (nI (A.T.pr n)) (ab_I σ' 92 0 (nI 0)))) → wX12_node (nI n) b Q E σ' := by
        intro σ' hM Q h4 hk
        obtain ⟨_, _, hTt, _⟩ := hM.tr hA ht
        obtain ⟨b1, b2, b3, b4, b5⟩ := hTt.2 n n1
        refine ml σ' hM Q (fun z z1 z2 => ?_)
        cases z with
        | true => exact absurd h4 (z2 rfl)
        | false =>
          unfold wX12_node_j68
          refine m_r0 (yes rfl ?_)
          rw [ecn, n920 (by omega), n920 (by omega), n920 (by omega), b1, b2, b4]
          exact ⟨fun z => ⟨fun z2 => ⟨fun z3 => (hk.1 z).1 z2 |>.1 z3, fun z3 => ⟨ev2, (hk.1 z).1 z2 |>.2 z3⟩⟩, fun z2 => ⟨ev2, (hk.1 z).2 z2⟩⟩, fun z => ⟨ev2, hk.2 z⟩⟩
      obtain ⟨t1, t2, t3, t4, t5⟩ := hTr.2 n n1
      have cl : ∀ {Q : Int32 → ab_S → Prop} {E' : String → ab_S → Prop}, ((b = 0 → Q (nI (A.T.pr n)) σ) ∧ (¬ b = 0 → (b = 1 → Q (abI (A.T.pa n)) σ) ∧ (¬ b = 1 → (b = 2 → Q (A.T.li n) σ) ∧ (¬ b = 2 → (b = 3 → Q (nI (hdS A.G (A.T.pr n))) σ) ∧ (¬ b = 3 → E' "java/lang/IllegalArgumentException" σ))))) → wX11_node (nI n) b Q E' σ := by
        intro Q E' hk
        unfold wX11_node
        refine c_nTy hC ht (c_nNy hC hA ht n1 ?_)
        rw [ecn, ]
        refine ⟨fun z => ⟨x, h13, hxT, ev, ?_⟩, fun z => ⟨fun z2 => ⟨x, h13, hxT, ev, ?_⟩, fun z2 => ⟨fun z3 => ⟨x, h13, hxT, ev, ?_⟩, fun z3 => ⟨fun z4 => c_syO hC hA ht n1 ?_, fun z4 => ?_⟩⟩⟩⟩
        · rw [t1]; exact hk.1 z
        · rw [t2]; exact (hk.2 z).1 z2
        · rw [t3]; exact ((hk.2 z).2 z2).1 z3
        · exact (((hk.2 z).2 z2).2 z3).1 z4
        · exact (((hk.2 z).2 z2).2 z3).2 z4
      by_cases b0 : b = 0
      · refine ⟨0, nI (A.T.pr n), ⟨by decide, fun Q k => ?_⟩, fun σ' hM Q k => ?_⟩
        · show wL_node a b Q E σ
          unfold wL_node
          rw [n2]
          exact cl (yes b0 (c_ans (FM.rf _ _) k))
        · show wX12_node a b Q E σ'
          rw [n2]
          exact mi σ' hM Q ⟨0, by omega, b0⟩ (no (fun z => z b0) (k _ _ fm920 e920 (fun _ => rfl)))
      by_cases b1 : b = 1
      · refine ⟨0, abI (A.T.pa n), ⟨by decide, fun Q k => ?_⟩, fun σ' hM Q k => ?_⟩
        · show wL_node a b Q E σ
          unfold wL_node
          rw [n2]
          exact cl (no b0 (yes b1 (c_ans (FM.rf _ _) k)))
        · show wX12_node a b Q E σ'
          rw [n2]
          exact mi σ' hM Q ⟨1, by omega, b1⟩ (yes b0 (no (fun z => z b1) (k _ _ fm920 e920 (fun _ => rfl))))
      by_cases b2 : b = 2
      · refine ⟨0, A.T.li n, ⟨by decide, fun Q k => ?_⟩, fun σ' hM Q k => ?_⟩
        · show wL_node a b Q E σ
          unfold wL_node
          rw [n2]
          exact cl (no b0 (no b1 (yes b2 (c_ans (FM.rf _ _) k))))
        · show wX12_node a b Q E σ'
          rw [n2]
          exact mi σ' hM Q ⟨2, by omega, b2⟩ (yes b0 (yes b1 (no (fun z => z b2) (k _ _ fm920 e920 (fun _ => rfl)))))
      by_cases b3 : b = 3
      · refine ⟨0, nI (hdS A.G (A.T.pr n)), ⟨by decide, fun Q k => ?_⟩, fun σ' hM Q k => ?_⟩
        · show wL_node a b Q E σ
          unfold wL_node
          rw [n2]
          exact cl (no b0 (no b1 (no b2 (yes b3 (c_ans (FM.rf _ _) k)))))
        · obtain ⟨_, hG, hTt, _⟩ := hM.tr hA ht
          show wX12_node a b Q E σ'
          rw [n2]
          refine mi σ' hM Q ⟨3, by omega, b3⟩ (yes b0 (yes b1 (yes b2 ?_)))
          exact m_syO (hG.1.1.1.fm hV fm920 ⟨decide_eq_false (by omega), decide_eq_false (by omega), decide_eq_false (by omega)⟩ (fun a i _ _ => decide_eq_false (by omega))) (hTt.fm fm920 (decide_eq_false (by omega)) (fun a i _ _ => decide_eq_false (by omega))) hV hT n1 (k _ _ fm920 e920 (fun _ => rfl))
      · refine ⟨3, 0, ⟨by decide, fun Q k => ?_⟩, fun σ' hM Q k => ?_⟩
        · show wL_node a b Q E σ
          unfold wL_node
          rw [n2]
          exact cl (no b0 (no b1 (no b2 (no b3 (Or.inr (Or.inr ⟨rfl, k σ (FM.rf _ _) (fun z => absurd z (by decide))⟩))))))
        · show wX12_node a b Q E σ'
          rw [n2]
          refine ml σ' hM Q (fun z z1 z2 => ?_)
          cases z with
          | false => exact absurd (z1 rfl) (isIx4 b0 b1 b2 b3)
          | true =>
            unfold wX12_node_j68
            exact m_r3 (no (by decide) (k _ _ fm920 e920 (fun z => absurd z (by decide))))
    · refine ⟨2, 0, ⟨by decide, fun Q k => ?_⟩, fun σ' hM Q k => ?_⟩
      · show wL_node a b Q E σ
        unfold wL_node wX11_node
        exact c_nTy hC ht (c_nNn hC hA ht e1 (Or.inr (Or.inl ⟨rfl, k σ (FM.rf _ _) (fun z => absurd z (by decide))⟩)))
      · obtain ⟨h4, hG, hTt, _⟩ := hM.tr hA ht
        show wX12_node a b Q E σ'
        unfold wX12_node wX12_node_j19
        rw [h4]
        refine no (by decide) (m_iN hTt hT (fun z => absurd z e1) (fun _ => yes rfl ?_))
        unfold wX12_node_j20
        rw [h4]
        refine yes (by decide) ?_
        unfold wX12_node_j34
        rw [h4]
        refine no (by decide) (no (fun z => z rfl) ?_)
        unfold wX12_node_j50 wX12_node_j67 wX12_node_j68
        exact yes rfl (m_r2 (no (by decide) (k _ _ fm920 e920 (fun z => absurd z (by decide)))))
end QX
