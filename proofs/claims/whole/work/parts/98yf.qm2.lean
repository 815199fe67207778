/-! ===== alone, top ===== -/
section QX
variable {σ : ab_S} {A : AST} {g q x y : Nat} {a b d : Int32} {E : String → ab_S → Prop}
theorem q_alo (hC : CIv σ A g q x y) (hA : AOK A) : ∃ c v, CAns (fun Q => wL_alone a Q E) σ c v ∧ ∀ σ', MIv σ' A → MAns (fun Q => wX12_alone a Q E) σ' c v := by
  cases hb : A.hb with
  | false =>
    refine ⟨1, 0, ⟨by decide, fun Q k => ?_⟩, fun σ' hM Q k => ?_⟩
    · show wL_alone a Q E σ
      unfold wL_alone wX11_alone
      exact c_nMn hC hb (Or.inl ⟨rfl, k σ (FM.rf _ _) (fun z => absurd z (by decide))⟩)
    · have h4 := hM.2.2.1.2.2
      rw [hb] at h4
      show wX12_alone a Q E σ'
      have h40 : wX12_alone_j40 a Q E 0 σ' := by
        unfold wX12_alone_j40 wX12_alone_j62 wX12_alone_j63 wX12_alone_j77 wX12_alone_j92 wX12_alone_j93 wX12_alone_j118 wX12_alone_j119
        rw [h4]
        exact yes rfl (no (fun z => z rfl) (yes rfl (yes rfl (m_r1 (no (by decide) (k _ _ fm920 e920 (fun z => absurd z (by decide))))))))
      refine ⟨1, ?_⟩
      show wX12_alone_l4_b _ _ _ _ _ _ _ _
      unfold wX12_alone_l4_b
      refine ⟨fun _ => h40, fun _ => yes (by rw [h4]; rfl) h40⟩
  | true =>
    have ht := hA.ht hb
    have hg := hA.hg ht
    obtain ⟨o1, o2, o3, o4⟩ := hA.1 hg
    have hV := o3.1
    have h12 := hV.1.1
    obtain ⟨_, hR, h13⟩ := hC.2.2.2.2.2.2.2 hb
    have hcs := (hC.2.2.2.2.2.1 hg).1.2.1
    have hle := vaS_le hV A.G.1.1 (Nat.le_refl _)
    have ml : ∀ σ', MIv σ' A → ∀ Q : Int32 → ab_S → Prop, wX12_alone_j40 a Q E (nI (vaS A.G A.G.1.1)) σ' → wX12_alone a Q E σ' := by
      intro σ' hM Q hk
      obtain ⟨h4, hR', hd⟩ := hM.mc hb
      have hG := (hM.2.2.2.1 hg).2
      refine ⟨A.G.1.1 + 1, ?_⟩
      suffices H : ∀ f s, A.G.1.1 - s = f → s ≤ A.G.1.1 → wX12_alone_l4 a Q E (wX12_alone_j40 a Q E) (f + 1) (nI (vaS A.G s)) (nI s) σ' from H _ 0 rfl (Nat.zero_le _)
      intro f
      induction f with
      | zero =>
        intro s hf hs
        have e : s = A.G.1.1 := by omega
        show wX12_alone_l4_b _ _ _ _ _ _ _ _
        unfold wX12_alone_l4_b
        rw [hG.1.1.1.1.1]
        refine yes (by rw [e]; simp (disch := omega) only [nI_lit, nI_add, nI_mulE, nI_clampE, nI_eqE, nI_leE, nI_ltE, vp_nIE, true_and, and_true]; omega) ?_
        rw [e]; exact hk
      | succ f ih =>
        intro s hf hs
        have hs1 : s < A.G.1.1 := by omega
        have h8 := (hV.1.2.2 s hs1).2.1
        show wX12_alone_l4_b a Q E (wX12_alone_j40 a Q E) (wX12_alone_l4 a Q E (wX12_alone_j40 a Q E) (f + 1)) (nI (vaS A.G s)) (nI s) σ'
        unfold wX12_alone_l4_b
        rw [hG.1.1.1.1.1, h4, nI_clampE (show s < 2147483648 by omega), (hG.1.1.1.1.2 s hs1).2.1]
        refine no (by simp (disch := omega) only [nI_lit, nI_add, nI_mulE, nI_clampE, nI_eqE, nI_leE, nI_ltE, vp_nIE, true_and, and_true]; omega) (no (by decide) ⟨by simp (disch := omega) only [nI_lit, nI_add, nI_mulE, nI_clampE, nI_eqE, nI_leE, nI_ltE, vp_nIE, true_and, and_true]; omega, ?_⟩)
        refine m_sB (k := 0) hG.1 hV hs1 (Nat.le_refl _) (by omega) ?_
        rw [nI_add, nI_1]
        have e : vaS A.G s + cSt A.G s 0 (A.G.1.2.2.1 s) = vaS A.G (s + 1) := by rw [cSt_0]; rfl
        rw [e]
        exact fe (fe (ih (s + 1) (by omega) (by omega)))
    by_cases e1 : isIx a (vaS A.G A.G.1.1)
    · obtain ⟨i, i1, i2⟩ := e1
      have eci : (nI i).toNatClampNeg = i := nI_clampE (by omega)
      have ev : vp_in (nI i) 104 := by simp (disch := omega) only [nI_lit, nI_add, nI_mulE, nI_clampE, nI_eqE, nI_leE, nI_ltE, vp_nIE, true_and, and_true]; omega
      have cl : ∀ {Q : Int32 → ab_S → Prop} {E' : String → ab_S → Prop}, (∀ w, A.S.va i = some w → Q w σ) → (A.S.va i = none → E' "java/lang/ArithmeticException" σ) → wX11_alone (nI i) Q E' σ := by
        intro Q E' k1 k0
        unfold wX11_alone
        refine c_nMy hC hb ?_
        rw [hcs.2]
        refine c_nIy (by omega) i1 ?_
        have hva : σ.2.2.1 37 i = vL (A.S.va i) := hR.2.2.2.2.2.2.2 i (by omega)
        rw [eci, hva]
        exact ⟨by simp (disch := omega) only [nI_lit, nI_add, nI_mulE, nI_clampE, nI_eqE, nI_leE, nI_ltE, vp_nIE, true_and, and_true]; omega, c_nmb k1 k0⟩
      have ml2 : ∀ σ', MIv σ' A → ∀ Q : Int32 → ab_S → Prop, (vB (A.S.va i) = 0 → Q (vI (A.S.va i)) (ab_I σ' 92 0 (nI 0))) → (¬ vB (A.S.va i) = 0 → Q 0 (ab_I σ' 92 0 (nI 3))) → wX12_alone a Q E σ' := by
        intro σ' hM Q k1 k0
        obtain ⟨h4, hR', hd⟩ := hM.mc hb
        obtain ⟨w1, w2⟩ := hR'.2.2.2.2.1 i (by omega)
        refine ml σ' hM Q ?_
        unfold wX12_alone_j40
        rw [h4, i2]
        refine no (by decide) (m_ixy (by omega) ⟨i, i1, rfl⟩ (no (by decide) ?_))
        unfold wX12_alone_j63
        rw [h4]
        refine yes (by decide) ?_
        unfold wX12_alone_j77
        rw [h4]
        refine no (by decide) (yes (by decide) ?_)
        unfold wX12_alone_j92 wX12_alone_j93
        refine no (by decide) (no (by decide) ?_)
        unfold wX12_alone_j110
        rw [eci, w2]
        refine ⟨ev, ?_⟩
        unfold wX12_alone_j118 wX12_alone_j119
        rw [eci]
        by_cases z : vB (A.S.va i) = 0
        · refine yes z (m_r0 (yes rfl ⟨ev, ?_⟩))
          rw [n920 (by omega), w1]; exact k1 z
        · exact no z (m_r3 (no (by decide) (k0 z)))
      cases hv : A.S.va i with
      | some w =>
        refine ⟨0, w, ⟨by decide, fun Q k => ?_⟩, fun σ' hM Q k => ?_⟩
        · show wL_alone a Q E σ
          unfold wL_alone
          rw [i2]
          refine cl (fun w' hw => ?_) (fun z => by rw [hv] at z; exact nomatch z)
          rw [hv] at hw
          rw [← Option.some.inj hw]
          exact c_ans (FM.rf _ _) k
        · rw [hv] at ml2
          exact ml2 σ' hM Q (fun _ => k _ _ fm920 e920 (fun _ => rfl)) (fun z => absurd rfl z)
      | none =>
        refine ⟨3, 0, ⟨by decide, fun Q k => ?_⟩, fun σ' hM Q k => ?_⟩
        · show wL_alone a Q E σ
          unfold wL_alone
          rw [i2]
          exact cl (fun w' hw => (by rw [hv] at hw; exact (nomatch hw))) (fun z => Or.inr (Or.inr ⟨rfl, k σ (FM.rf _ _) (fun z => absurd z (by decide))⟩))
        · rw [hv] at ml2
          exact ml2 σ' hM Q (fun z => absurd z (by decide)) (fun _ => k _ _ fm920 e920 (fun z => absurd z (by decide)))
    · refine ⟨2, 0, ⟨by decide, fun Q k => ?_⟩, fun σ' hM Q k => ?_⟩
      · show wL_alone a Q E σ
        unfold wL_alone wX11_alone
        refine c_nMy hC hb ?_
        rw [hcs.2]
        exact c_nIn (by omega) e1 (Or.inr (Or.inl ⟨rfl, k σ (FM.rf _ _) (fun z => absurd z (by decide))⟩))
      · obtain ⟨h4, hR', hd⟩ := hM.mc hb
        refine ml σ' hM Q ?_
        unfold wX12_alone_j40
        rw [h4]
        refine no (by decide) (m_ixn (by omega) e1 (yes rfl ?_))
        unfold wX12_alone_j62 wX12_alone_j63
        rw [h4]
        refine yes (by decide) ?_
        unfold wX12_alone_j77
        rw [h4]
        refine no (by decide) (no (fun z => z rfl) ?_)
        unfold wX12_alone_j93 wX12_alone_j118 wX12_alone_j119
        exact yes rfl (m_r2 (no (by decide) (k _ _ fm920 e920 (fun z => absurd z (by decide)))))
theorem q_top (hC : CIv σ A g q x y) (hA : AOK A) : ∃ c v, CAns (fun Q => wL_top a Q E) σ c v ∧ ∀ σ', MIv σ' A → MAns (fun Q => wX12_top a Q E) σ' c v := by
  cases hb : A.hb with
  | false =>
    refine ⟨1, 0, ⟨by decide, fun Q k => ?_⟩, fun σ' hM Q k => ?_⟩
    · show wL_top a Q E σ
      unfold wL_top wX11_top
      exact c_nMn hC hb (Or.inl ⟨rfl, k σ (FM.rf _ _) (fun z => absurd z (by decide))⟩)
    · have h4 := hM.2.2.1.2.2
      rw [hb] at h4
      show wX12_top a Q E σ'
      unfold wX12_top wX12_top_j25 wX12_top_j26 wX12_top_j40 wX12_top_j55 wX12_top_j56 wX12_top_j88 wX12_top_j89
      rw [h4]
      exact yes rfl (no (fun z => z rfl) (yes rfl (yes rfl (m_r1 (no (by decide) (k _ _ fm920 e920 (fun z => absurd z (by decide))))))))
  | true =>
    have ht := hA.ht hb
    have hg := hA.hg ht
    obtain ⟨o1, o2, o3, o4⟩ := hA.1 hg
    have hT := (hA.2.1 ht).2
    obtain ⟨bd1, bd2⟩ := (hA.2.2 hb).2.bd o3 hT
    obtain ⟨_, hR, h13⟩ := hC.2.2.2.2.2.2.2 hb
    obtain ⟨r1, r2, r3, r4, r5, r6, r7, r8⟩ := hR
    by_cases e1 : isIx a A.S.vs.length
    · obtain ⟨i, i1, i2⟩ := e1
      have es : nI A.S.vs.length - (1 : Int32) - nI i = nI (A.S.vs.length - 1 - i) := by
        rw [show nI A.S.vs.length - (1 : Int32) = nI (A.S.vs.length - 1) by show _ - nI 1 = _; rw [nI_subE (by omega)], nI_subE (by omega)]
      have ecs : (nI (A.S.vs.length - 1 - i)).toNatClampNeg = A.S.vs.length - 1 - i := nI_clampE (by omega)
      have ev : vp_in (nI (A.S.vs.length - 1 - i)) 3000 := by simp (disch := omega) only [nI_lit, nI_add, nI_mulE, nI_clampE, nI_eqE, nI_leE, nI_ltE, vp_nIE, true_and, and_true]; omega
      have cl : ∀ {Q : Int32 → ab_S → Prop} {E' : String → ab_S → Prop}, (∀ w, A.S.vs.getD i none = some w → Q w σ) → (A.S.vs.getD i none = none → E' "java/lang/ArithmeticException" σ) → wX11_top (nI i) Q E' σ := by
        intro Q E' k1 k0
        unfold wX11_top
        refine c_nMy hC hb ?_
        rw [r3]
        refine c_nIy (by omega) i1 ?_
        have hst : σ.2.2.1 38 (A.S.vs.length - 1 - i) = vL (A.S.vs.getD i none) := r5.at i i1
        rw [r3, es, ecs, hst]
        exact ⟨by simp (disch := omega) only [nI_lit, nI_add, nI_mulE, nI_clampE, nI_eqE, nI_leE, nI_ltE, vp_nIE, true_and, and_true]; omega, c_nmb k1 k0⟩
      have ml : ∀ σ', MIv σ' A → ∀ Q : Int32 → ab_S → Prop, (vB (A.S.vs.getD i none) = 0 → Q (vI (A.S.vs.getD i none)) (ab_I σ' 92 0 (nI 0))) → (¬ vB (A.S.vs.getD i none) = 0 → Q 0 (ab_I σ' 92 0 (nI 3))) → wX12_top (nI i) Q E σ' := by
        intro σ' hM Q k1 k0
        obtain ⟨h4, hR', hd⟩ := hM.mc hb
        obtain ⟨s1, s2, s3, s4, s5, s6⟩ := hR'
        obtain ⟨w1, w2⟩ := s4.2.at i i1
        unfold wX12_top
        rw [h4, s4.1]
        refine no (by decide) (m_ixy (by omega) ⟨i, i1, rfl⟩ (no (by decide) ?_))
        unfold wX12_top_j26
        rw [h4]
        refine yes (by decide) ?_
        unfold wX12_top_j40
        rw [h4]
        refine no (by decide) (yes (by decide) ?_)
        unfold wX12_top_j55 wX12_top_j56
        refine no (by decide) (no (by decide) ?_)
        unfold wX12_top_j80
        rw [s4.1, es, ecs, w2]
        refine ⟨ev, ?_⟩
        unfold wX12_top_j88 wX12_top_j89
        by_cases z : vB (A.S.vs.getD i none) = 0
        · refine yes z (m_r0 (yes rfl ?_))
          rw [n920 (by omega), s4.1, es, ecs, n920 (by omega), w1]
          exact ⟨ev, k1 z⟩
        · exact no z (m_r3 (no (by decide) (k0 z)))
      cases hv : A.S.vs.getD i none with
      | some w =>
        refine ⟨0, w, ⟨by decide, fun Q k => ?_⟩, fun σ' hM Q k => ?_⟩
        · show wL_top a Q E σ
          unfold wL_top
          rw [i2]
          refine cl (fun w' hw => ?_) (fun z => by rw [hv] at z; exact nomatch z)
          rw [hv] at hw
          rw [← Option.some.inj hw]
          exact c_ans (FM.rf _ _) k
        · show wX12_top a Q E σ'
          rw [i2]
          rw [hv] at ml
          exact ml σ' hM Q (fun _ => k _ _ fm920 e920 (fun _ => rfl)) (fun z => absurd rfl z)
      | none =>
        refine ⟨3, 0, ⟨by decide, fun Q k => ?_⟩, fun σ' hM Q k => ?_⟩
        · show wL_top a Q E σ
          unfold wL_top
          rw [i2]
          exact cl (fun w' hw => (by rw [hv] at hw; exact (nomatch hw))) (fun z => Or.inr (Or.inr ⟨rfl, k σ (FM.rf _ _) (fun z => absurd z (by decide))⟩))
        · show wX12_top a Q E σ'
          rw [i2]
          rw [hv] at ml
          exact ml σ' hM Q (fun z => absurd z (by decide)) (fun _ => k _ _ fm920 e920 (fun z => absurd z (by decide)))
    · refine ⟨2, 0, ⟨by decide, fun Q k => ?_⟩, fun σ' hM Q k => ?_⟩
      · show wL_top a Q E σ
        unfold wL_top wX11_top
        refine c_nMy hC hb ?_
        rw [r3]
        exact c_nIn (by omega) e1 (Or.inr (Or.inl ⟨rfl, k σ (FM.rf _ _) (fun z => absurd z (by decide))⟩))
      · obtain ⟨h4, hR', hd⟩ := hM.mc hb
        have s4 := hR'.2.2.2.1
        show wX12_top a Q E σ'
        unfold wX12_top
        rw [h4, s4.1]
        refine no (by decide) (m_ixn (by omega) e1 (yes rfl ?_))
        unfold wX12_top_j25 wX12_top_j26
        rw [h4]
        refine yes (by decide) ?_
        unfold wX12_top_j40
        rw [h4]
        refine no (by decide) (no (fun z => z rfl) ?_)
        unfold wX12_top_j56 wX12_top_j88 wX12_top_j89
        exact yes rfl (m_r2 (no (by decide) (k _ _ fm920 e920 (fun z => absurd z (by decide)))))
end QX
