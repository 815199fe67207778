section QX
variable {σ τ : ab_S} {A : AST} {g q x y M : Nat} {a b d : Int32} {E : String → ab_S → Prop} {F : Nat → Nat → Bool} {Γ : GRT} {T T' : TST}
theorem CSt.lv {b : Bool} (h : CSt σ M g x Γ T b) (hV : GRV Γ) (f : FM F σ τ) (e : ∀ a i, (a = M ∧ i ≤ 3) ∨ (23 ≤ a ∧ a ≤ 27) ∨ (g ≤ a ∧ a ≤ g + 17) → F a i = false) (hT : CTr τ x T') : CSt τ M g x Γ T' b := by
  obtain ⟨h1, h2, h3, h4, h5, h6, h7, h8, h9⟩ := h
  exact ⟨by rw [f.2.2 _ _ (e _ _ (by omega))]; exact h1, by rw [f.2.2 _ _ (e _ _ (by omega))]; exact h2, h3, h4, by rw [f.1 _ _ (e _ _ (by omega))]; exact h5, h6.fm f (fun a i q1 q2 => e _ _ (by omega)), hT, h8.fm hV f (fun k i hk => e _ _ (by omega)), h9.fm f (fun a i q1 q2 => e _ _ (by omega))⟩
theorem CTr.ch {n : Nat} (h : CTr σ x T) : CTr (ab_I σ (x + 3) n a) x (tLv T (uf T.li n a)) := by
  refine ⟨by rw [gI_o (by omega)]; exact h.1, fun k hk => ?_⟩
  obtain ⟨h1, h2, h3, h4, h5⟩ := h.2 k hk
  refine ⟨by rw [gI_o (by omega)]; exact h1, by rw [gI_o (by omega)]; exact h2, ?_, by rw [gI_o (by omega)]; exact h4, fun o ho => by rw [gI_o (by omega)]; exact h5 o ho⟩
  rw [gI_s]
  show _ = uf T.li n a k
  unfold uf
  by_cases e : k = n
  · rw [if_pos e, if_pos e]
  · rw [if_neg e, if_neg e]; exact h3
theorem MTt.ch {n : Nat} (h : MTt σ Γ T) : MTt (ab_I σ 131 n a) Γ (tLv T (uf T.li n a)) := by
  refine ⟨by rw [gI_o (by omega)]; exact h.1, fun k hk => ?_⟩
  obtain ⟨h1, h2, h3, h4, h5⟩ := h.2 k hk
  refine ⟨by rw [gI_o (by omega)]; exact h1, by rw [gI_o (by omega)]; exact h2, by rw [gI_o (by omega)]; exact h3, ?_, fun o ho1 ho => by rw [gI_o (by omega)]; exact h5 o ho1 ho⟩
  rw [gI_s]
  show _ = uf T.li n a k
  unfold uf
  by_cases e : k = n
  · rw [if_pos e, if_pos e]
  · rw [if_neg e, if_neg e]; exact h4
theorem c_cp42 {vl : Nat → Nat → VL8} (h : CVl σ vl) : ab_cpy (0 : Int32) (0 : Int32) (nI 2000) 2000 2000 ∧ FM (fun a _ => decide (a = 42)) σ (ab_cpL σ 29 42 (0 : Int32).toNatClampNeg (0 : Int32).toNatClampNeg (nI 2000).toNatClampNeg) ∧ ∀ m a, m < 250 → a < 8 → (ab_cpL σ 29 42 (0 : Int32).toNatClampNeg (0 : Int32).toNatClampNeg (nI 2000).toNatClampNeg).2.2.1 42 (m * 8 + a) = vL (vl m a) := by
  have e0 : (0 : Int32).toNatClampNeg = 0 := by decide
  refine ⟨?_, ?_⟩
  · unfold ab_cpy
    rw [nI_clampE (by omega), e0]
    exact ⟨⟨by decide, by decide, nI_pos (by omega)⟩, by omega, by omega⟩
  · rw [nI_clampE (by omega), e0]
    refine ⟨⟨fun a i _ => rfl, fun a i z => ?_, fun a i _ => rfl⟩, fun m a hm ha => ?_⟩
    · have z := of_decide_eq_false z
      show (if a = 42 then _ else σ.2.2.1 a i) = _
      rw [if_neg z]
    · show (if 42 = 42 then va_cpy (σ.2.2.1 29) (σ.2.2.1 42) 0 0 2000 (m * 8 + a) else σ.2.2.1 42 (m * 8 + a)) = _
      rw [if_pos rfl]
      unfold va_cpy
      rw [if_pos (by omega), show 0 + (m * 8 + a - 0) = m * 8 + a by omega]
      exact h m a hm ha
theorem cDf_8 (hG : GOK Γ) (hT : TOK Γ T) (li : Nat → Int32) : ∀ m, m < T.N → cDf (val Γ T) (val Γ (tLv T li)) m 8 = cDf (val Γ T) (val Γ (tLv T li)) m (Γ.1.2.2.1 (hdS Γ (T.pr m))) := by
  intro m hm
  have hV := hG.1
  have hp := (hT.2.2 m hm).1.1
  have hs : hdS Γ (T.pr m) < Γ.1.1 := (hV.2.2.2 _ hp).2.1.2.1 0 (Nat.zero_le _)
  have h8 := (hV.1.2.2 _ hs).2.1
  have H := cDf_z (vl := val Γ T) (vl' := val Γ (tLv T li)) (m := m) (c := Γ.1.2.2.1 (hdS Γ (T.pr m))) (fun i hi => ?_) (8 - Γ.1.2.2.1 (hdS Γ (T.pr m)))
  · rw [show Γ.1.2.2.1 (hdS Γ (T.pr m)) + (8 - Γ.1.2.2.1 (hdS Γ (T.pr m))) = 8 by omega] at H
    exact H
  · rw [val_z hG hT m i (fun z => absurd z.2 (by omega)), val_z hG (hT.lv li) m i (fun z => absurd z.2 (Nat.not_lt.mpr hi))]
theorem u_chg (hC : CIv σ A g q x y) (hA : AOK A) : ∃ A' c v, AOK A' ∧ CDo (fun Q => wL_change a b Q E) σ c v A' ∧ ∀ σ', MIv σ' A → MDo (fun Q => wX12_change a b Q E) σ' c v A' := by
  have h13 := hC.2.2.1.2.2.1
  have hxT := hC.2.1.2.2.2.1
  have hgb := isG_b hC.2.1.1
  have hxb := isT_b hxT
  cases ht : A.ht with
  | false =>
    refine ⟨A, 1, 0, hA, ⟨by decide, fun Q k => ?_⟩, fun σ' hM Q k => ?_⟩
    · show wL_change a b Q E σ
      unfold wL_change wX11_change
      exact c_nTn hC ht (Or.inl ⟨rfl, k σ (FM.rf _ _) ⟨g, q, x, y, hC⟩ (fun z => absurd z (by decide))⟩)
    · have h4 := hM.2.2.1.2.1
      rw [ht] at h4
      show wX12_change a b Q E σ'
      unfold wX12_change wX12_change_j19 wX12_change_j20 wX12_change_j34 wX12_change_j49 wX12_change_j50 wX12_change_j80 wX12_change_j81
      rw [h4]
      exact yes rfl (no (fun z => z rfl) (yes rfl (yes rfl (m_r1 (no (by decide) (k _ _ fmMdl0 (hM.z0 hA) e920 (fun z => absurd z (by decide))))))))
  | true =>
    have hg := hA.hg ht
    obtain ⟨o1, o2, o3, o4⟩ := hA.1 hg
    have hV := o3.1
    have h30 := hV.2.1
    have hT := (hA.2.1 ht).2
    have hN := hT.2.1
    obtain ⟨hTr, hVl⟩ := hC.2.2.2.2.2.2.1 ht
    by_cases e1 : isIx a A.T.N
    · obtain ⟨n, n1, n2⟩ := e1
      have ecn : (nI n).toNatClampNeg = n := nI_clampE (by omega)
      have ev : vp_in (nI n) 250 := by simp (disch := omega) only [nI_lit, nI_add, nI_mulE, nI_clampE, nI_eqE, nI_leE, nI_ltE, vp_nIE, true_and, and_true]; omega
      have ev2 : vp_in (nI n) 251 := by simp (disch := omega) only [nI_lit, nI_add, nI_mulE, nI_clampE, nI_eqE, nI_leE, nI_ltE, vp_nIE, true_and, and_true]; omega
      have hp := (hT.2.2 n n1).1.1
      have ecp : (nI (A.T.pr n)).toNatClampNeg = A.T.pr n := nI_clampE (by omega)
      have evp : vp_in (nI (A.T.pr n)) 30 := by simp (disch := omega) only [nI_lit, nI_add, nI_mulE, nI_clampE, nI_eqE, nI_leE, nI_ltE, vp_nIE, true_and, and_true]; omega
      have evp2 : vp_in (nI (A.T.pr n)) 31 := by simp (disch := omega) only [nI_lit, nI_add, nI_mulE, nI_clampE, nI_eqE, nI_leE, nI_ltE, vp_nIE, true_and, and_true]; omega
      have hlc : σ.2.1 (g + 8) (A.T.pr n) = if (A.G.2.2.1 (A.T.pr n)).2.2.2.1 then 1 else 0 := ((hC.2.2.2.2.2.1 hg).1.1.1.2.2.1.2.2.2 _ hp).2.2.2.1
      have t1 := (hTr.2 n n1).1
      have cl : ∀ {Q : Int32 → ab_S → Prop} {E' : String → ab_S → Prop}, ((A.G.2.2.1 (A.T.pr n)).2.2.2.1 = true → ab_cpy (0 : Int32) (0 : Int32) (nI 2000) 2000 2000 ∧ (∀ σ5 : ab_S, σ5 = ab_cpL σ 29 42 (0 : Int32).toNatClampNeg (0 : Int32).toNatClampNeg (nI 2000).toNatClampNeg → ∃ q6, σ5.2.2.2 0 13 = some q6 ∧ isT q6 ∧ (vp_in (nI n) 250 ∧ (∀ σ7 : ab_S, σ7 = ab_I σ5 (q6 + 3) n b → wX11_evaluate (fun σ8 => wX11_countChanged (fun u10 σ9 => Q u10 σ9) E' σ8) E' σ7)))) → ((A.G.2.2.1 (A.T.pr n)).2.2.2.1 = false → E' "java/lang/IllegalArgumentException" σ) → wX11_change (nI n) b Q E' σ := by
        intro Q E' k1 k0
        unfold wX11_change
        refine c_nTy hC ht (c_nNy hC hA ht n1 ⟨g, hC.2.2.1.1, hC.2.1.1, x, h13, hxT, ev, ?_⟩)
        rw [ecn, t1, ecp, hlc]
        refine ⟨evp, ?_⟩
        cases hl : (A.G.2.2.1 (A.T.pr n)).2.2.2.1 with
        | true => exact yes (by decide) (k1 hl)
        | false => exact no (fun z => z rfl) (k0 hl)
      have ml : ∀ σ', MIv σ' A → ∀ Q : Int32 → ab_S → Prop, ((A.G.2.2.1 (A.T.pr n)).2.2.2.1 = true → ∃ m, wX12_change_l92 (nI n) b Q E (wX12_change_j134 (nI n) b Q E) m (0 : Int32) (ab_I σ' 92 0 (nI 0))) → ((A.G.2.2.1 (A.T.pr n)).2.2.2.1 = false → Q 0 (ab_I σ' 92 0 (nI 3))) → wX12_change (nI n) b Q E σ' := by
        intro σ' hM Q k1 k0
        obtain ⟨h4, hG, hTt, _⟩ := hM.tr hA ht
        have hlm : σ'.2.1 102 (A.T.pr n) = if (A.G.2.2.1 (A.T.pr n)).2.2.2.1 then 1 else 0 := (hG.1.1.1.2.2.2 _ hp).2.2.2.1
        unfold wX12_change
        rw [h4]
        refine no (by decide) (m_iN hTt hT (fun _ => no (by decide) ?_) (fun z => absurd ⟨n, n1, rfl⟩ z))
        unfold wX12_change_j20
        rw [h4]
        refine yes (by decide) ?_
        unfold wX12_change_j34
        rw [h4]
        refine no (by decide) (yes (by decide) ?_)
        unfold wX12_change_j49 wX12_change_j50
        refine no (by decide) (no (by decide) ?_)
        unfold wX12_change_j71
        rw [ecn, (hTt.2 n n1).1, ecp, hlm]
        refine ⟨ev2, evp2, ?_⟩
        unfold wX12_change_j80 wX12_change_j81
        cases hl : (A.G.2.2.1 (A.T.pr n)).2.2.2.1 with
        | true => exact yes (by decide) (m_r0 (yes rfl (k1 hl)))
        | false => exact no (fun z => z rfl) (m_r3 (no (by decide) (k0 hl)))
      cases hl : (A.G.2.2.1 (A.T.pr n)).2.2.2.1 with
      | false =>
        refine ⟨A, 3, 0, hA, ⟨by decide, fun Q k => ?_⟩, fun σ' hM Q k => ?_⟩
        · show wL_change a b Q E σ
          unfold wL_change
          rw [n2]
          exact cl (fun z => by rw [hl] at z; exact absurd z (by decide)) (fun _ => Or.inr (Or.inr ⟨rfl, k σ (FM.rf _ _) ⟨g, q, x, y, hC⟩ (fun z => absurd z (by decide))⟩))
        · show wX12_change a b Q E σ'
          rw [n2]
          exact ml σ' hM Q (fun z => by rw [hl] at z; exact absurd z (by decide)) (fun _ => k _ _ fmMdl0 (hM.z0 hA) e920 (fun z => absurd z (by decide)))
      | true =>
        have hT' : TOK A.G (tLv A.T (uf A.T.li n b)) := hT.lv _
        have hA' : AOK (A.1, A.2.1, (true, tLv A.T (uf A.T.li n b)), A.2.2.2) := ⟨hA.1, fun _ => ⟨hg, hT'⟩, fun z => ⟨rfl, (hA.2.2 z).2.lv _⟩⟩
        have eN : sumF (fun m => cDf (val A.G A.T) (val A.G (tLv A.T (uf A.T.li n b))) m 8) A.T.N = sumF (fun m => cDf (val A.G A.T) (val A.G (tLv A.T (uf A.T.li n b))) m (A.G.1.2.2.1 (hdS A.G (A.T.pr m)))) A.T.N := sumF_cg _ (cDf_8 o3 hT _)
        refine ⟨(A.1, A.2.1, (true, tLv A.T (uf A.T.li n b)), A.2.2.2), 0, nI (sumF (fun m => cDf (val A.G A.T) (val A.G (tLv A.T (uf A.T.li n b))) m 8) A.T.N), hA', ⟨by decide, fun Q k => ?_⟩, fun σ' hM Q k => ?_⟩
        · show wL_change a b Q E σ
          unfold wL_change
          rw [n2]
          refine cl (fun _ => ?_) (fun z => by rw [hl] at z; exact absurd z (by decide))
          obtain ⟨p1, p2, p3⟩ := c_cp42 hVl
          refine ⟨p1, fe ?_⟩
          generalize ab_cpL σ 29 42 (0 : Int32).toNatClampNeg (0 : Int32).toNatClampNeg (nI 2000).toNatClampNeg = τ1 at *
          have C1 := hC.fm hA p2 (fun a i z1 z2 => decide_eq_false (by omega))
          obtain ⟨h1, h2, ⟨r1, r2, r3, r4⟩, ⟨f1, f2, f3⟩, ⟨m1, m2⟩, h6, h7, h8⟩ := C1
          refine ⟨x, r3, hxT, ev, fe ?_⟩
          have hTr2 : CTr (ab_I τ1 (x + 3) n b) x (tLv A.T (uf A.T.li n b)) := (h7 ht).1.ch
          have F2 : FM (fun a i => decide (a = x + 3)) τ1 (ab_I τ1 (x + 3) n b) := (FM.rf _ _).I (decide_eq_true rfl)
          generalize ab_I τ1 (x + 3) n b = τ2 at *
          have W2 : CWh τ2 g A.G := (h6 hg).fm hV F2 (fun a i _ => decide_eq_false (by omega))
          refine c_eval o3 hT' h2.1 hxT (by rw [F2.2.2 _ _ (decide_eq_false (by omega))]; exact r1) (by rw [F2.2.2 _ _ (decide_eq_false (by omega))]; exact r3) (by rw [F2.1 _ _ (decide_eq_false (by omega))]; exact m1) W2.2.1 hTr2 W2.1.1.1.2.2.1 W2.1.1.1.2.2.2 (fun τ3 F3 hVl3 => ?_)
          have F23 : FM (fun a i => decide (a = x + 3 ∨ (a = 28 ∧ (i = 2 ∨ i = 3 ∨ (10 ≤ i ∧ i ≤ 13))) ∨ (29 ≤ a ∧ a ≤ 34))) τ1 τ3 := (F2.mono (fun a i y => by have y := of_decide_eq_false y; exact decide_eq_false (by omega))).tr (F3.mono (fun a i y => by have y := of_decide_eq_false y; exact decide_eq_false (by omega)))
          have hTr3 := hTr2.fm F3 (fun a i _ _ => decide_eq_false (by omega))
          have C3 : CIv τ3 (A.1, A.2.1, (true, tLv A.T (uf A.T.li n b)), A.2.2.2) g q x y := by
            refine ⟨h1.fm F23 (fun a i _ => decide_eq_false (by omega)), h2, ⟨by rw [F23.2.2 _ _ (decide_eq_false (by omega))]; exact r1, by rw [F23.2.2 _ _ (decide_eq_false (by omega))]; exact r2, by rw [F23.2.2 _ _ (decide_eq_false (by omega))]; exact r3, by rw [F23.2.2 _ _ (decide_eq_false (by omega))]; exact r4⟩, ⟨by rw [F23.1 _ _ (decide_eq_false (by omega))]; exact f1, by rw [F23.1 _ _ (decide_eq_false (by omega))]; exact f2.trans (congrArg bI ht), by rw [F23.1 _ _ (decide_eq_false (by omega))]; exact f3⟩, ⟨by rw [F23.1 _ _ (decide_eq_false (by omega))]; exact m1, by rw [F23.1 _ _ (decide_eq_false (by omega))]; exact m2⟩, fun z => (h6 z).fm hV F23 (fun a i _ => decide_eq_false (by omega)), fun _ => ⟨hTr3, hVl3⟩, fun z => ⟨(h8 z).1.lv hV F23 (fun a i _ => decide_eq_false (by omega)) hTr3, (h8 z).2.1.fmA F23 (fun a i _ => decide_eq_false (by omega)), by rw [F23.1 _ _ (decide_eq_false (by omega))]; exact (h8 z).2.2⟩⟩
          refine c_cCh (vl := val A.G A.T) C3 hA' rfl (fun m a hm ha => by rw [F23.2.1 _ _ (decide_eq_false (by omega))]; exact p3 m a hm ha) ?_
          have F13 : FM Cls σ τ3 := (p2.mono (fun a i y => by have y := of_decide_eq_false y; exact decide_eq_false (by omega))).tr (F23.mono (fun a i y => by have y := of_decide_eq_false y; exact decide_eq_false (by omega)))
          rw [eN] at k
          exact c_ans3 hA' F13 C3 k
        · show wX12_change a b Q E σ'
          rw [n2]
          refine ml σ' hM Q (fun _ => ?_) (fun z => by rw [hl] at z; exact absurd z (by decide))
          have M1 := hM.z0 (y := nI 0) hA
          obtain ⟨_, hG, hTt, hMV⟩ := M1.tr hA ht
          refine m_cpO hMV (fun τ1 F1 h2 => ?_)
          unfold wX12_change_j134
          refine ⟨ev2, fe ?_⟩
          rw [ecn]
          have hTt2 : MTt (ab_I τ1 131 n b) A.G (tLv A.T (uf A.T.li n b)) := (hTt.fm F1 (decide_eq_false (by omega)) (fun a i _ _ => decide_eq_false (by omega))).ch
          have F2 : FM (fun a i => decide (a = 131)) τ1 (ab_I τ1 131 n b) := (FM.rf _ _).I (decide_eq_true rfl)
          generalize ab_I τ1 131 n b = τ2 at *
          have F12 : FM (fun a i => decide (a = 131 ∨ a = 142 ∨ a = 143)) (ab_I σ' 92 0 (nI 0)) τ2 := (F1.mono (fun a i y => by have y := of_decide_eq_false y; exact decide_eq_false (by omega))).tr (F2.mono (fun a i y => by have y := of_decide_eq_false y; exact decide_eq_false (by omega)))
          have W2 : MWh τ2 A.G := hG.fm hV F12 (fun a i _ => decide_eq_false (by omega))
          refine m_eval W2.1.1 hTt2 hV hT' (val_ev o3 o4 hT') (val_z o3 hT') (fun τ3 F3 hVl3 => ?_)
          have F13 : FM (fun a i => decide (a = 131 ∨ (139 ≤ a ∧ a ≤ 145))) (ab_I σ' 92 0 (nI 0)) τ3 := (F12.mono (fun a i y => by have y := of_decide_eq_false y; exact decide_eq_false (by omega))).tr (F3.mono (fun a i y => by have y := of_decide_eq_false y; exact decide_eq_false (by omega)))
          have hTt3 := hTt2.fm F3 (decide_eq_false (by omega)) (fun a i _ _ => decide_eq_false (by omega))
          refine m_cCh (vl := val A.G A.T) hN hTt3.1 hVl3 (fun k hk a ha => by rw [F3.1 _ _ (decide_eq_false (by omega)), F3.1 _ _ (decide_eq_false (by omega)), F2.1 _ _ (decide_eq_false (by omega)), F2.1 _ _ (decide_eq_false (by omega))]; exact h2 k hk a ha) ?_
          obtain ⟨h1, h2, ⟨f1, f2, f3⟩, h4, h5, h6⟩ := M1
          exact k τ3 _ (fmMdl0.tr (F13.mono (fun a i y => by have y := of_decide_eq_false y; exact decide_eq_false (by omega)))) ⟨h1.fm F13 (decide_eq_false (by omega)) (fun i => decide_eq_false (by omega)), h2.fm F13 (fun i => decide_eq_false (by omega)), ⟨by rw [F13.1 _ _ (decide_eq_false (by omega))]; exact f1, by rw [F13.1 _ _ (decide_eq_false (by omega))]; exact f2.trans (congrArg bI ht), by rw [F13.1 _ _ (decide_eq_false (by omega))]; exact f3⟩, fun z => ⟨(h4 z).1.fm F13 (decide_eq_false (by omega)) (fun i => decide_eq_false (by omega)), (h4 z).2.fm (hA.gV z) F13 (fun a i _ => decide_eq_false (by omega))⟩, fun _ => ⟨hTt3, hVl3⟩, fun z => ⟨(h6 z).1.fm F13 (fun a i _ => decide_eq_false (by omega)), by rw [F13.1 _ _ (decide_eq_false (by omega))]; exact (h6 z).2⟩⟩ (by rw [F13.1 _ _ (decide_eq_false (by omega))]; exact e920) (fun _ => rfl)
    · refine ⟨A, 2, 0, hA, ⟨by decide, fun Q k => ?_⟩, fun σ' hM Q k => ?_⟩
      · show wL_change a b Q E σ
        unfold wL_change wX11_change
        exact c_nTy hC ht (c_nNn hC hA ht e1 (Or.inr (Or.inl ⟨rfl, k σ (FM.rf _ _) ⟨g, q, x, y, hC⟩ (fun z => absurd z (by decide))⟩)))
      · obtain ⟨h4, hG, hTt, _⟩ := hM.tr hA ht
        show wX12_change a b Q E σ'
        unfold wX12_change wX12_change_j19
        rw [h4]
        refine no (by decide) (m_iN hTt hT (fun z => absurd z e1) (fun _ => yes rfl ?_))
        unfold wX12_change_j20
        rw [h4]
        refine yes (by decide) ?_
        unfold wX12_change_j34
        rw [h4]
        refine no (by decide) (no (fun z => z rfl) ?_)
        unfold wX12_change_j50 wX12_change_j80 wX12_change_j81
        exact yes rfl (m_r2 (no (by decide) (k _ _ fmMdl0 (hM.z0 hA) e920 (fun z => absurd z (by decide)))))
end QX
