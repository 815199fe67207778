/-! ===== value, held ===== -/
section QX
variable {σ : ab_S} {A : AST} {g q x y : Nat} {a b d : Int32} {E : String → ab_S → Prop}
theorem c_nmb {v : VL8} {Q : Int32 → ab_S → Prop} (k1 : ∀ w, v = some w → Q w σ) (k0 : v = none → E "java/lang/ArithmeticException" σ) : wX11_number (vL v) Q E σ := by
  unfold wX11_number
  cases v with
  | none => exact no (fun z => z ((lgc0 _ _).mpr rfl)) (k0 rfl)
  | some w =>
    refine yes (fun z => vL_ne w ((lgc0 _ _).mp z)) ?_
    have : (vL (some w)).toInt32 = w := Int32.toInt32_toInt64 w
    rw [this]; exact k1 w rfl
def isNA (Γ : GRT) (T : TST) (a b : Int32) : Prop := ∃ n, n < T.N ∧ a = nI n ∧ isIx b (Γ.1.2.2.1 (hdS Γ (T.pr n)))
theorem c_NAy {n i : Nat} {Q : ab_S → Prop} (hC : CIv σ A g q x y) (hA : AOK A) (ht : A.ht = true) (h : n < A.T.N) (hi : i < A.G.1.2.2.1 (hdS A.G (A.T.pr n))) (k : Q σ) : wX11_needNodeAttribute (nI n) (nI i) Q E σ := by
  have hg := hA.hg ht
  have hV := hA.gV hg
  have h12 := hV.1.1
  have hp := ((hA.2.1 ht).2.2.2 n h).1.1
  have hs : hdS A.G (A.T.pr n) < A.G.1.1 := (hV.2.2.2 _ hp).2.1.2.1 0 (Nat.zero_le _)
  have h8 := (hV.1.2.2 _ hs).2.1
  unfold wX11_needNodeAttribute
  refine c_nNy hC hA ht h ⟨g, hC.2.2.1.1, hC.2.1.1, c_syO hC hA ht h ⟨by simp (disch := omega) only [nI_lit, nI_add, nI_mulE, nI_clampE, nI_eqE, nI_leE, nI_ltE, vp_nIE, true_and, and_true]; omega, ?_⟩⟩
  rw [nI_clampE (show hdS A.G (A.T.pr n) < 2147483648 by omega), ((hC.2.2.2.2.2.1 hg).1.1.1.2.2.1.1.2 _ hs).2.1]
  exact c_nIy (by omega) hi k
theorem c_NAn {Q : ab_S → Prop} (hC : CIv σ A g q x y) (hA : AOK A) (ht : A.ht = true) (h : ¬ isNA A.G A.T a b) (k : E "java/lang/IndexOutOfBoundsException" σ) : wX11_needNodeAttribute a b Q E σ := by
  have hg := hA.hg ht
  have hV := hA.gV hg
  have h12 := hV.1.1
  unfold wX11_needNodeAttribute
  by_cases e : isIx a A.T.N
  · obtain ⟨n, n1, n2⟩ := e
    have hp := ((hA.2.1 ht).2.2.2 n n1).1.1
    have hs : hdS A.G (A.T.pr n) < A.G.1.1 := (hV.2.2.2 _ hp).2.1.2.1 0 (Nat.zero_le _)
    have h8 := (hV.1.2.2 _ hs).2.1
    have eb : ¬ isIx b (A.G.1.2.2.1 (hdS A.G (A.T.pr n))) := fun z => h ⟨n, n1, n2, z⟩
    rw [n2]
    refine c_nNy hC hA ht n1 ⟨g, hC.2.2.1.1, hC.2.1.1, c_syO hC hA ht n1 ⟨by simp (disch := omega) only [nI_lit, nI_add, nI_mulE, nI_clampE, nI_eqE, nI_leE, nI_ltE, vp_nIE, true_and, and_true]; omega, ?_⟩⟩
    rw [nI_clampE (show hdS A.G (A.T.pr n) < 2147483648 by omega), ((hC.2.2.2.2.2.1 hg).1.1.1.2.2.1.1.2 _ hs).2.1]
    exact c_nIn (by omega) eb k
  · exact c_nNn hC hA ht e k
theorem q_val (hC : CIv σ A g q x y) (hA : AOK A) : ∃ c v, CAns (fun Q => wL_value a b Q E) σ c v ∧ ∀ σ', MIv σ' A → MAns (fun Q => wX12_value a b Q E) σ' c v := by
  cases ht : A.ht with
  | false =>
    refine ⟨1, 0, ⟨by decide, fun Q k => ?_⟩, fun σ' hM Q k => ?_⟩
    · show wL_value a b Q E σ
      unfold wL_value wX11_value
      exact c_nTn hC ht (Or.inl ⟨rfl, k σ (FM.rf _ _) (fun z => absurd z (by decide))⟩)
    · have h4 := hM.2.2.1.2.1
      rw [ht] at h4
      show wX12_value a b Q E σ'
      unfold wX12_value wX12_value_j58 wX12_value_j59 wX12_value_j73 wX12_value_j88 wX12_value_j89 wX12_value_j127 wX12_value_j128
      rw [h4]
      exact yes rfl (no (fun z => z rfl) (yes rfl (yes rfl (m_r1 (no (by decide) (k _ _ fm920 e920 (fun z => absurd z (by decide))))))))
  | true =>
    have hg := hA.hg ht
    obtain ⟨o1, o2, o3, o4⟩ := hA.1 hg
    have hV := o3.1
    have h12 := hV.1.1
    have hT := (hA.2.1 ht).2
    have hN := hT.2.1
    have mbad : ∀ σ', MIv σ' A → ∀ Q : Int32 → ab_S → Prop, (∀ τ r, FM S920 σ' τ → τ.2.1 92 0 = nI 2 → (2 = 0 → r = 0) → Q r τ) → wX12_value_j58 a b Q E σ' := by
      intro σ' hM Q k
      obtain ⟨h4, _⟩ := hM.tr hA ht
      unfold wX12_value_j58 wX12_value_j59 wX12_value_j73 wX12_value_j89 wX12_value_j127 wX12_value_j128
      rw [h4]
      exact yes (by decide) (no (by decide) (no (fun z => z rfl) (yes rfl (m_r2 (no (by decide) (k _ _ fm920 e920 (fun z => absurd z (by decide))))))))
    by_cases e1 : isNA A.G A.T a b
    · obtain ⟨n, n1, n2, i, i1, i2⟩ := e1
      have hp := (hT.2.2 n n1).1.1
      have hs : hdS A.G (A.T.pr n) < A.G.1.1 := (hV.2.2.2 _ hp).2.1.2.1 0 (Nat.zero_le _)
      have h8 := (hV.1.2.2 _ hs).2.1
      have ec : nI n * (8 : Int32) + nI i = nI (n * 8 + i) := by show nI n * nI 8 + _ = _; rw [nI_mulE, nI_add]
      have em : (8 : Int32) * nI n + nI i = nI (8 * n + i) := by show nI 8 * nI n + _ = _; rw [nI_mulE, nI_add]
      have ecm : (nI (8 * n + i)).toNatClampNeg = 8 * n + i := nI_clampE (by omega)
      have evm : vp_in (nI (8 * n + i)) 2000 := by simp (disch := omega) only [nI_lit, nI_add, nI_mulE, nI_clampE, nI_eqE, nI_leE, nI_ltE, vp_nIE, true_and, and_true]; omega
      have cl : ∀ {Q : Int32 → ab_S → Prop} {E' : String → ab_S → Prop}, (∀ w, val A.G A.T n i = some w → Q w σ) → (val A.G A.T n i = none → E' "java/lang/ArithmeticException" σ) → wX11_value (nI n) (nI i) Q E' σ := by
        intro Q E' k1 k0
        unfold wX11_value
        refine c_nTy hC ht (c_NAy hC hA ht n1 i1 ?_)
        rw [ec, nI_clampE (show n * 8 + i < 2147483648 by omega), (hC.2.2.2.2.2.2.1 ht).2 n i (by omega) (by omega)]
        exact ⟨by simp (disch := omega) only [nI_lit, nI_add, nI_mulE, nI_clampE, nI_eqE, nI_leE, nI_ltE, vp_nIE, true_and, and_true]; omega, c_nmb k1 k0⟩
      have ml : ∀ σ', MIv σ' A → ∀ Q : Int32 → ab_S → Prop, (vB (val A.G A.T n i) = 0 → Q (vI (val A.G A.T n i)) (ab_I σ' 92 0 (nI 0))) → (¬ vB (val A.G A.T n i) = 0 → Q 0 (ab_I σ' 92 0 (nI 3))) → wX12_value (nI n) (nI i) Q E σ' := by
        intro σ' hM Q k1 k0
        obtain ⟨h4, hG, hTt, hVl⟩ := hM.tr hA ht
        obtain ⟨w1, w2⟩ := hVl n (by omega) i (by omega)
        unfold wX12_value
        rw [h4]
        refine no (by decide) (m_iN hTt hT (fun _ => no (by decide) ?_) (fun z => absurd ⟨n, n1, rfl⟩ z))
        rw [h4]
        refine no (by decide) (m_iN hTt hT (fun _ => no (by decide) ?_) (fun z => absurd ⟨n, n1, rfl⟩ z))
        unfold wX12_value_j42
        refine m_syO hG.1.1.1 hTt hV hT n1 ⟨by simp (disch := omega) only [nI_lit, nI_add, nI_mulE, nI_clampE, nI_eqE, nI_leE, nI_ltE, vp_nIE, true_and, and_true]; omega, ?_⟩
        rw [nI_clampE (show hdS A.G (A.T.pr n) < 2147483648 by omega), (hG.1.1.1.1.2 _ hs).2.1]
        refine m_ixy (by omega) ⟨i, i1, rfl⟩ (no (by decide) ?_)
        unfold wX12_value_j59
        rw [h4]
        refine yes (by decide) ?_
        unfold wX12_value_j73
        rw [h4]
        refine no (by decide) (yes (by decide) ?_)
        unfold wX12_value_j88 wX12_value_j89
        refine no (by decide) (no (by decide) ?_)
        unfold wX12_value_j108
        refine no (by decide) ?_
        unfold wX12_value_j118
        rw [em, ecm, w2]
        refine ⟨evm, ?_⟩
        unfold wX12_value_j127 wX12_value_j128
        rw [em, ecm]
        by_cases z : vB (val A.G A.T n i) = 0
        · refine yes z (m_r0 (yes rfl ⟨evm, ?_⟩))
          rw [n920 (by omega), w1]; exact k1 z
        · exact no z (m_r3 (no (by decide) (k0 z)))
      cases hv : val A.G A.T n i with
      | some w =>
        refine ⟨0, w, ⟨by decide, fun Q k => ?_⟩, fun σ' hM Q k => ?_⟩
        · show wL_value a b Q E σ
          unfold wL_value
          rw [n2, i2]
          refine cl (fun w' hw => ?_) (fun z => by rw [hv] at z; exact nomatch z)
          rw [hv] at hw
          rw [← Option.some.inj hw]
          exact c_ans (FM.rf _ _) k
        · show wX12_value a b Q E σ'
          rw [n2, i2]
          rw [hv] at ml
          exact ml σ' hM Q (fun _ => k _ _ fm920 e920 (fun _ => rfl)) (fun z => absurd rfl z)
      | none =>
        refine ⟨3, 0, ⟨by decide, fun Q k => ?_⟩, fun σ' hM Q k => ?_⟩
        · show wL_value a b Q E σ
          unfold wL_value
          rw [n2, i2]
          refine cl (fun w' hw => by rw [hv] at hw; exact nomatch hw) (fun z => Or.inr (Or.inr ⟨rfl, k σ (FM.rf _ _) (fun z => absurd z (by decide))⟩))
        · show wX12_value a b Q E σ'
          rw [n2, i2]
          rw [hv] at ml
          exact ml σ' hM Q (fun z => absurd z (by decide)) (fun _ => k _ _ fm920 e920 (fun z => absurd z (by decide)))
    · refine ⟨2, 0, ⟨by decide, fun Q k => ?_⟩, fun σ' hM Q k => ?_⟩
      · show wL_value a b Q E σ
        unfold wL_value wX11_value
        exact c_nTy hC ht (c_NAn hC hA ht e1 (Or.inr (Or.inl ⟨rfl, k σ (FM.rf _ _) (fun z => absurd z (by decide))⟩)))
      · obtain ⟨h4, hG, hTt, hVl⟩ := hM.tr hA ht
        have hb := mbad σ' hM Q k
        show wX12_value a b Q E σ'
        unfold wX12_value
        rw [h4]
        refine no (by decide) (m_iN hTt hT (fun z => no (by decide) ?_) (fun z => yes rfl hb))
        rw [h4]
        refine no (by decide) (m_iN hTt hT (fun _ => no (by decide) ?_) (fun z2 => absurd z z2))
        obtain ⟨n, n1, n2⟩ := z
        have hp := (hT.2.2 n n1).1.1
        have hs : hdS A.G (A.T.pr n) < A.G.1.1 := (hV.2.2.2 _ hp).2.1.2.1 0 (Nat.zero_le _)
        have h8 := (hV.1.2.2 _ hs).2.1
        have eb : ¬ isIx b (A.G.1.2.2.1 (hdS A.G (A.T.pr n))) := fun z => e1 ⟨n, n1, n2, z⟩
        rw [n2] at hb ⊢
        unfold wX12_value_j42
        refine m_syO hG.1.1.1 hTt hV hT n1 ⟨by simp (disch := omega) only [nI_lit, nI_add, nI_mulE, nI_clampE, nI_eqE, nI_leE, nI_ltE, vp_nIE, true_and, and_true]; omega, ?_⟩
        rw [nI_clampE (show hdS A.G (A.T.pr n) < 2147483648 by omega), (hG.1.1.1.1.2 _ hs).2.1]
        exact m_ixn (by omega) eb (yes rfl hb)
/-- what the model has when there is a machine -/
theorem MIv.mc (hM : MIv σ A) (hb : A.hb = true) : σ.2.1 92 83 = 1 ∧ RMd σ A.T A.S ∧ σ.2.1 92 85 = nI A.dn := ⟨by rw [hM.2.2.1.2.2, hb]; rfl, (hM.2.2.2.2.2 hb).1, (hM.2.2.2.2.2 hb).2⟩
theorem c_nMn {Q : ab_S → Prop} (hC : CIv σ A g q x y) (hg : A.hb = false) (k : E "java/lang/IllegalStateException" σ) : wX11_needMachine Q E σ := by
  unfold wX11_needMachine
  rw [hC.2.2.2.1.2.2, hg]
  exact no (fun z => z rfl) k
theorem c_nMy {Q : ab_S → Prop} (hC : CIv σ A g q x y) (hg : A.hb = true) (k : Q σ) : wX11_needMachine Q E σ := by
  unfold wX11_needMachine
  rw [hC.2.2.2.1.2.2, hg]
  exact yes (by decide) k
theorem q_hel (hC : CIv σ A g q x y) (hA : AOK A) : ∃ c v, CAns (fun Q => wL_held a b Q E) σ c v ∧ ∀ σ', MIv σ' A → MAns (fun Q => wX12_held a b Q E) σ' c v := by
  have m154 : ∀ {σ' : ab_S} {a b : Int32} {Q : Int32 → ab_S → Prop} (c : Nat), 1 ≤ c → c < 10 → Q 0 (ab_I σ' 92 0 (nI c)) → wX12_held_j154 a b Q E (nI c) σ' := by
    intro σ' a b Q c c1 c2 k
    unfold wX12_held_j154
    refine fe ?_
    rw [e920]
    exact no (by show ¬ _ ≤ nI 0; simp (disch := omega) only [nI_lit, nI_add, nI_mulE, nI_clampE, nI_eqE, nI_leE, nI_ltE, vp_nIE, true_and, and_true]; omega) k
  cases hb : A.hb with
  | false =>
    refine ⟨1, 0, ⟨by decide, fun Q k => ?_⟩, fun σ' hM Q k => ?_⟩
    · show wL_held a b Q E σ
      unfold wL_held wX11_held
      exact c_nMn hC hb (Or.inl ⟨rfl, k σ (FM.rf _ _) (fun z => absurd z (by decide))⟩)
    · have h4 := hM.2.2.1.2.2
      rw [hb] at h4
      show wX12_held a b Q E σ'
      unfold wX12_held wX12_held_j58 wX12_held_j59 wX12_held_j103 wX12_held_j104
      rw [h4]
      exact yes rfl (yes rfl (no (fun z => z rfl) (m154 1 (by omega) (by omega) (k _ _ fm920 e920 (fun z => absurd z (by decide))))))
  | true =>
    have ht := hA.ht hb
    have hg := hA.hg ht
    obtain ⟨o1, o2, o3, o4⟩ := hA.1 hg
    have hV := o3.1
    have h12 := hV.1.1
    have hT := (hA.2.1 ht).2
    have hN := hT.2.1
    have mbad : ∀ σ', MIv σ' A → ∀ Q : Int32 → ab_S → Prop, (∀ τ r, FM S920 σ' τ → τ.2.1 92 0 = nI 2 → (2 = 0 → r = 0) → Q r τ) → wX12_held_j58 a b Q E σ' := by
      intro σ' hM Q k
      obtain ⟨h4, _⟩ := hM.mc hb
      unfold wX12_held_j58 wX12_held_j59 wX12_held_j103 wX12_held_j104
      rw [h4]
      exact yes rfl (yes (by decide) (no (fun z => z rfl) (m154 2 (by omega) (by omega) (k _ _ fm920 e920 (fun z => absurd z (by decide))))))
    by_cases e1 : isNA A.G A.T a b
    · obtain ⟨n, n1, n2, i, i1, i2⟩ := e1
      have hp := (hT.2.2 n n1).1.1
      have hs : hdS A.G (A.T.pr n) < A.G.1.1 := (hV.2.2.2 _ hp).2.1.2.1 0 (Nat.zero_le _)
      have h8 := (hV.1.2.2 _ hs).2.1
      have hst2 := stv_le A.G (hdS A.G (A.T.pr n)) i
      have ec : nI n * (8 : Int32) + nI i = nI (n * 8 + i) := by show nI n * nI 8 + _ = _; rw [nI_mulE, nI_add]
      have ec2 : nI (hdS A.G (A.T.pr n)) * (8 : Int32) + nI i = nI (hdS A.G (A.T.pr n) * 8 + i) := by show nI _ * nI 8 + _ = _; rw [nI_mulE, nI_add]
      have em : (8 : Int32) * nI n + nI i = nI (8 * n + i) := by show nI 8 * nI n + _ = _; rw [nI_mulE, nI_add]
      have em2 : (8 : Int32) * nI (hdS A.G (A.T.pr n)) + nI i = nI (8 * hdS A.G (A.T.pr n) + i) := by show nI 8 * nI _ + _ = _; rw [nI_mulE, nI_add]
      have ecm : (nI (8 * n + i)).toNatClampNeg = 8 * n + i := nI_clampE (by omega)
      have evm : vp_in (nI (8 * n + i)) 2008 := by simp (disch := omega) only [nI_lit, nI_add, nI_mulE, nI_clampE, nI_eqE, nI_leE, nI_ltE, vp_nIE, true_and, and_true]; omega
      have cl : ∀ {Q : Int32 → ab_S → Prop} {E' : String → ab_S → Prop}, (stv A.G (hdS A.G (A.T.pr n)) i = 2 → (∀ w, A.S.kp n i = some w → Q w σ) ∧ (A.S.kp n i = none → E' "java/lang/ArithmeticException" σ)) → (stv A.G (hdS A.G (A.T.pr n)) i ≠ 2 → E' "java/lang/IllegalArgumentException" σ) → wX11_held (nI n) (nI i) Q E' σ := by
        intro Q E' k1 k0
        unfold wX11_held
        refine c_nMy hC hb (c_NAy hC hA ht n1 i1 (c_syO hC hA ht n1 ?_))
        rw [ec2, nI_clampE (show hdS A.G (A.T.pr n) * 8 + i < 2147483648 by omega), ((hC.2.2.2.2.2.1 hg).1.2.1.1 _ i hs i1).1]
        refine ⟨by simp (disch := omega) only [nI_lit, nI_add, nI_mulE, nI_clampE, nI_eqE, nI_leE, nI_ltE, vp_nIE, true_and, and_true]; omega, ?_⟩
        by_cases z : stv A.G (hdS A.G (A.T.pr n)) i = 2
        · refine yes (by rw [z]; rfl) ⟨by rw [ec]; simp (disch := omega) only [nI_lit, nI_add, nI_mulE, nI_clampE, nI_eqE, nI_leE, nI_ltE, vp_nIE, true_and, and_true]; omega, ?_⟩
          have hkp : σ.2.2.1 36 (n * 8 + i) = vL (A.S.kp n i) := (hC.2.2.2.2.2.2.2 hb).2.1.2.2.2.2.2.2.1 n i (by omega) (by omega)
          rw [ec, nI_clampE (show n * 8 + i < 2147483648 by omega), hkp]
          exact c_nmb (k1 z).1 (k1 z).2
        · exact no (by show ¬ nI _ = nI 2; rw [nI_eqE (by omega) (by omega)]; exact z) (k0 z)
      have ml : ∀ σ', MIv σ' A → ∀ Q : Int32 → ab_S → Prop, (stv A.G (hdS A.G (A.T.pr n)) i = 2 → (vB (A.S.kp n i) = 0 → Q (vI (A.S.kp n i)) (ab_I σ' 92 0 (nI 0))) ∧ (¬ vB (A.S.kp n i) = 0 → Q 0 (ab_I σ' 92 0 (nI 4)))) → (stv A.G (hdS A.G (A.T.pr n)) i ≠ 2 → Q 0 (ab_I σ' 92 0 (nI 3))) → wX12_held (nI n) (nI i) Q E σ' := by
        intro σ' hM Q k1 k0
        obtain ⟨_, hG, hTt, _⟩ := hM.tr hA ht
        obtain ⟨h4, hR, _⟩ := hM.mc hb
        obtain ⟨w1, w2⟩ := hR.2.2.2.2.2 n i (by omega) (by omega)
        unfold wX12_held
        rw [h4]
        refine no (by decide) (m_iN hTt hT (fun _ => no (by decide) ?_) (fun z => absurd ⟨n, n1, rfl⟩ z))
        rw [h4]
        refine no (by decide) (m_iN hTt hT (fun _ => no (by decide) ?_) (fun z => absurd ⟨n, n1, rfl⟩ z))
        unfold wX12_held_j42
        refine m_syO hG.1.1.1 hTt hV hT n1 ⟨by simp (disch := omega) only [nI_lit, nI_add, nI_mulE, nI_clampE, nI_eqE, nI_leE, nI_ltE, vp_nIE, true_and, and_true]; omega, ?_⟩
        rw [nI_clampE (show hdS A.G (A.T.pr n) < 2147483648 by omega), (hG.1.1.1.1.2 _ hs).2.1]
        refine m_ixy (by omega) ⟨i, i1, rfl⟩ (no (by decide) ?_)
        unfold wX12_held_j59
        refine no (by decide) (no (by decide) ?_)
        unfold wX12_held_j80
        refine m_syO hG.1.1.1 hTt hV hT n1 (no (by decide) ?_)
        unfold wX12_held_j93
        rw [em2, nI_clampE (show 8 * hdS A.G (A.T.pr n) + i < 2147483648 by omega), hG.1.2.2 _ i hs i1]
        refine ⟨by simp (disch := omega) only [nI_lit, nI_add, nI_mulE, nI_clampE, nI_eqE, nI_leE, nI_ltE, vp_nIE, true_and, and_true]; omega, ?_⟩
        unfold wX12_held_j103 wX12_held_j104
        rw [h4, em, ecm, w2]
        by_cases z : stv A.G (hdS A.G (A.T.pr n)) i = 2
        · refine no (fun z2 => z2 (by rw [z]; rfl)) (yes (by decide) (yes (by decide) (yes (by decide) ⟨evm, ?_⟩)))
          by_cases z2 : vB (A.S.kp n i) = 0
          · refine yes z2 ?_
            unfold wX12_held_j154
            refine fe ?_
            rw [em, ecm, e920, gI_o (by decide), w1]
            exact yes (by decide) ⟨evm, (k1 z).1 z2⟩
          · exact no z2 (m154 4 (by omega) (by omega) ((k1 z).2 z2))
        · exact yes (by show ¬ nI _ = nI 2; rw [nI_eqE (by omega) (by omega)]; exact z) (yes (by decide) (yes (by decide) (no (fun z => z rfl) (m154 3 (by omega) (by omega) (k0 z)))))
      by_cases z : stv A.G (hdS A.G (A.T.pr n)) i = 2
      · cases hv : A.S.kp n i with
        | some w =>
          refine ⟨0, w, ⟨by decide, fun Q k => ?_⟩, fun σ' hM Q k => ?_⟩
          · show wL_held a b Q E σ
            unfold wL_held
            rw [n2, i2]
            refine cl (fun _ => ⟨fun w' hw => ?_, fun z => by rw [hv] at z; exact nomatch z⟩) (fun z2 => absurd z z2)
            rw [hv] at hw
            rw [← Option.some.inj hw]
            exact c_ans (FM.rf _ _) k
          · show wX12_held a b Q E σ'
            rw [n2, i2]
            rw [hv] at ml
            exact ml σ' hM Q (fun _ => ⟨fun _ => k _ _ fm920 e920 (fun _ => rfl), fun z => absurd rfl z⟩) (fun z2 => absurd z z2)
        | none =>
          refine ⟨4, 0, ⟨by decide, fun Q k => ?_⟩, fun σ' hM Q k => ?_⟩
          · show wL_held a b Q E σ
            unfold wL_held
            rw [n2, i2]
            exact cl (fun _ => ⟨fun w' hw => (by rw [hv] at hw; exact (nomatch hw)), fun z => Or.inr (Or.inr (Or.inr ⟨rfl, k σ (FM.rf _ _) (fun z => absurd z (by decide))⟩))⟩) (fun z2 => absurd z z2)
          · show wX12_held a b Q E σ'
            rw [n2, i2]
            rw [hv] at ml
            exact ml σ' hM Q (fun _ => ⟨fun z => absurd z (by decide), fun _ => k _ _ fm920 e920 (fun z => absurd z (by decide))⟩) (fun z2 => absurd z z2)
      · refine ⟨3, 0, ⟨by decide, fun Q k => ?_⟩, fun σ' hM Q k => ?_⟩
        · show wL_held a b Q E σ
          unfold wL_held
          rw [n2, i2]
          exact cl (fun z2 => absurd z2 z) (fun _ => Or.inr (Or.inr (Or.inl ⟨rfl, k σ (FM.rf _ _) (fun z => absurd z (by decide))⟩)))
        · show wX12_held a b Q E σ'
          rw [n2, i2]
          exact ml σ' hM Q (fun z2 => absurd z2 z) (fun _ => k _ _ fm920 e920 (fun z => absurd z (by decide)))
    · refine ⟨2, 0, ⟨by decide, fun Q k => ?_⟩, fun σ' hM Q k => ?_⟩
      · show wL_held a b Q E σ
        unfold wL_held wX11_held
        exact c_nMy hC hb (c_NAn hC hA ht e1 (Or.inr (Or.inl ⟨rfl, k σ (FM.rf _ _) (fun z => absurd z (by decide))⟩)))
      · obtain ⟨_, hG, hTt, _⟩ := hM.tr hA ht
        obtain ⟨h4, hR, _⟩ := hM.mc hb
        have hbd := mbad σ' hM Q k
        show wX12_held a b Q E σ'
        unfold wX12_held
        rw [h4]
        refine no (by decide) (m_iN hTt hT (fun z => no (by decide) ?_) (fun z => yes rfl hbd))
        rw [h4]
        refine no (by decide) (m_iN hTt hT (fun _ => no (by decide) ?_) (fun z2 => absurd z z2))
        obtain ⟨n, n1, n2⟩ := z
        have hp := (hT.2.2 n n1).1.1
        have hs : hdS A.G (A.T.pr n) < A.G.1.1 := (hV.2.2.2 _ hp).2.1.2.1 0 (Nat.zero_le _)
        have h8 := (hV.1.2.2 _ hs).2.1
        have eb : ¬ isIx b (A.G.1.2.2.1 (hdS A.G (A.T.pr n))) := fun z => e1 ⟨n, n1, n2, z⟩
        rw [n2] at hbd ⊢
        unfold wX12_held_j42
        refine m_syO hG.1.1.1 hTt hV hT n1 ⟨by simp (disch := omega) only [nI_lit, nI_add, nI_mulE, nI_clampE, nI_eqE, nI_leE, nI_ltE, vp_nIE, true_and, and_true]; omega, ?_⟩
        rw [nI_clampE (show hdS A.G (A.T.pr n) < 2147483648 by omega), (hG.1.1.1.1.2 _ hs).2.1]
        exact m_ixn (by omega) eb (yes rfl hbd)
end QX
