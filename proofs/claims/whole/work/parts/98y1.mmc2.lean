/-! ===== the machine, the model's: a TEST, visits ===== -/
section MM
variable {σ τ : ab_S} {E : String → ab_S → Prop} {Q : ab_S → Prop} {T : TST} {Γ : GRT} {S : MST}
def SPt : Nat → Nat → Bool := fun a i => decide ((a = 92 ∧ (i = 84 ∨ i = 90)) ∨ a = 157 ∨ a = 158)
theorem m_test (hP : MPg σ Γ) (hpc : S.pc ≠ 0) (hR : mPc σ S.pc) (hV : mPi σ S.vs) (hl : S.vs.length ≤ 34) {I : Nat × Nat × Nat} (hv : (∃ a s, S.vs = a :: s) ∧ 1 ≤ I.2.1 ∧ I.2.1 ≤ pgB Γ Γ.2.1) (hw : pgB Γ Γ.2.1 ≤ 3000) (k : ∀ τ, FM SPt σ τ → mPc τ (mTs Γ S I S.vs).pc → mPi τ (mTs Γ S I S.vs).vs → Q τ) : wX12_test (nI I.2.1) Q E σ := by
  obtain ⟨⟨a, s, e⟩, i1, i2⟩ := hv
  rw [e] at hV hl k
  rw [List.length_cons] at hl
  obtain ⟨q1, q2, q3, q4⟩ := hV.pop (by omega)
  unfold wX12_test
  rw [q1]
  refine fe ?_
  have F1 : FM SPt σ (ab_I σ 92 90 (nI s.length)) := (FM.rf _ σ).I (decide_eq_true (by omega))
  have ec : (nI s.length).toNatClampNeg = s.length := nI_clampE (by omega)
  have ev : vp_in (nI s.length) 3000 := by simp (disch := omega) only [nI_lit, nI_add, nI_mulE, nI_clampE, nI_eqE, nI_leE, nI_ltE, vp_nIE, true_and, and_true]; omega
  rw [q4.1, ec, gI_o (by decide), gI_o (by decide), q2, q3, show (ab_I σ 92 90 (nI s.length)).2.1 92 84 = abI S.pc by rw [gI_s, if_neg (by decide)]; exact hR, abI_s hpc]
  refine ⟨ev, ?_⟩
  cases a with
  | none =>
    refine no (by decide) ?_
    rw [nI_1]
    refine fe ⟨?_, ?_⟩
    · rw [show nI I.2.1 - (1 : Int32) = nI (I.2.1 - 1) by show _ - nI 1 = _; rw [nI_subE (by omega)]]; simp (disch := omega) only [nI_lit, nI_add, nI_mulE, nI_clampE, nI_eqE, nI_leE, nI_ltE, vp_nIE, true_and, and_true]; omega
    · rw [show nI I.2.1 - (1 : Int32) = nI (I.2.1 - 1) by show _ - nI 1 = _; rw [nI_subE (by omega)], nI_clampE (show I.2.1 - 1 < 2147483648 by omega), gI_o (by decide), gI_o (by decide), (hP.1.2 (I.2.1 - 1) (by rw [LP_len]; omega)).2]
      refine fe (k _ ((F1.I (decide_eq_true (by omega))).I (decide_eq_true (by omega))) ?_ ⟨?_, ?_⟩)
      · show (ab_I _ 92 84 _).2.1 92 84 = abI (((PLs Γ Γ.2.1).getD (I.2.1 - 1) (0, 0, 0)).2.1 + 1)
        rw [gI_s, if_pos rfl, abI_s (by omega)]; congr 1
      · rw [gI_s, if_neg (by decide), gI_s, if_pos rfl]; rfl
      · exact hV.2.cg (fun i _ => ⟨by rw [gI_o (by decide), gI_o (by decide), gI_o (by decide)], by rw [gI_o (by decide), gI_o (by decide), gI_o (by decide)]⟩)
  | some x =>
    refine yes rfl ⟨ev, ?_⟩
    unfold wX12_test_j70
    have fin : ∀ y, y = abI (if x = 0 then I.2.1 + 1 else S.pc + 1) → Q (ab_I (ab_I σ 92 90 (nI s.length)) 92 84 y) := by
      intro y hy
      refine k _ (F1.I (decide_eq_true (by omega))) ?_ ⟨?_, ?_⟩
      · show (ab_I _ 92 84 _).2.1 92 84 = abI (if x = 0 then I.2.1 + 1 else S.pc + 1)
        rw [gI_s, if_pos rfl]; exact hy
      · rw [gI_s, if_neg (by decide), gI_s, if_pos rfl]; rfl
      · exact q4.2.cg (fun i _ => ⟨gI_o (by decide), gI_o (by decide)⟩)
    have ex : vI (some x) = x := rfl
    rw [ex]
    by_cases h0 : x = 0
    · refine no (fun q => q h0) (fe (fin _ ?_))
      rw [if_pos h0, abI_s (by omega)]; congr 1
    · refine yes h0 ?_
      rw [nI_1]
      refine fe (fin _ ?_)
      rw [if_neg h0, abI_s (by omega)]; congr 1; omega
def SPv : Nat → Nat → Bool := fun a i => decide ((a = 92 ∧ i = 84) ∨ a = 156)
theorem m_vis (hP : MPg σ Γ) (hM : MTt σ Γ T) (hG : GOK Γ) (hT : TOK Γ T) {vi : Nat → Nat} {c : Nat} (hc : c < T.N) (hV : mVi σ T vi) (hv : vi c + 1 ≤ svs Γ (hdS Γ (T.pr c))) (k : ∀ τ, FM SPv σ τ → mPc τ (pgV Γ (T.pr c) (vi c + 1) + 1) → mVi τ T (uf vi c (vi c + 1)) → Q τ) : wX12_visits (nI c) Q E σ := by
  have hN := hT.2.1
  have hp := (hT.2.2 c hc).1.1
  have h30 := hG.1.2.1
  have hhd : hdS Γ (T.pr c) < Γ.1.1 := (hG.1.2.2.2 _ hp).2.1.2.1 0 (Nat.zero_le _)
  have h5 := (hG.2.1.vis _ hhd).2
  have ec : (nI c).toNatClampNeg = c := nI_clampE (by omega)
  have ev : vp_in (nI c) 251 := by simp (disch := omega) only [nI_lit, nI_add, nI_mulE, nI_clampE, nI_eqE, nI_leE, nI_ltE, vp_nIE, true_and, and_true]; omega
  unfold wX12_visits
  rw [ec, hV c hc, nI_1]
  refine ⟨ev, ev, fe ⟨ev, ev, ?_⟩⟩
  have e1 : (ab_I σ 156 c (nI (vi c + 1))).2.1 156 c = nI (vi c + 1) := by rw [gI_s, if_pos rfl]
  have e2 : (ab_I σ 156 c (nI (vi c + 1))).2.1 128 c = nI (T.pr c) := by rw [gI_o (by decide)]; exact (hM.2 c hc).1
  have e6 : (6 : Int32) * nI (T.pr c) + nI (vi c + 1) = nI (6 * T.pr c + (vi c + 1)) := by show nI 6 * nI _ + _ = _; rw [nI_mulE, nI_add]
  rw [e1, e2, e6, nI_clampE (show 6 * T.pr c + (vi c + 1) < 2147483648 by omega), gI_o (by decide), hP.2 _ _ hp (by omega) hv]
  refine ⟨by simp (disch := omega) only [nI_lit, nI_add, nI_mulE, nI_clampE, nI_eqE, nI_leE, nI_ltE, vp_nIE, true_and, and_true]; omega, fe (k _ (((FM.rf _ σ).I (decide_eq_true (by omega))).I (decide_eq_true (by omega))) ?_ (fun m hm => ?_))⟩
  · show (ab_I _ 92 84 _).2.1 92 84 = _
    rw [gI_s, if_pos rfl, abI_s (by omega)]; congr 1
  · rw [gI_o (by decide), gI_s]
    by_cases e : m = c
    · rw [if_pos e, e, uf_s]
    · rw [if_neg e, uf_o _ _ e]; exact hV m hm
def SPb : Nat → Nat → Bool := fun a i => decide ((a = 92 ∧ (i = 84 ∨ i = 86)) ∨ 154 ≤ a ∧ a ≤ 156)
theorem m_backs (hW : MW σ Γ) (hP : MPg σ Γ) (hM : MTt σ Γ T) (hG : GOK Γ) (hT : TOK Γ T) {n bk : Nat} {r : List (Nat × Nat)} (hn : n < T.N) (hl : r.length ≤ n) (hb : r = [] → bk = 0 ∧ n = 0) (hK : mSkk σ ((n, bk) :: r)) (hV : mVi σ T S.vi) (hv : S.vi n ≤ svs Γ (hdS Γ (T.pr n))) (k : ∀ τ, FM SPb σ τ → mPc τ (mLv Γ T S n bk r).pc → mSkk τ (mLv Γ T S n bk r).sk → mVi τ T (mLv Γ T S n bk r).vi → Q τ) : wX12_backs Q E σ := by
  have hN := hT.2.1
  obtain ⟨k1, k2, k3, k4⟩ := hK
  have k2 : σ.2.1 154 r.length = nI n := k2
  have k3 : r ≠ [] → σ.2.1 155 r.length = abI bk := k3
  have k1 : σ.2.1 92 86 = nI (r.length + 1) := k1
  have e1 : nI (r.length + 1) - (1 : Int32) = nI r.length := by show _ - nI 1 = _; rw [nI_subE (by omega)]; congr 1
  unfold wX12_backs
  rw [k1, e1]
  refine fe ?_
  have F1 : FM SPb σ (ab_I σ 92 86 (nI r.length)) := (FM.rf _ σ).I (decide_eq_true (by omega))
  have ec : (nI r.length).toNatClampNeg = r.length := nI_clampE (by omega)
  have ev : vp_in (nI r.length) 251 := by simp (disch := omega) only [nI_lit, nI_add, nI_mulE, nI_clampE, nI_eqE, nI_leE, nI_ltE, vp_nIE, true_and, and_true]; omega
  rw [show (ab_I σ 92 86 (nI r.length)).2.1 92 86 = nI r.length by rw [gI_s, if_pos rfl], ec, show (ab_I σ 92 86 (nI r.length)).2.1 154 r.length = nI n by rw [gI_o (by decide)]; exact k2]
  refine ⟨ev, fe ?_⟩
  cases r with
  | nil =>
    obtain ⟨b0, n0⟩ := hb rfl
    have hp := (hT.2.2 n hn).1.1
    have hh : hdS Γ (T.pr n) = 0 := (hT.2.2 n hn).1.2.2.2.1 n0
    have h01 : 0 < Γ.1.1 := by have : hdS Γ (T.pr n) < Γ.1.1 := (hG.1.2.2.2 _ hp).2.1.2.1 0 (Nat.zero_le _); omega
    have ecn : (nI n).toNatClampNeg = n := nI_clampE (by omega)
    have h5 := (hG.2.1.vis _ h01).2
    rw [hh] at hv
    rw [ecn, show (ab_I σ 92 86 (nI ([] : List (Nat × Nat)).length)).2.1 112 (0 : Int32).toNatClampNeg = nI (svs Γ 0) by rw [gI_o (by decide)]; exact (hW.1.2.1 0 h01).2, show (ab_I σ 92 86 (nI ([] : List (Nat × Nat)).length)).2.1 156 n = nI (S.vi n) by rw [gI_o (by decide)]; exact hV n hn]
    refine yes (by decide) ⟨by simp (disch := omega) only [nI_lit, nI_add, nI_mulE, nI_clampE, nI_eqE, nI_leE, nI_ltE, vp_nIE, true_and, and_true]; omega, by show vp_in (nI 0) 13; simp (disch := omega) only [nI_lit, nI_add, nI_mulE, nI_clampE, nI_eqE, nI_leE, nI_ltE, vp_nIE, true_and, and_true]; omega, ?_⟩
    have em : mLv Γ T S n bk [] = if S.vi n < svs Γ (hdS Γ (T.pr n)) then mEn Γ T S n 0 [] else (bk, [], S.vi, S.vs, S.kp, S.va) := rfl
    rw [em, hh] at k
    by_cases hlt : S.vi n < svs Γ 0
    · rw [if_pos hlt] at k
      refine no (by simp (disch := omega) only [nI_lit, nI_add, nI_mulE, nI_clampE, nI_eqE, nI_leE, nI_ltE, vp_nIE, true_and, and_true]; omega) (fe ?_)
      generalize hσ2 : ab_I (ab_I σ 92 86 (nI ([] : List (Nat × Nat)).length)) 92 86 1 = σ2
      have F2 : FM (fun a i => decide (a = 92 ∧ i = 86)) σ σ2 := by rw [← hσ2]; exact ((FM.rf _ σ).I (decide_eq_true (by omega))).I (decide_eq_true (by omega))
      have e86 : σ2.2.1 92 86 = nI 1 := by rw [← hσ2, gI_s, if_pos rfl]; rfl
      refine m_vis ⟨⟨by rw [F2.1 _ _ (decide_eq_false (by omega))]; exact hP.1.1, fun j hj => by rw [F2.1 _ _ (decide_eq_false (by omega)), F2.1 _ _ (decide_eq_false (by omega))]; exact hP.1.2 j hj⟩, fun p v a1 a2 a3 => by rw [F2.1 _ _ (decide_eq_false (by omega))]; exact hP.2 p v a1 a2 a3⟩ (hM.fm F2 (decide_eq_false (by omega)) (fun a i _ _ => decide_eq_false (by omega))) hG hT hn (hV.fm F2 (fun i => decide_eq_false (by omega))) (by rw [hh]; omega) (fun τ F P V => ?_)
      refine k τ ((F2.mono (fun a i y => by have y := of_decide_eq_false y; exact decide_eq_false (by omega))).tr (F.mono (fun a i y => by have y := of_decide_eq_false y; exact decide_eq_false (by omega)))) P ⟨by rw [F.1 _ _ (decide_eq_false (by omega))]; exact e86, ?_, fun z => absurd rfl z, trivial⟩ V
      rw [F.1 _ _ (decide_eq_false (by omega)), F2.1 _ _ (decide_eq_false (by omega))]
      exact k2
    · rw [if_neg hlt] at k
      refine yes (by simp (disch := omega) only [nI_lit, nI_add, nI_mulE, nI_clampE, nI_eqE, nI_leE, nI_ltE, vp_nIE, true_and, and_true]; omega) (fe (k _ (F1.I (decide_eq_true (by omega))) ?_ ⟨by rw [gI_s, if_neg (by decide), gI_s, if_pos rfl], trivial⟩ (fun m hm => by rw [gI_o (by decide), gI_o (by decide)]; exact hV m hm)))
      show (ab_I _ 92 84 _).2.1 92 84 = abI bk
      rw [gI_s, if_pos rfl, b0]; rfl
  | cons z r =>
    rw [show (ab_I σ 92 86 (nI (z :: r).length)).2.1 155 (z :: r).length = abI bk by rw [gI_o (by decide)]; exact k3 (by simp)]
    rw [List.length_cons] at hl ev ⊢
    refine no (by show ¬ _ ≤ nI 0; simp (disch := omega) only [nI_lit, nI_add, nI_mulE, nI_clampE, nI_eqE, nI_leE, nI_ltE, vp_nIE, true_and, and_true]; omega) ⟨ev, fe (k _ (F1.I (decide_eq_true (by omega))) ?_ ⟨by rw [gI_s, if_neg (by decide), gI_s, if_pos rfl]; rfl, k4.cg (fun i _ => ⟨by rw [gI_o (by decide), gI_o (by decide)], by rw [gI_o (by decide), gI_o (by decide)]⟩)⟩ (fun m hm => by rw [gI_o (by decide), gI_o (by decide)]; exact hV m hm))⟩
    show (ab_I _ 92 84 _).2.1 92 84 = abI bk
    rw [gI_s, if_pos rfl]
end MM
