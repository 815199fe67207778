/-! ===== the machine, the class's: its instructions ===== -/
section CM
variable {σ : ab_S} {M g x n bk : Nat} {Γ : GRT} {T : TST} {b : Bool} {S : MST} {r : List (Nat × Nat)} {E : String → ab_S → Prop}
theorem SkT.len {vi e κ : Nat → Nat} : ∀ {r n bk}, SkT Γ T vi e κ n bk r → r.length ≤ n
  | [], _, _, _ => Nat.zero_le _
  | (n2, b2) :: r, n, bk, h => by
    have h1 := h.1.1
    have := SkT.len h.2
    rw [List.length_cons]; omega
theorem c_nAt (hSt : CSt σ M g x Γ T b) (hT : TOK Γ T) (hn : n < T.N) {o : Nat} (ho : o ≤ rt Γ (T.pr n)) (hrt : rt Γ (T.pr n) ≤ 3) {Q : Int32 → ab_S → Prop} (h : Q (nI (T.ch n o)) σ) : wX9_nodeAt x (nI n) (nI o) Q E σ := by
  have hN := hT.2.1
  have e4 : nI n * 4 + nI o = nI (n * 4 + o) := by show nI n * nI 4 + _ = _; rw [nI_mulE, nI_add]
  unfold wX9_nodeAt
  rw [e4, nI_clampE (show n * 4 + o < 2147483648 by omega), (hSt.2.2.2.2.2.2.1.2 n hn).2.2.2.2 o (by rw [(hT.2.2 n hn).2]; exact ho)]
  exact ⟨by simp (disch := omega) only [nI_lit, nI_add, nI_mulE, nI_clampE, nI_eqE, nI_leE, nI_ltE, vp_nIE, true_and, and_true]; omega, h⟩
theorem ch_lt (hT : TOK Γ T) (hn : n < T.N) {o : Nat} (ho : o ≤ rt Γ (T.pr n)) : T.ch n o < T.N := by
  obtain ⟨t1, t2⟩ := hT.2.2 n hn
  by_cases h0 : o = 0
  · rw [h0, t1.2.2.2.2.2.1]; exact hn
  · exact (t1.2.2.2.2.2.2.1 o (by omega) (by omega)).2.1
theorem c_kA (hSt : CSt σ M g x Γ T b) (hT : TOK Γ T) (hn : n < T.N) {sl : Nat} (hs : slV Γ (T.pr n) sl) (hrt : rt Γ (T.pr n) ≤ 3) {Q : Int32 → ab_S → Prop} (h : Q (nI (T.ch n (sl / 8) * 8 + sl % 8)) σ) : wX2_keptAt M (nI n) (nI sl) Q E σ := by
  have hs1 := hs.1
  unfold wX2_keptAt
  refine ⟨x, hSt.2.1, hSt.2.2.2.1, ?_⟩
  rw [i_mod8 sl (by omega), i_div8 sl (by omega)]
  refine c_nAt hSt hT hn hs.2.1 hrt ?_
  have e8 : nI (T.ch n (sl / 8)) * 8 + nI (sl % 8) = nI (T.ch n (sl / 8) * 8 + sl % 8) := by show nI _ * nI 8 + _ = _; rw [nI_mulE, nI_add]
  rw [e8]; exact h
theorem c_isv (hSt : CSt σ M g x Γ T b) {k : Nat} (hk : k < 30) {Q : Int32 → ab_S → Prop} (h1 : b = false ∧ (k = 3 ∨ k = 16) → Q 1 σ) (h0 : ¬ (b = false ∧ (k = 3 ∨ k = 16)) → Q 0 σ) : wX2_isVariable M (nI k) Q E σ := by
  unfold wX2_isVariable
  rw [hSt.2.2.2.2.1]
  cases b
  · refine no (fun z => z rfl) ?_
    by_cases k3 : k = 3
    · exact yes (by rw [k3]; rfl) (h1 ⟨rfl, Or.inl k3⟩)
    · refine no (by show ¬ _ = nI 3; rw [nI_eqE (by omega) (by omega)]; exact k3) ?_
      by_cases k16 : k = 16
      · exact no (fun z => z (by rw [k16]; rfl)) (h1 ⟨rfl, Or.inr k16⟩)
      · exact yes (by show ¬ _ = nI 16; rw [nI_eqE (by omega) (by omega)]; exact k16) (h0 (fun z => z.2.elim k3 k16))
  · exact yes (by decide) (h0 (fun z => absurd z.1 (by decide)))
theorem gN_lt (hV : GRV Γ) {p sl : Nat} (hp : p < Γ.2.1) (hs : slV Γ p sl) (h0 : stv Γ (oSy Γ p (sl / 8)) (sl % 8) = 0) : gN Γ p sl < 96 := by
  have h12 := hV.1.1
  have hy : oSy Γ p (sl / 8) < Γ.1.1 := (hV.2.2.2 p hp).2.1.2.1 _ hs.2.1
  have h8 := (hV.1.2.2 _ hy).2.1
  have a := vaS_le hV (oSy Γ p (sl / 8)) (by omega)
  have b := vaA_le Γ (oSy Γ p (sl / 8)) (sl % 8)
  have c := hs.2.2
  unfold gN
  rw [if_pos h0]
  omega
/-- a GET -/
theorem c_get (hM : isM M) (hV : GRV Γ) (hSt : CSt σ M g x Γ T b) (hR : RCd σ M S) (hT : TOK Γ T) (hn : n < T.N) {i : Nat} (hi : i < 3000) {I : Nat × Nat × Nat} (c5 : σ.2.1 25 i = nI I.2.1) (c6 : σ.2.1 26 i = nI I.2.2) (h2 : 2 ≤ I.1) (h5 : I.1 ≤ 5) (hI : I = (gK Γ (T.pr n) I.2.2, gN Γ (T.pr n) I.2.2, I.2.2)) (hs : slV Γ (T.pr n) I.2.2) (hl : S.vs.length ≤ 34) {Q : ab_S → Prop} (k : ∀ τ, FM (SMc M) σ τ → RCd τ M (S.pc, S.sk, S.vi, mGt T b S n I :: S.vs, S.kp, S.va) → Q τ) : wX2_isVariable M (nI I.1) (fun u9 σ8 => ((u9 = 0) → vp_in (nI i) 3000 ∧ (wX2_keptAt M (nI n) (σ8.2.1 26 (nI i).toNatClampNeg) (fun u11 σ10 => vp_in u11 2000 ∧ (wX2_perform_j207 M (nI i) Q E (σ10.2.2.1 (M + 1) u11.toNatClampNeg) σ10)) E σ8)) ∧ (¬ (u9 = 0) → vp_in (nI i) 3000 ∧ (vp_in (σ8.2.1 25 (nI i).toNatClampNeg) 96 ∧ (wX2_perform_j207 M (nI i) Q E (σ8.2.2.1 (M + 2) (σ8.2.1 25 (nI i).toNatClampNeg).toNatClampNeg) σ8)))) E σ := by
  have hp : T.pr n < Γ.2.1 := ((hT.2.2 n hn).1).1
  have hrt : rt Γ (T.pr n) ≤ 3 := (hV.2.2.2 _ hp).2.1.1
  have ec : (nI i).toNatClampNeg = i := nI_clampE (by omega)
  have ev : vp_in (nI i) 3000 := by simp (disch := omega) only [nI_lit, nI_add, nI_mulE, nI_clampE, nI_eqE, nI_leE, nI_ltE, vp_nIE, true_and, and_true]; omega
  have hN := hT.2.1
  have hK := gK_r Γ (T.pr n) I.2.2
  have hk : I.1 = gK Γ (T.pr n) I.2.2 := congrArg Prod.fst hI
  refine c_isv hSt (by omega) (fun z => no (by decide) ?_) (fun z => yes rfl ?_)
  · rw [ec, c5]
    have k3 : I.1 = 3 := by omega
    have h0 := hK.2.2.mp (by omega)
    have hg : I.2.1 < 96 := by rw [congrArg (fun z => z.2.1) hI]; exact gN_lt hV hp hs h0
    refine ⟨ev, by simp (disch := omega) only [nI_lit, nI_add, nI_mulE, nI_clampE, nI_eqE, nI_leE, nI_ltE, vp_nIE, true_and, and_true]; omega, ?_⟩
    rw [nI_clampE (show I.2.1 < 2147483648 by omega), hR.2.2.2.2.2.2.2 _ hg]
    unfold wX2_perform_j207
    have e : mGt T b S n I = S.va I.2.1 := by unfold mGt; rw [if_pos ⟨z.1, k3⟩]
    rw [e] at k
    exact c_psh hM hR (by omega) k
  · rw [ec, c6]
    refine ⟨ev, ?_⟩
    have hc := ch_lt hT hn hs.2.1
    have h8 : I.2.2 % 8 < 8 := by omega
    refine c_kA hSt hT hn hs hrt ⟨by simp (disch := omega) only [nI_lit, nI_add, nI_mulE, nI_clampE, nI_eqE, nI_leE, nI_ltE, vp_nIE, true_and, and_true]; omega, ?_⟩
    rw [nI_clampE (show T.ch n (I.2.2 / 8) * 8 + I.2.2 % 8 < 2147483648 by omega), hR.2.2.2.2.2.2.1 _ _ (by omega) h8]
    unfold wX2_perform_j207
    have e : mGt T b S n I = S.kp (T.ch n (I.2.2 / 8)) (I.2.2 % 8) := by unfold mGt; rw [if_neg (fun q => z ⟨q.1, Or.inl q.2⟩)]
    rw [e] at k
    exact c_psh hM hR (by omega) k
theorem c_bin (hM : isM M) (hR : RCd σ M S) {k : Nat} (h7 : 7 ≤ k) (h12 : k ≤ 12) {c a : VL8} {s : List VL8} (hs : S.vs = c :: a :: s) (hl : S.vs.length ≤ 34) {Q : ab_S → Prop} (kk : ∀ τ, FM (SMc M) σ τ → RCd τ M (S.pc, S.sk, S.vi, vbin k a c :: s, S.kp, S.va) → Q τ) : wX2_pop M (fun u30 σ29 => wX2_pop M (fun u32 σ31 => wX2_operate (nI k) u32 u30 (fun u34 σ33 => wX2_push M u34 (fun σ35 => Q σ35) E σ33) E σ31) E σ29) E σ := by
  have hl2 : s.length + 2 ≤ 34 := by rw [hs] at hl; exact hl
  refine c_ppp hM hR hs (by omega) (fun τ F1 R1 => ?_)
  refine c_ppp (S := (S.pc, S.sk, S.vi, a :: s, S.kp, S.va)) hM R1 rfl (by show s.length + 1 ≤ 40; omega) (fun τ2 F2 R2 => ?_)
  refine c_op h7 h12 ?_
  exact c_psh (S := (S.pc, S.sk, S.vi, s, S.kp, S.va)) hM R2 (by show s.length < 40; omega) (fun τ3 F3 R3 => kk τ3 ((F1.tr F2).tr F3) R3)
theorem RCd.sl (hM : isM M) (hR : RCd σ M S) {m a : Nat} {v : VL8} (hm : m < 250) (ha : a < 8) : RCd (ab_L σ (M + 1) (m * 8 + a) (vL v)) M (S.pc, S.sk, S.vi, S.vs, uf2 S.kp m a v, S.va) := by
  obtain ⟨h1, h2, h3, h4, h5, h6, h7, h8⟩ := hR
  refine ⟨h1, h2, h3, h4.cg (fun i _ => ⟨rfl, rfl⟩), h5.cg (fun i _ => by rw [gL_L, if_neg (by omega)]), h6, fun m' a' hm' ha' => ?_, fun w hw => by rw [gL_L, if_neg (by omega)]; exact h8 w hw⟩
  rw [gL_L, if_pos rfl]
  show _ = vL (uf S.kp m (uf (S.kp m) a v) m' a')
  by_cases e : m' * 8 + a' = m * 8 + a
  · have e1 : m' = m := by omega
    have e2 : a' = a := by omega
    rw [if_pos e, e1, uf_s, e2, uf_s]
  · rw [if_neg e]
    by_cases e1 : m' = m
    · rw [e1, uf_s, uf_o _ _ (by omega), ← e1]; exact h7 m' a' hm' ha'
    · rw [uf_o _ _ e1]; exact h7 m' a' hm' ha'
theorem RCd.sv (hM : isM M) (hR : RCd σ M S) {w : Nat} {v : VL8} (hw : w < 96) : RCd (ab_L σ (M + 2) w (vL v)) M (S.pc, S.sk, S.vi, S.vs, S.kp, uf S.va w v) := by
  obtain ⟨h1, h2, h3, h4, h5, h6, h7, h8⟩ := hR
  refine ⟨h1, h2, h3, h4.cg (fun i _ => ⟨rfl, rfl⟩), h5.cg (fun i _ => by rw [gL_L, if_neg (by omega)]), h6, fun m' a' hm' ha' => by rw [gL_L, if_neg (by omega)]; exact h7 m' a' hm' ha', fun w' hw' => ?_⟩
  rw [gL_L, if_pos rfl]
  show _ = vL (uf S.va w v w')
  by_cases e : w' = w
  · rw [if_pos e, e, uf_s]
  · rw [if_neg e, uf_o _ _ e]; exact h8 w' hw'
/-- a SET -/
theorem c_setI (hM : isM M) (hV : GRV Γ) (hSt : CSt σ M g x Γ T b) (hR : RCd σ M S) (hT : TOK Γ T) (hn : n < T.N) {i : Nat} (hi : i < 3000) {I : Nat × Nat × Nat} (c4 : σ.2.1 24 i = nI I.1) (c5 : σ.2.1 25 i = nI I.2.1) (c6 : σ.2.1 26 i = nI I.2.2) (h2 : 15 ≤ I.1) (h5 : I.1 ≤ 18) (hI : I = (gK Γ (T.pr n) I.2.2 + 13, gN Γ (T.pr n) I.2.2, I.2.2)) (hs : slV Γ (T.pr n) I.2.2) {v : VL8} (hv : S.vs = [v]) {Q : ab_S → Prop} (k : ∀ τ, FM (SMc M) σ τ → RCd τ M (S.pc, (mSt T b S n I [v]).2) → Q τ) : wX2_pop M (fun u74 σ73 => wX2_set M (nI i) (nI n) u74 (fun σ75 => Q σ75) E σ73) E σ := by
  have hMb := isM_b hM
  have hp : T.pr n < Γ.2.1 := ((hT.2.2 n hn).1).1
  have hrt : rt Γ (T.pr n) ≤ 3 := (hV.2.2.2 _ hp).2.1.1
  have ec : (nI i).toNatClampNeg = i := nI_clampE (by omega)
  have ev : vp_in (nI i) 3000 := by simp (disch := omega) only [nI_lit, nI_add, nI_mulE, nI_clampE, nI_eqE, nI_leE, nI_ltE, vp_nIE, true_and, and_true]; omega
  have hN := hT.2.1
  have hK := gK_r Γ (T.pr n) I.2.2
  have hk : I.1 = gK Γ (T.pr n) I.2.2 + 13 := congrArg Prod.fst hI
  refine c_ppp hM hR hv (by rw [hv]; show 1 ≤ 40; omega) (fun τ F1 R1 => ?_)
  have St1 := hSt.fm hM hV F1
  have e4 : τ.2.1 24 i = nI I.1 := by rw [F1.1 _ _ (decide_eq_false (by omega))]; exact c4
  have e5 : τ.2.1 25 i = nI I.2.1 := by rw [F1.1 _ _ (decide_eq_false (by omega))]; exact c5
  have e6 : τ.2.1 26 i = nI I.2.2 := by rw [F1.1 _ _ (decide_eq_false (by omega))]; exact c6
  unfold wX2_set
  rw [ec, e4]
  refine ⟨ev, ?_⟩
  refine c_isv St1 (by omega) (fun z => no (by decide) ?_) (fun z => yes rfl ?_)
  · have k16 : I.1 = 16 := by omega
    have h0 := hK.2.2.mp (by omega)
    have hg : I.2.1 < 96 := by rw [congrArg (fun z => z.2.1) hI]; exact gN_lt hV hp hs h0
    rw [e5, nI_clampE (show I.2.1 < 2147483648 by omega)]
    refine ⟨ev, by simp (disch := omega) only [nI_lit, nI_add, nI_mulE, nI_clampE, nI_eqE, nI_leE, nI_ltE, vp_nIE, true_and, and_true]; omega, fe ?_⟩
    have em : mSt T b S n I [v] = (S.pc + 1, S.sk, S.vi, [], S.kp, uf S.va I.2.1 v) := if_pos (show b = false ∧ I.1 = 16 from ⟨z.1, k16⟩)
    rw [em] at k
    exact k _ (F1.tr ((FM.rf _ τ).L (decide_eq_true (by omega)))) (R1.sv hM hg)
  · rw [e6]
    refine ⟨ev, ?_⟩
    have hc := ch_lt hT hn hs.2.1
    have h8 : I.2.2 % 8 < 8 := by omega
    refine c_kA St1 hT hn hs hrt ⟨by simp (disch := omega) only [nI_lit, nI_add, nI_mulE, nI_clampE, nI_eqE, nI_leE, nI_ltE, vp_nIE, true_and, and_true]; omega, ?_⟩
    rw [nI_clampE (show T.ch n (I.2.2 / 8) * 8 + I.2.2 % 8 < 2147483648 by omega)]
    refine fe ?_
    have em : mSt T b S n I [v] = (S.pc + 1, S.sk, S.vi, [], uf2 S.kp (T.ch n (I.2.2 / 8)) (I.2.2 % 8) v, S.va) := if_neg (show ¬ (b = false ∧ I.1 = 16) from fun q => z ⟨q.1, Or.inr q.2⟩)
    rw [em] at k
    exact k _ (F1.tr ((FM.rf _ τ).L (decide_eq_true (by omega)))) (R1.sl hM (by omega) h8)
/-- a visit begins -/
theorem c_entr (hM : isM M) (hG : GOK Γ) (hSt : CSt σ M g x Γ T b) (hR : RCb σ M S) (hT : TOK Γ T) (hd : S.sk.length < 250) {c : Nat} (hc : c < T.N) (hv : S.vi c + 1 ≤ svs Γ (hdS Γ (T.pr c))) {w : Int32} {bk' : Nat} (hw : w = abI bk') {Q : ab_S → Prop} (k : ∀ τ, FM (SMc M) σ τ → RCd τ M (mEn Γ T S c bk' S.sk) → Q τ) : wX2_enter M (nI c) w Q E σ := by
  have hMb := isM_b hM
  obtain ⟨hV, hL, _⟩ := hG
  have hN := hT.2.1
  have hp : T.pr c < Γ.2.1 := ((hT.2.2 c hc).1).1
  have h30 := hV.2.1
  have hhd : hdS Γ (T.pr c) < Γ.1.1 := (hV.2.2.2 _ hp).2.1.2.1 0 (Nat.zero_le _)
  have hvis := hL.vis _ hhd
  obtain ⟨h2, h3, h4, h5, h6, h7, h8⟩ := hR
  obtain ⟨s1, s2, s3, s4, s5, s6, s7, s8, s9⟩ := hSt
  have hxb := isT_b s4
  have ec : (nI c).toNatClampNeg = c := nI_clampE (by omega)
  have ev : vp_in (nI c) 250 := by simp (disch := omega) only [nI_lit, nI_add, nI_mulE, nI_clampE, nI_eqE, nI_leE, nI_ltE, vp_nIE, true_and, and_true]; omega
  have ed : (nI S.sk.length).toNatClampNeg = S.sk.length := nI_clampE (by omega)
  have evd : vp_in (nI S.sk.length) 250 := by simp (disch := omega) only [nI_lit, nI_add, nI_mulE, nI_clampE, nI_eqE, nI_leE, nI_ltE, vp_nIE, true_and, and_true]; omega
  unfold wX2_enter
  rw [h2, ec, h6 c (by omega), nI_1]
  refine no (by simp (disch := omega) only [nI_lit, nI_add, nI_mulE, nI_clampE, nI_eqE, nI_leE, nI_ltE, vp_nIE, true_and, and_true]; omega) ⟨ev, ev, fe ?_⟩
  rw [gI_o (by omega), h2, ed]
  refine ⟨evd, fe ?_⟩
  rw [gI_o (by omega), gI_o (by omega), h2, ed]
  refine ⟨evd, fe ?_⟩
  rw [gI_o (by omega), gI_o (by omega), gI_o (by omega), h2, nI_1]
  refine fe ⟨x, s2, s4, ev, ev, ?_⟩
  rw [gI_o (by omega), gI_o (by omega), gI_o (by omega), gI_o (by omega), (s7.2 c hc).1, gI_o (by omega), gI_o (by omega), gI_o (by omega), gI_s, if_pos rfl]
  unfold wX5_first
  have e7 : nI (T.pr c) * 7 + nI (S.vi c + 1) = nI (T.pr c * 7 + (S.vi c + 1)) := by show nI _ * nI 7 + _ = _; rw [nI_mulE, nI_add]
  rw [e7, nI_clampE (show T.pr c * 7 + (S.vi c + 1) < 2147483648 by omega), gI_o (by omega), gI_o (by omega), gI_o (by omega), gI_o (by omega), s6.2 _ _ hp (by omega) hv]
  refine ⟨by simp (disch := omega) only [nI_lit, nI_add, nI_mulE, nI_clampE, nI_eqE, nI_leE, nI_ltE, vp_nIE, true_and, and_true]; omega, fe ?_⟩
  refine k _ ((((((FM.rf _ σ).I (decide_eq_true (by omega))).I (decide_eq_true (by omega))).I (decide_eq_true (by omega))).I (decide_eq_true (by omega))).I (decide_eq_true (by omega))) ⟨?_, ?_, ?_, ⟨?_, ?_, h4.cg (fun i hi => ⟨?_, ?_⟩)⟩, h5.cg (fun i _ => rfl), fun m hm => ?_, h7, h8⟩
  · rw [gI_s, if_pos rfl]; show _ = abI (pgV Γ (T.pr c) (S.vi c + 1) + 1); rw [abI_s (by omega)]; congr 1
  · rw [gI_s, if_neg (by decide), gI_s, if_pos rfl]; rfl
  · rw [gI_s, if_neg (by decide), gI_s, if_neg (by decide), gI_o (by omega), gI_o (by omega), gI_o (by omega)]; exact h3
  · rw [gI_o (by omega), gI_o (by omega), gI_o (by omega), gI_s, if_pos rfl]
  · rw [gI_o (by omega), gI_o (by omega), gI_s, if_pos rfl]; exact hw
  · rw [gI_o (by omega), gI_o (by omega), gI_o (by omega), gI_s, if_neg (by omega), gI_o (by omega)]
  · rw [gI_o (by omega), gI_o (by omega), gI_s, if_neg (by omega), gI_o (by omega), gI_o (by omega)]
  · rw [gI_o (by omega), gI_o (by omega), gI_o (by omega), gI_o (by omega), gI_s]
    show _ = nI (uf S.vi c (S.vi c + 1) m)
    by_cases e : m = c
    · rw [if_pos e, e, uf_s]
    · rw [if_neg e, uf_o _ _ e]; exact h6 m hm
end CM
