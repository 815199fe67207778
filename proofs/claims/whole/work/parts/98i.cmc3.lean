/-! ===== the machine, the class's: a step, a run ===== -/
section CM
variable {σ : ab_S} {M g x n bk : Nat} {Γ : GRT} {T : TST} {b : Bool} {S : MST} {r : List (Nat × Nat)} {E : String → ab_S → Prop}
theorem c_leav (hM : isM M) (hG : GOK Γ) (hSt : CSt σ M g x Γ T b) (hR : RCd σ M S) (hT : TOK Γ T) (hsk : S.sk = (n, bk) :: r) (hl : r.length ≤ n) (hn : n < T.N) (hvi : S.vi n ≤ svs Γ (hdS Γ (T.pr n))) {Q : ab_S → Prop} (k : ∀ τ, FM (SMc M) σ τ → RCd τ M (mLv Γ T S n bk r) → Q τ) : wX2_leave M Q E σ := by
  have hMb := isM_b hM
  have hG0 := hG
  obtain ⟨hV, hL, _⟩ := hG
  have hN := hT.2.1
  have hp : T.pr n < Γ.2.1 := ((hT.2.2 n hn).1).1
  have h30 := hV.2.1
  have h12 := hV.1.1
  have hhd : hdS Γ (T.pr n) < Γ.1.1 := (hV.2.2.2 _ hp).2.1.2.1 0 (Nat.zero_le _)
  have hvis := hL.vis _ hhd
  have hR0 := hR
  obtain ⟨h1, h2, h3, h4, h5, h6, h7, h8⟩ := hR
  rw [hsk] at h2 h4
  have h2 : σ.2.1 M 11 = nI (r.length + 1) := h2
  have es : nI (r.length + 1) - 1 = nI r.length := by show nI _ - nI 1 = _; rw [nI_subE (by omega)]; congr 1
  have ed : (nI r.length).toNatClampNeg = r.length := nI_clampE (by omega)
  have evd : vp_in (nI r.length) 250 := by simp (disch := omega) only [nI_lit, nI_add, nI_mulE, nI_clampE, nI_eqE, nI_leE, nI_ltE, vp_nIE, true_and, and_true]; omega
  have ec : (nI n).toNatClampNeg = n := nI_clampE (by omega)
  have ev : vp_in (nI n) 250 := by simp (disch := omega) only [nI_lit, nI_add, nI_mulE, nI_clampE, nI_eqE, nI_leE, nI_ltE, vp_nIE, true_and, and_true]; omega
  unfold wX2_leave
  rw [h2, es]
  refine fe ?_
  rw [gI_s, if_pos rfl, ed, gI_o (by omega), h4.1]
  refine ⟨evd, fe ⟨evd, ?_⟩⟩
  rw [gI_o (by omega), h4.2.1]
  refine fe ?_
  generalize hτ : ab_I (ab_I σ M 11 (nI r.length)) M 10 (abI bk) = τ
  have F1 : FM (SMc M) σ τ := by rw [← hτ]; exact ((FM.rf _ σ).I (decide_eq_true (by omega))).I (decide_eq_true (by omega))
  have R1 : RCd τ M (bk, r, S.vi, S.vs, S.kp, S.va) := by
    rw [← hτ]
    refine ⟨by rw [gI_s, if_pos rfl], by rw [gI_s, if_neg (by decide), gI_s, if_pos rfl], by rw [gI_s, if_neg (by decide), gI_s, if_neg (by decide)]; exact h3, h4.2.2.cg (fun i _ => ⟨?_, ?_⟩), h5.cg (fun i _ => rfl), fun m hm => ?_, h7, h8⟩
    · rw [gI_o (by omega), gI_o (by omega)]
    · rw [gI_o (by omega), gI_o (by omega)]
    · rw [gI_o (by omega), gI_o (by omega)]; exact h6 m hm
  clear hτ
  have St1 := hSt.fm hM hV F1
  rw [R1.2.1]
  cases r with
  | cons z r =>
    exact yes (by show ¬ nI (r.length + 1) = nI 0; have hl : r.length + 1 ≤ n := hl; rw [nI_eqE (by omega) (by omega)]; omega) (k τ F1 R1)
  | nil =>
    refine no (fun z => z rfl) ⟨ev, g, St1.1, St1.2.2.1, g, St1.1, St1.2.2.1, x, St1.2.1, St1.2.2.2.1, ev, ?_⟩
    rw [ec, (St1.2.2.2.2.2.2.1.2 n hn).1]
    have e4 : nI (T.pr n) * 4 + 0 = nI (T.pr n * 4) := by show nI _ * nI 4 + nI 0 = _; rw [nI_mulE, nI_add]; rfl
    unfold wX0_symbolAt
    have w0 : τ.2.1 (g + 7) (T.pr n * 4) = nI (hdS Γ (T.pr n)) := (St1.2.2.2.2.2.2.2.1.2.2.2 _ hp).2.2.1 0 (by omega)
    rw [e4, nI_clampE (show T.pr n * 4 < 2147483648 by omega), w0]
    refine ⟨by simp (disch := omega) only [nI_lit, nI_add, nI_mulE, nI_clampE, nI_eqE, nI_leE, nI_ltE, vp_nIE, true_and, and_true]; omega, by simp (disch := omega) only [nI_lit, nI_add, nI_mulE, nI_clampE, nI_eqE, nI_leE, nI_ltE, vp_nIE, true_and, and_true]; omega, ?_⟩
    rw [nI_clampE (show hdS Γ (T.pr n) < 2147483648 by omega), (St1.2.2.2.2.2.2.2.2 _ hhd).2, R1.2.2.2.2.2.1 n (by omega)]
    unfold mLv at k
    by_cases c : S.vi n < svs Γ (hdS Γ (T.pr n))
    · rw [if_pos c] at k
      refine no (by show ¬ nI _ ≤ nI (S.vi n); simp (disch := omega) only [nI_lit, nI_add, nI_mulE, nI_clampE, nI_eqE, nI_leE, nI_ltE, vp_nIE, true_and, and_true]; omega) ?_
      exact c_entr (S := (bk, [], S.vi, S.vs, S.kp, S.va)) hM hG0 St1 R1.2 hT (by show 0 < 250; omega) hn c (bk' := 0) rfl (fun τ2 F2 R2 => k τ2 (F1.tr F2) R2)
    · rw [if_neg c] at k
      exact yes (by show nI _ ≤ nI (S.vi n); simp (disch := omega) only [nI_lit, nI_add, nI_mulE, nI_clampE, nI_eqE, nI_leE, nI_ltE, vp_nIE, true_and, and_true]; omega) (k τ F1 R1)
theorem c_tst (hM : isM M) (hV : GRV Γ) (hSt : CSt σ M g x Γ T b) (hR : RCd σ M S) {I : Nat × Nat × Nat} (hw : pgB Γ Γ.2.1 ≤ 3000) (h1 : 1 ≤ I.2.1) (h2 : I.2.1 ≤ pgB Γ Γ.2.1) {a : VL8} {s : List VL8} (hs : S.vs = a :: s) (hl : S.vs.length ≤ 34) {Q : ab_S → Prop} (k : ∀ τ, FM (SMc M) σ τ → RCd τ M (mTs Γ (S.pc - 1, S.sk, S.vi, S.vs, S.kp, S.va) I S.vs) → Q τ) (hpc : 1 ≤ S.pc) : wX2_test M (nI I.2.1) Q E σ := by
  have hMb := isM_b hM
  have hl2 : s.length + 1 ≤ 34 := by rw [hs] at hl; exact hl
  unfold wX2_test
  refine c_ppp hM hR hs (by omega) (fun τ F1 R1 => ?_)
  have St1 := hSt.fm hM hV F1
  rw [hs] at k
  cases a with
  | none =>
    refine yes (fun z => absurd ((lgc0 _ _).mp z) (by decide)) (no (fun z => z ((lgc0 _ _).mpr rfl)) ?_)
    refine c_psh (S := (S.pc, S.sk, S.vi, s, S.kp, S.va)) (v := none) hM R1 (by show s.length < 40; omega) (fun τ2 F2 R2 => ?_)
    have St2 := St1.fm hM hV F2
    have es : nI I.2.1 - 1 = nI (I.2.1 - 1) := by show nI _ - nI 1 = _; exact nI_subE h1
    have e25 : τ2.2.1 25 (I.2.1 - 1) = nI ((PLs Γ Γ.2.1).getD (I.2.1 - 1) (0, 0, 0)).2.1 := (St2.2.2.2.2.2.1.1.2 (I.2.1 - 1) (by rw [LP_len]; omega)).2.1
    rw [es, nI_clampE (show I.2.1 - 1 < 2147483648 by omega), e25]
    refine ⟨by simp (disch := omega) only [nI_lit, nI_add, nI_mulE, nI_clampE, nI_eqE, nI_leE, nI_ltE, vp_nIE, true_and, and_true]; omega, fe ?_⟩
    obtain ⟨R3, F3⟩ := R2.pc (p := ((PLs Γ Γ.2.1).getD (I.2.1 - 1) (0, 0, 0)).2.1 + 1) (v := nI ((PLs Γ Γ.2.1).getD (I.2.1 - 1) (0, 0, 0)).2.1) (by rw [abI_s (by omega)]; congr 1)
    exact k _ ((F1.tr F2).tr F3) R3
  | some v =>
    have hm : mTs Γ (S.pc - 1, S.sk, S.vi, some v :: s, S.kp, S.va) I (some v :: s) = (if v = 0 then I.2.1 + 1 else S.pc - 1 + 1, S.sk, S.vi, s, S.kp, S.va) := rfl
    by_cases v0 : v = 0
    · refine no (fun z => z ((lgc0 _ _).mpr (vL_z.mpr v0))) (fe ?_)
      obtain ⟨R3, F3⟩ := R1.pc (p := I.2.1 + 1) (v := nI I.2.1) (by rw [abI_s (by omega)]; congr 1)
      refine k _ (F1.tr F3) ?_
      show RCd _ M (if v = 0 then I.2.1 + 1 else S.pc - 1 + 1, S.sk, S.vi, s, S.kp, S.va)
      rw [if_pos v0]; exact R3
    · refine yes (fun z => v0 (vL_z.mp ((lgc0 _ _).mp z))) (yes (fun z => vL_ne v ((lgc0 _ _).mp z)) ?_)
      refine k _ F1 ?_
      show RCd _ M (if v = 0 then I.2.1 + 1 else S.pc - 1 + 1, S.sk, S.vi, s, S.kp, S.va)
      rw [if_neg v0, show S.pc - 1 + 1 = S.pc by omega]; exact R1
/-- a step -/
theorem c_prf (hM : isM M) (hG : GOK Γ) (hSt : CSt σ M g x Γ T b) (hR : RCd σ M S) (hT : TOK Γ T) (hsk : S.sk = (n, bk) :: r) (hl : r.length ≤ n) (hv : Vld Γ T S n (ins Γ S)) {Q : ab_S → Prop} (k : ∀ τ, FM (SMc M) σ τ → RCd τ M (mTp Γ T b S n bk r (ins Γ S)) → Q τ) : wX2_perform M (abI S.pc) Q E σ := by
  have hMb := isM_b hM
  have hV := hG.1
  have hw := hG.2.2.2.1
  have hN := hT.2.1
  obtain ⟨v1, v2, v3, v4, v5, v6, v7, v8, v9, v10, v11, v12⟩ := hv
  obtain ⟨p4, p5, p6⟩ := hSt.2.2.2.2.2.1.1.2 (S.pc - 1) (by rw [LP_len]; omega)
  have p4 : σ.2.1 24 (S.pc - 1) = nI (ins Γ S).1 := p4
  have p5 : σ.2.1 25 (S.pc - 1) = nI (ins Γ S).2.1 := p5
  have p6 : σ.2.1 26 (S.pc - 1) = nI (ins Γ S).2.2 := p6
  generalize ins Γ S = I at *
  have hi : S.pc - 1 < 3000 := by omega
  have ec : (nI (S.pc - 1)).toNatClampNeg = S.pc - 1 := nI_clampE (by omega)
  have ev : vp_in (nI (S.pc - 1)) 3000 := by simp (disch := omega) only [nI_lit, nI_add, nI_mulE, nI_clampE, nI_eqE, nI_leE, nI_ltE, vp_nIE, true_and, and_true]; omega
  have h2 : σ.2.1 M 11 = nI (r.length + 1) := by have := hR.2.1; rw [hsk] at this; exact this
  have hU : σ.2.1 (M + 5) r.length = nI n := by have := hR.2.2.2.1; rw [hsk] at this; exact this.1
  have es : nI (r.length + 1) - 1 = nI r.length := by show nI _ - nI 1 = _; rw [nI_subE (by omega)]; congr 1
  have ed : (nI r.length).toNatClampNeg = r.length := nI_clampE (by omega)
  have evd : vp_in (nI r.length) 250 := by simp (disch := omega) only [nI_lit, nI_add, nI_mulE, nI_clampE, nI_eqE, nI_leE, nI_ltE, vp_nIE, true_and, and_true]; omega
  have enc' : (nI n).toNatClampNeg = n := nI_clampE (by omega)
  have evn : vp_in (nI n) 250 := by simp (disch := omega) only [nI_lit, nI_add, nI_mulE, nI_clampE, nI_eqE, nI_leE, nI_ltE, vp_nIE, true_and, and_true]; omega
  have hp : T.pr n < Γ.2.1 := ((hT.2.2 n v5).1).1
  have hrt : rt Γ (T.pr n) ≤ 3 := (hV.2.2.2 _ hp).2.1.1
  obtain ⟨R1, F1⟩ := hR.pc (p := S.pc + 1) (v := nI (S.pc - 1 + 1)) (by rw [abI_s (by omega)]; congr 1; omega)
  have St1 := hSt.fm hM hV F1
  have q4 : (ab_I σ M 10 (nI (S.pc - 1 + 1))).2.1 24 (S.pc - 1) = nI I.1 := by rw [gI_o (by omega)]; exact p4
  have q5 : (ab_I σ M 10 (nI (S.pc - 1 + 1))).2.1 25 (S.pc - 1) = nI I.2.1 := by rw [gI_o (by omega)]; exact p5
  have q6 : (ab_I σ M 10 (nI (S.pc - 1 + 1))).2.1 26 (S.pc - 1) = nI I.2.2 := by rw [gI_o (by omega)]; exact p6
  unfold wX2_perform
  rw [abI_s (show S.pc ≠ 0 by omega), ec, p4, h2, es, ed, hU, nI_1]
  refine ⟨ev, fe ⟨evd, fe (fe ?_)⟩⟩
  generalize ab_I σ M 10 (nI (S.pc - 1 + 1)) = τ at *
  obtain ⟨ik, inum, isl⟩ := I
  dsimp only at q4 q5 q6 ⊢
  have hcase : ik = 0 ∨ ik = 1 ∨ ik = 2 ∨ ik = 3 ∨ ik = 4 ∨ ik = 5 ∨ ik = 6 ∨ ik = 7 ∨ ik = 8 ∨ ik = 9 ∨ ik = 10 ∨ ik = 11 ∨ ik = 12 ∨ ik = 13 ∨ ik = 14 ∨ ik = 15 ∨ ik = 16 ∨ ik = 17 ∨ ik = 18 ∨ ik = 19 ∨ ik = 20 := by have v3 : ik ≤ 20 := v3; omega
  rcases hcase with rfl | rfl | rfl | rfl | rfl | rfl | rfl | rfl | rfl | rfl | rfl | rfl | rfl | rfl | rfl | rfl | rfl | rfl | rfl | rfl | rfl
  · refine yes rfl ?_
    rw [q5]
    exact ⟨ev, c_psh (v := some (nI inum)) hM R1 (by show S.vs.length < 40; omega) (fun τ2 F2 R2 => k τ2 (F1.tr F2) R2)⟩
  · refine no (by decide) (yes rfl ?_)
    refine ⟨x, St1.2.1, St1.2.2.2.1, evn, ?_⟩
    rw [enc', (St1.2.2.2.2.2.2.1.2 n v5).2.2.1]
    exact c_psh (v := some (T.li n)) hM R1 (by show S.vs.length < 40; omega) (fun τ2 F2 R2 => k τ2 (F1.tr F2) R2)
  · refine no (by decide) (no (by decide) (yes rfl ?_))
    obtain ⟨w1, w2⟩ := v6 (by show 2 ≤ 2; omega) (by show 2 ≤ 5; omega)
    have := c_get (E := E) (S := (S.pc + 1, S.sk, S.vi, S.vs, S.kp, S.va)) (Q := fun σ5 => Q σ5) hM hV St1 R1 hT v5 hi (I := (2, inum, isl)) q5 q6 (by show 2 ≤ 2; omega) (by show 2 ≤ 5; omega) w1 w2 v4 (fun τ2 F2 R2 => k τ2 (F1.tr F2) R2)
    rw [ec] at this
    exact this
  · refine no (by decide) (no (by decide) (no (by decide) (yes rfl ?_)))
    obtain ⟨w1, w2⟩ := v6 (by show 2 ≤ 3; omega) (by show 3 ≤ 5; omega)
    have := c_get (E := E) (S := (S.pc + 1, S.sk, S.vi, S.vs, S.kp, S.va)) (Q := fun σ5 => Q σ5) hM hV St1 R1 hT v5 hi (I := (3, inum, isl)) q5 q6 (by show 2 ≤ 3; omega) (by show 3 ≤ 5; omega) w1 w2 v4 (fun τ2 F2 R2 => k τ2 (F1.tr F2) R2)
    rw [ec] at this
    exact this
  · refine no (by decide) (no (by decide) (no (by decide) (no (by decide) (yes rfl ?_))))
    obtain ⟨w1, w2⟩ := v6 (by show 2 ≤ 4; omega) (by show 4 ≤ 5; omega)
    have := c_get (E := E) (S := (S.pc + 1, S.sk, S.vi, S.vs, S.kp, S.va)) (Q := fun σ5 => Q σ5) hM hV St1 R1 hT v5 hi (I := (4, inum, isl)) q5 q6 (by show 2 ≤ 4; omega) (by show 4 ≤ 5; omega) w1 w2 v4 (fun τ2 F2 R2 => k τ2 (F1.tr F2) R2)
    rw [ec] at this
    exact this
  · refine no (by decide) (no (by decide) (no (by decide) (no (by decide) (no (by decide) (yes rfl ?_)))))
    obtain ⟨w1, w2⟩ := v6 (by show 2 ≤ 5; omega) (by show 5 ≤ 5; omega)
    have := c_get (E := E) (S := (S.pc + 1, S.sk, S.vi, S.vs, S.kp, S.va)) (Q := fun σ5 => Q σ5) hM hV St1 R1 hT v5 hi (I := (5, inum, isl)) q5 q6 (by show 2 ≤ 5; omega) (by show 5 ≤ 5; omega) w1 w2 v4 (fun τ2 F2 R2 => k τ2 (F1.tr F2) R2)
    rw [ec] at this
    exact this
  · refine no (by decide) (no (by decide) (no (by decide) (no (by decide) (no (by decide) (no (by decide) (yes rfl ?_))))))
    obtain ⟨a, s, hs⟩ := v7 rfl
    have hl2 : s.length + 1 ≤ 34 := by rw [hs] at v4; exact v4
    refine c_ppp (S := (S.pc + 1, S.sk, S.vi, S.vs, S.kp, S.va)) hM R1 hs (by show S.vs.length ≤ 40; omega) (fun τ2 F2 R2 => ?_)
    have hop := c_op (E := E) (σ := τ2) (k := 8) (a := some 0) (b := a) (Q := fun u27 σ26 => wX2_push M u27 (fun σ28 => Q σ28) E σ26) (by omega) (by omega)
    refine hop ?_
    have en : vbin 8 (some 0) a = vneg a := by cases a <;> rfl
    rw [en]
    refine c_psh (S := (S.pc + 1, S.sk, S.vi, s, S.kp, S.va)) hM R2 (by show s.length < 40; omega) (fun τ3 F3 R3 => k τ3 ((F1.tr F2).tr F3) ?_)
    have e : mTp Γ T b S n bk r (6, inum, isl) = (S.pc + 1, S.sk, S.vi, vneg a :: s, S.kp, S.va) := by
      show mNg S S.vs = _
      rw [hs]; rfl
    rw [e]; exact R3
  · refine no (by decide) (no (by decide) (no (by decide) (no (by decide) (no (by decide) (no (by decide) (no (by decide) (yes rfl ?_)))))))
    obtain ⟨c, a, s, hs⟩ := v8 (by show 7 ≤ 7; omega) (by show 7 ≤ 12; omega)
    refine c_bin (S := (S.pc + 1, S.sk, S.vi, S.vs, S.kp, S.va)) (k := 7) hM R1 (by omega) (by omega) hs v4 (fun τ2 F2 R2 => k τ2 (F1.tr F2) ?_)
    have e : mTp Γ T b S n bk r (7, inum, isl) = (S.pc + 1, S.sk, S.vi, vbin 7 a c :: s, S.kp, S.va) := by
      show mBn S 7 S.vs = _
      rw [hs]; rfl
    rw [e]; exact R2
  · refine no (by decide) (no (by decide) (no (by decide) (no (by decide) (no (by decide) (no (by decide) (no (by decide) (no (by decide) (yes rfl ?_))))))))
    obtain ⟨c, a, s, hs⟩ := v8 (by show 7 ≤ 8; omega) (by show 8 ≤ 12; omega)
    refine c_bin (S := (S.pc + 1, S.sk, S.vi, S.vs, S.kp, S.va)) (k := 8) hM R1 (by omega) (by omega) hs v4 (fun τ2 F2 R2 => k τ2 (F1.tr F2) ?_)
    have e : mTp Γ T b S n bk r (8, inum, isl) = (S.pc + 1, S.sk, S.vi, vbin 8 a c :: s, S.kp, S.va) := by
      show mBn S 8 S.vs = _
      rw [hs]; rfl
    rw [e]; exact R2
  · refine no (by decide) (no (by decide) (no (by decide) (no (by decide) (no (by decide) (no (by decide) (no (by decide) (no (by decide) (no (by decide) (yes rfl ?_)))))))))
    obtain ⟨c, a, s, hs⟩ := v8 (by show 7 ≤ 9; omega) (by show 9 ≤ 12; omega)
    refine c_bin (S := (S.pc + 1, S.sk, S.vi, S.vs, S.kp, S.va)) (k := 9) hM R1 (by omega) (by omega) hs v4 (fun τ2 F2 R2 => k τ2 (F1.tr F2) ?_)
    have e : mTp Γ T b S n bk r (9, inum, isl) = (S.pc + 1, S.sk, S.vi, vbin 9 a c :: s, S.kp, S.va) := by
      show mBn S 9 S.vs = _
      rw [hs]; rfl
    rw [e]; exact R2
  · refine no (by decide) (no (by decide) (no (by decide) (no (by decide) (no (by decide) (no (by decide) (no (by decide) (no (by decide) (no (by decide) (no (by decide) (yes rfl ?_))))))))))
    obtain ⟨c, a, s, hs⟩ := v8 (by show 7 ≤ 10; omega) (by show 10 ≤ 12; omega)
    refine c_bin (S := (S.pc + 1, S.sk, S.vi, S.vs, S.kp, S.va)) (k := 10) hM R1 (by omega) (by omega) hs v4 (fun τ2 F2 R2 => k τ2 (F1.tr F2) ?_)
    have e : mTp Γ T b S n bk r (10, inum, isl) = (S.pc + 1, S.sk, S.vi, vbin 10 a c :: s, S.kp, S.va) := by
      show mBn S 10 S.vs = _
      rw [hs]; rfl
    rw [e]; exact R2
  · refine no (by decide) (no (by decide) (no (by decide) (no (by decide) (no (by decide) (no (by decide) (no (by decide) (no (by decide) (no (by decide) (no (by decide) (no (by decide) (yes rfl ?_)))))))))))
    obtain ⟨c, a, s, hs⟩ := v8 (by show 7 ≤ 11; omega) (by show 11 ≤ 12; omega)
    refine c_bin (S := (S.pc + 1, S.sk, S.vi, S.vs, S.kp, S.va)) (k := 11) hM R1 (by omega) (by omega) hs v4 (fun τ2 F2 R2 => k τ2 (F1.tr F2) ?_)
    have e : mTp Γ T b S n bk r (11, inum, isl) = (S.pc + 1, S.sk, S.vi, vbin 11 a c :: s, S.kp, S.va) := by
      show mBn S 11 S.vs = _
      rw [hs]; rfl
    rw [e]; exact R2
  · refine no (by decide) (no (by decide) (no (by decide) (no (by decide) (no (by decide) (no (by decide) (no (by decide) (no (by decide) (no (by decide) (no (by decide) (no (by decide) (no (by decide) (yes rfl ?_))))))))))))
    obtain ⟨c, a, s, hs⟩ := v8 (by show 7 ≤ 12; omega) (by show 12 ≤ 12; omega)
    refine c_bin (S := (S.pc + 1, S.sk, S.vi, S.vs, S.kp, S.va)) (k := 12) hM R1 (by omega) (by omega) hs v4 (fun τ2 F2 R2 => k τ2 (F1.tr F2) ?_)
    have e : mTp Γ T b S n bk r (12, inum, isl) = (S.pc + 1, S.sk, S.vi, vbin 12 a c :: s, S.kp, S.va) := by
      show mBn S 12 S.vs = _
      rw [hs]; rfl
    rw [e]; exact R2
  · refine no (by decide) (no (by decide) (no (by decide) (no (by decide) (no (by decide) (no (by decide) (no (by decide) (no (by decide) (no (by decide) (no (by decide) (no (by decide) (no (by decide) (no (by decide) (yes rfl ?_)))))))))))))
    obtain ⟨⟨a, s, hs⟩, w1, w2⟩ := v9 rfl
    rw [q5]
    exact ⟨ev, c_tst (S := (S.pc + 1, S.sk, S.vi, S.vs, S.kp, S.va)) (I := (13, inum, isl)) hM hV St1 R1 hw w1 w2 hs v4 (fun τ2 F2 R2 => k τ2 (F1.tr F2) R2) (by show 1 ≤ S.pc + 1; omega)⟩
  · refine no (by decide) (no (by decide) (no (by decide) (no (by decide) (no (by decide) (no (by decide) (no (by decide) (no (by decide) (no (by decide) (no (by decide) (no (by decide) (no (by decide) (no (by decide) (no (by decide) (yes rfl ?_))))))))))))))
    rw [q5]
    refine ⟨ev, fe ?_⟩
    obtain ⟨R2, F2⟩ := R1.pc (p := inum + 1) (v := nI inum) (by rw [abI_s (by omega)]; congr 1)
    exact k _ (F1.tr F2) R2
  · refine no (by decide) (no (by decide) (no (by decide) (no (by decide) (no (by decide) (no (by decide) (no (by decide) (no (by decide) (no (by decide) (no (by decide) (no (by decide) (no (by decide) (no (by decide) (no (by decide) (no (by decide) (yes rfl ?_)))))))))))))))
    obtain ⟨⟨v, hvs⟩, w1, w2⟩ := v10 (by show 15 ≤ 15; omega) (by show 15 ≤ 18; omega)
    refine c_setI (S := (S.pc + 1, S.sk, S.vi, S.vs, S.kp, S.va)) (I := (15, inum, isl)) hM hV St1 R1 hT v5 hi q4 q5 q6 (by show 15 ≤ 15; omega) (by show 15 ≤ 18; omega) w1 w2 hvs (fun τ2 F2 R2 => k τ2 (F1.tr F2) ?_)
    have e : mTp Γ T b S n bk r (15, inum, isl) = (S.pc + 1, (mSt T b (S.pc + 1, S.sk, S.vi, S.vs, S.kp, S.va) n (15, inum, isl) [v]).2) := by
      show mSt T b S n (15, inum, isl) S.vs = _
      rw [hvs]
      unfold mSt
      dsimp only
      split <;> rfl
    rw [e]; exact R2
  · refine no (by decide) (no (by decide) (no (by decide) (no (by decide) (no (by decide) (no (by decide) (no (by decide) (no (by decide) (no (by decide) (no (by decide) (no (by decide) (no (by decide) (no (by decide) (no (by decide) (no (by decide) (no (by decide) (yes rfl ?_))))))))))))))))
    obtain ⟨⟨v, hvs⟩, w1, w2⟩ := v10 (by show 15 ≤ 16; omega) (by show 16 ≤ 18; omega)
    refine c_setI (S := (S.pc + 1, S.sk, S.vi, S.vs, S.kp, S.va)) (I := (16, inum, isl)) hM hV St1 R1 hT v5 hi q4 q5 q6 (by show 15 ≤ 16; omega) (by show 16 ≤ 18; omega) w1 w2 hvs (fun τ2 F2 R2 => k τ2 (F1.tr F2) ?_)
    have e : mTp Γ T b S n bk r (16, inum, isl) = (S.pc + 1, (mSt T b (S.pc + 1, S.sk, S.vi, S.vs, S.kp, S.va) n (16, inum, isl) [v]).2) := by
      show mSt T b S n (16, inum, isl) S.vs = _
      rw [hvs]
      unfold mSt
      dsimp only
      split <;> rfl
    rw [e]; exact R2
  · refine no (by decide) (no (by decide) (no (by decide) (no (by decide) (no (by decide) (no (by decide) (no (by decide) (no (by decide) (no (by decide) (no (by decide) (no (by decide) (no (by decide) (no (by decide) (no (by decide) (no (by decide) (no (by decide) (no (by decide) (yes rfl ?_)))))))))))))))))
    obtain ⟨⟨v, hvs⟩, w1, w2⟩ := v10 (by show 15 ≤ 17; omega) (by show 17 ≤ 18; omega)
    refine c_setI (S := (S.pc + 1, S.sk, S.vi, S.vs, S.kp, S.va)) (I := (17, inum, isl)) hM hV St1 R1 hT v5 hi q4 q5 q6 (by show 15 ≤ 17; omega) (by show 17 ≤ 18; omega) w1 w2 hvs (fun τ2 F2 R2 => k τ2 (F1.tr F2) ?_)
    have e : mTp Γ T b S n bk r (17, inum, isl) = (S.pc + 1, (mSt T b (S.pc + 1, S.sk, S.vi, S.vs, S.kp, S.va) n (17, inum, isl) [v]).2) := by
      show mSt T b S n (17, inum, isl) S.vs = _
      rw [hvs]
      unfold mSt
      dsimp only
      split <;> rfl
    rw [e]; exact R2
  · refine no (by decide) (no (by decide) (no (by decide) (no (by decide) (no (by decide) (no (by decide) (no (by decide) (no (by decide) (no (by decide) (no (by decide) (no (by decide) (no (by decide) (no (by decide) (no (by decide) (no (by decide) (no (by decide) (no (by decide) (no (by decide) (yes rfl ?_))))))))))))))))))
    obtain ⟨⟨v, hvs⟩, w1, w2⟩ := v10 (by show 15 ≤ 18; omega) (by show 18 ≤ 18; omega)
    refine c_setI (S := (S.pc + 1, S.sk, S.vi, S.vs, S.kp, S.va)) (I := (18, inum, isl)) hM hV St1 R1 hT v5 hi q4 q5 q6 (by show 15 ≤ 18; omega) (by show 18 ≤ 18; omega) w1 w2 hvs (fun τ2 F2 R2 => k τ2 (F1.tr F2) ?_)
    have e : mTp Γ T b S n bk r (18, inum, isl) = (S.pc + 1, (mSt T b (S.pc + 1, S.sk, S.vi, S.vs, S.kp, S.va) n (18, inum, isl) [v]).2) := by
      show mSt T b S n (18, inum, isl) S.vs = _
      rw [hvs]
      unfold mSt
      dsimp only
      split <;> rfl
    rw [e]; exact R2
  · refine no (by decide) (no (by decide) (no (by decide) (no (by decide) (no (by decide) (no (by decide) (no (by decide) (no (by decide) (no (by decide) (no (by decide) (no (by decide) (no (by decide) (no (by decide) (no (by decide) (no (by decide) (no (by decide) (no (by decide) (no (by decide) (no (by decide) (yes rfl ?_)))))))))))))))))))
    obtain ⟨w1, w2, w3⟩ := v11 rfl
    refine ⟨x, St1.2.1, St1.2.2.2.1, ev, ?_⟩
    rw [q5]
    refine c_nAt St1 hT v5 w2 hrt ?_
    have hc : T.ch n inum < T.N := ch_lt hT v5 w2
    have hcn := ((hT.2.2 n v5).1.2.2.2.2.2.2.1 inum w1 (by rw [(hT.2.2 n v5).2]; exact w2)).1
    refine c_entr (S := (S.pc + 1, S.sk, S.vi, S.vs, S.kp, S.va)) hM hG St1 R1.2 hT (by show S.sk.length < 250; rw [hsk, List.length_cons]; omega) hc w3 (bk' := S.pc + 1) R1.1 (fun τ2 F2 R2 => k τ2 (F1.tr F2) R2)
  · refine no (by decide) (no (by decide) (no (by decide) (no (by decide) (no (by decide) (no (by decide) (no (by decide) (no (by decide) (no (by decide) (no (by decide) (no (by decide) (no (by decide) (no (by decide) (no (by decide) (no (by decide) (no (by decide) (no (by decide) (no (by decide) (no (by decide) (no (by decide) (yes rfl ?_))))))))))))))))))))
    refine c_leav (S := (S.pc + 1, S.sk, S.vi, S.vs, S.kp, S.va)) hM hG St1 R1 hT hsk hl v5 (v12 rfl) (fun τ2 F2 R2 => k τ2 (F1.tr F2) ?_)
    have e : mTp Γ T b S n bk r (20, inum, isl) = mLv Γ T (S.pc + 1, S.sk, S.vi, S.vs, S.kp, S.va) n bk r := by
      show mLv Γ T S n bk r = _
      cases r <;> rfl
    rw [e]; exact R2
end CM
