/-! ===== the program, the model's: put together ===== -/
def MPg (σ : ab_S) (Γ : GRT) : Prop := PgM σ (PLs Γ Γ.2.1) ∧ ∀ p v, p < Γ.2.1 → 1 ≤ v → v ≤ svs Γ (hdS Γ p) → σ.2.1 148 (6 * p + v) = nI (pgV Γ p v)
section MP
variable {σ : ab_S} {Γ : GRT} {E : String → ab_S → Prop}
theorem m_mkP (hX : MXg σ Γ) (hPf : ∀ p, p < Γ.2.1 → MPf σ Γ p) (hS : MSf σ Γ) (hV : GRV Γ) (hL : LVF Γ) (hw : pgB Γ Γ.2.1 ≤ 3000) {Q : ab_S → Prop} (h : ∀ τ, FM S146 σ τ → MW τ Γ → MPg τ Γ → Q τ) : wX12_makeProgram Q E σ := by
  have h30 := hV.2.1
  have h12 := hV.1.1
  unfold wX12_makeProgram
  refine fe ⟨Γ.2.1 + 1, ?_⟩
  generalize hσ1 : ab_I σ 92 74 0 = σ1
  have F1 : FM S146 σ σ1 := by rw [← hσ1]; exact (FM.rf _ σ).I (decide_eq_true (by omega))
  have W1 : MW σ1 Γ := MW.s146 ⟨hX, hPf, hS⟩ hV F1
  have P1 : PgM σ1 (PLs Γ 0) := ⟨by rw [← hσ1, gI_I, if_pos rfl, if_pos rfl]; rfl, fun j hj => absurd hj (Nat.not_lt_zero _)⟩
  clear hσ1
  suffices H : ∀ f p τ, Γ.2.1 - p = f → p ≤ Γ.2.1 → FM S146 σ1 τ → PgM τ (PLs Γ p) → (∀ p' v, p' < p → 1 ≤ v → v ≤ svs Γ (hdS Γ p') → τ.2.1 148 (6 * p' + v) = nI (pgV Γ p' v)) → wX12_makeProgram_l7 Q E (f + 1) (nI p) τ from H _ 0 σ1 rfl (Nat.zero_le _) (FM.rf _ _) P1 (fun p' v hp' => absurd hp' (Nat.not_lt_zero _))
  intro f
  induction f with
  | zero =>
    intro p τ hf hp hF hP hd
    have e : p = Γ.2.1 := by omega
    have W2 := W1.s146 hV hF
    show wX12_makeProgram_l7_b _ _ _ _ _
    unfold wX12_makeProgram_l7_b
    rw [W2.1.1.2.1]
    rw [e] at hP hd
    exact yes (by simp (disch := omega) only [nI_lit, nI_add, nI_mulE, nI_clampE, nI_eqE, nI_leE, nI_ltE, vp_nIE, true_and, and_true]; omega) (h τ (F1.tr hF) W2 ⟨hP, fun p' v q1 q2 q3 => hd p' v q1 q2 q3⟩)
  | succ f ih =>
    intro p τ hf hp hF hP hd
    have hp1 : p < Γ.2.1 := by omega
    have q1 : Γ.2.1 - (p + 1) = f := by omega
    have W2 := W1.s146 hV hF
    have hhd : hdS Γ p < Γ.1.1 := (hV.2.2.2 p hp1).2.1.2.1 0 (Nat.zero_le _)
    have hvis := hL.vis _ hhd
    have hB := plB_le hL hV p (by omega)
    have hN := plN_le hL hV hp1
    have hbp : pgB Γ (p + 1) ≤ pgB Γ Γ.2.1 := pgB_mo Γ hp1
    have ebp : pgB Γ (p + 1) = pgB Γ p + (pgS Γ p (plN Γ p) + svs Γ (hdS Γ p)) := rfl
    have e4 : (4 : Int32) * nI p = nI (4 * p) := by show nI 4 * nI p = _; rw [nI_mulE]
    have e6 : ∀ v, (6 : Int32) * nI p + nI v = nI (6 * p + v) := fun v => by show nI 6 * nI p + _ = _; rw [nI_mulE, nI_add]
    show wX12_makeProgram_l7_b Q E (wX12_makeProgram_l7 Q E (f + 1)) (nI p) τ
    unfold wX12_makeProgram_l7_b
    rw [W2.1.1.2.1]
    refine no (by simp (disch := omega) only [nI_lit, nI_add, nI_mulE, nI_clampE, nI_eqE, nI_leE, nI_ltE, vp_nIE, true_and, and_true]; omega) ⟨svs Γ (hdS Γ p) + 1, ?_⟩
    suffices H2 : ∀ f2 u τ, svs Γ (hdS Γ p) - u = f2 → u ≤ svs Γ (hdS Γ p) → FM S146 σ1 τ → PgM τ (PLv Γ p (PLs Γ p) u) → (∀ p' v, p' < p → 1 ≤ v → v ≤ svs Γ (hdS Γ p') → τ.2.1 148 (6 * p' + v) = nI (pgV Γ p' v)) → (∀ v, 1 ≤ v → v ≤ u → τ.2.1 148 (6 * p + v) = nI (pgV Γ p v)) → wX12_makeProgram_l17 Q E (wX12_makeProgram_j150 Q E (wX12_makeProgram_l7 Q E (f + 1))) (f2 + 1) (nI p) (nI (u + 1)) τ from H2 _ 0 τ rfl (Nat.zero_le _) hF hP hd (fun v v1 v2 => by omega)
    clear hP hd hF W2 τ
    intro f2
    induction f2 with
    | zero =>
      intro u τ hf2 hu hF hP hd hd2
      have eu : u = svs Γ (hdS Γ p) := by omega
      have W2 := W1.s146 hV hF
      have w4 : τ.2.1 104 (4 * p) = nI (hdS Γ p) := (W2.1.1.2.2.2 p hp1).2.2.1 0 (by omega)
      show wX12_makeProgram_l17_b _ _ _ _ _ _ _
      unfold wX12_makeProgram_l17_b
      rw [e4, nI_clampE (show 4 * p < 2147483648 by omega), w4, nI_clampE (show hdS Γ p < 2147483648 by omega), (W2.1.2.1 _ hhd).2]
      refine ⟨by simp (disch := omega) only [nI_lit, nI_add, nI_mulE, nI_clampE, nI_eqE, nI_leE, nI_ltE, vp_nIE, true_and, and_true]; omega, by simp (disch := omega) only [nI_lit, nI_add, nI_mulE, nI_clampE, nI_eqE, nI_leE, nI_ltE, vp_nIE, true_and, and_true]; omega, yes (by simp (disch := omega) only [nI_lit, nI_add, nI_mulE, nI_clampE, nI_eqE, nI_leE, nI_ltE, vp_nIE, true_and, and_true]; omega) ?_⟩
      unfold wX12_makeProgram_j150
      rw [nI_1]
      rw [eu] at hP hd2
      refine fe (ih (p + 1) τ q1 hp1 hF hP (fun p' v z1 z2 z3 => ?_))
      by_cases e : p' = p
      · rw [e] at z3 ⊢; exact hd2 v z2 z3
      · exact hd p' v (by omega) z2 z3
    | succ f2 ih2 =>
      intro u τ hf2 hu hF hP hd hd2
      have hu1 : u + 1 ≤ svs Γ (hdS Γ p) := by omega
      have q2 : svs Γ (hdS Γ p) - (u + 1) = f2 := by omega
      have W2 := W1.s146 hV hF
      have w4 : τ.2.1 104 (4 * p) = nI (hdS Γ p) := (W2.1.1.2.2.2 p hp1).2.2.1 0 (by omega)
      show wX12_makeProgram_l17_b Q E (wX12_makeProgram_j150 Q E (wX12_makeProgram_l7 Q E (f + 1))) (wX12_makeProgram_l17 Q E (wX12_makeProgram_j150 Q E (wX12_makeProgram_l7 Q E (f + 1))) (f2 + 1)) (nI p) (nI (u + 1)) τ
      unfold wX12_makeProgram_l17_b
      rw [e4, nI_clampE (show 4 * p < 2147483648 by omega), w4, nI_clampE (show hdS Γ p < 2147483648 by omega), (W2.1.2.1 _ hhd).2, e6, nI_clampE (show 6 * p + (u + 1) < 2147483648 by omega), hP.1, LVp_len]
      refine ⟨by simp (disch := omega) only [nI_lit, nI_add, nI_mulE, nI_clampE, nI_eqE, nI_leE, nI_ltE, vp_nIE, true_and, and_true]; omega, by simp (disch := omega) only [nI_lit, nI_add, nI_mulE, nI_clampE, nI_eqE, nI_leE, nI_ltE, vp_nIE, true_and, and_true]; omega, no (by simp (disch := omega) only [nI_lit, nI_add, nI_mulE, nI_clampE, nI_eqE, nI_leE, nI_ltE, vp_nIE, true_and, and_true]; omega) ⟨by simp (disch := omega) only [nI_lit, nI_add, nI_mulE, nI_clampE, nI_eqE, nI_leE, nI_ltE, vp_nIE, true_and, and_true]; omega, fe ⟨by simp (disch := omega) only [nI_lit, nI_add, nI_mulE, nI_clampE, nI_eqE, nI_leE, nI_ltE, vp_nIE, true_and, and_true]; omega, ?_⟩⟩⟩
      generalize hτ1 : ab_I τ 148 (6 * p + (u + 1)) (nI (pgV Γ p (u + 1))) = τ1
      have F0 : FM (fun a _ => decide (a = 148)) τ τ1 := by rw [← hτ1]; exact (FM.rf _ τ).I (decide_eq_true rfl)
      have F1' : FM S146 σ1 τ1 := hF.tr (F0.mono (fun a i y => by have y := of_decide_eq_false y; exact decide_eq_false (by omega)))
      have w27 : ∀ j, τ1.2.1 148 j = if j = 6 * p + (u + 1) then nI (pgV Γ p (u + 1)) else τ.2.1 148 j := fun j => by rw [← hτ1, gI_I, if_pos rfl]
      have hP1 : PgM τ1 (PLv Γ p (PLs Γ p) u) := hP.fm F0 (fun a i q => decide_eq_false (by omega))
      have hd1 : ∀ p' v, p' < p → 1 ≤ v → v ≤ svs Γ (hdS Γ p') → τ1.2.1 148 (6 * p' + v) = nI (pgV Γ p' v) := by
        intro p' v z1 z2 z3
        have hhd' : hdS Γ p' < Γ.1.1 := (hV.2.2.2 p' (by omega)).2.1.2.1 0 (Nat.zero_le _)
        have := (hL.vis _ hhd').2
        rw [w27, if_neg (by omega)]
        exact hd p' v z1 z2 z3
      have hd21 : ∀ v, 1 ≤ v → v ≤ u + 1 → τ1.2.1 148 (6 * p + v) = nI (pgV Γ p v) := by
        intro v z1 z2
        rw [w27]
        by_cases e : v = u + 1
        · rw [if_pos (by omega), e]
        · rw [if_neg (by omega)]; exact hd2 v z1 (by omega)
      clear hτ1 w27 F0 hP hd hd2 hF W2 w4
      have W3 := W1.s146 hV F1'
      obtain ⟨s114, s115⟩ := (W3.2.1 p hp1).1 (u + 1) (by omega) hu1
      rw [s114]
      refine fe ?_
      have hmo := plF_mo (Γ := Γ) (p := p) (u := u)
      have hle : plF Γ p (u + 2) ≤ plN Γ p := plF_le (u := u + 1) hu1
      refine ⟨plF Γ p (u + 2) - plF Γ p (u + 1) + 1, ?_⟩
      suffices H3 : ∀ f3 n τ, plF Γ p (u + 2) - plF Γ p (u + 1) - n = f3 → n ≤ plF Γ p (u + 2) - plF Γ p (u + 1) → FM S146 τ1 τ → (∀ j, τ.2.1 148 j = τ1.2.1 148 j) → PgM τ (PLe Γ p (PLv Γ p (PLs Γ p) u) (plF Γ p (u + 1)) n) → wX12_makeProgram_l61 Q E (wX12_makeProgram_j137 Q E (wX12_makeProgram_j150 Q E (wX12_makeProgram_l7 Q E (f + 1))) (wX12_makeProgram_l17 Q E (wX12_makeProgram_j150 Q E (wX12_makeProgram_l7 Q E (f + 1))) (f2 + 1))) (f3 + 1) (nI p) (nI (u + 1)) (nI (plB Γ p + (plF Γ p (u + 1) + n))) τ from H3 _ 0 τ1 rfl (Nat.zero_le _) (FM.rf _ _) (fun _ => rfl) hP1
      intro f3
      induction f3 with
      | zero =>
        intro n τ hf3 hn hF h148 hP
        have en : n = plF Γ p (u + 2) - plF Γ p (u + 1) := by omega
        have W4 := W3.s146 hV hF
        have t115 : τ.2.1 115 (6 * p + (u + 1)) = nI (plB Γ p + plF Γ p (u + 2)) := ((W4.2.1 p hp1).1 (u + 1) (by omega) hu1).2
        have hmS := pgS_mo Γ p hle
        show wX12_makeProgram_l61_b _ _ _ _ _ _ _ _
        unfold wX12_makeProgram_l61_b
        rw [e6, nI_clampE (show 6 * p + (u + 1) < 2147483648 by omega), t115]
        refine ⟨by simp (disch := omega) only [nI_lit, nI_add, nI_mulE, nI_clampE, nI_eqE, nI_leE, nI_ltE, vp_nIE, true_and, and_true]; omega, yes (by simp (disch := omega) only [nI_lit, nI_add, nI_mulE, nI_clampE, nI_eqE, nI_leE, nI_ltE, vp_nIE, true_and, and_true]; omega) ?_⟩
        unfold wX12_makeProgram_j137
        have hlen := LEp_len Γ p u n
        rw [show plF Γ p (u + 1) + n = plF Γ p (u + 2) by omega] at hlen
        refine m_wr hP.1 (by rw [hlen]; omega) ?_
        have P2 : PgM (ab_I (ab_I (ab_I τ 146 (PLe Γ p (PLv Γ p (PLs Γ p) u) (plF Γ p (u + 1)) n).length (nI 20)) 147 (PLe Γ p (PLv Γ p (PLs Γ p) u) (plF Γ p (u + 1)) n).length (nI 0)) 92 74 (nI ((PLe Γ p (PLv Γ p (PLs Γ p) u) (plF Γ p (u + 1)) n).length + 1))) (PLe Γ p (PLv Γ p (PLs Γ p) u) (plF Γ p (u + 1)) n ++ [(20, 0, 0)]) := by
          generalize PLe Γ p (PLv Γ p (PLs Γ p) u) (plF Γ p (u + 1)) n = A at *
          refine ⟨?_, fun j hj => ?_⟩
          · rw [gI_I, if_pos rfl, if_pos rfl, List.length_append]; rfl
          · rw [List.length_append, List.length_singleton] at hj
            refine ⟨?_, ?_⟩
            · rw [gI_I, if_neg (by decide), gI_I, if_neg (by decide), gI_I, if_pos rfl]
              by_cases e : j = A.length
              · rw [if_pos e, e, ge_e]
              · rw [if_neg e, ge_l (by omega)]; exact (hP.2 j (by omega)).1
            · rw [gI_I, if_neg (by decide), gI_I, if_pos rfl]
              by_cases e : j = A.length
              · rw [if_pos e, e, ge_e]
              · rw [if_neg e, ge_l (by omega), gI_I, if_neg (by decide)]; exact (hP.2 j (by omega)).2
        have F2 : FM S146 τ1 (ab_I (ab_I (ab_I τ 146 (PLe Γ p (PLv Γ p (PLs Γ p) u) (plF Γ p (u + 1)) n).length (nI 20)) 147 (PLe Γ p (PLv Γ p (PLs Γ p) u) (plF Γ p (u + 1)) n).length (nI 0)) 92 74 (nI ((PLe Γ p (PLv Γ p (PLs Γ p) u) (plF Γ p (u + 1)) n).length + 1))) := ((hF.I (decide_eq_true (by omega))).I (decide_eq_true (by omega))).I (decide_eq_true (by omega))
        rw [nI_1]
        rw [en] at P2
        rw [en] at F2 ⊢
        refine fe (ih2 (u + 1) _ q2 hu1 (F1'.tr F2) P2 (fun p' v z1 z2 z3 => ?_) (fun v z1 z2 => ?_))
        · rw [gI_I, if_neg (by decide), gI_I, if_neg (by decide), gI_I, if_neg (by decide), h148]; exact hd1 p' v z1 z2 z3
        · rw [gI_I, if_neg (by decide), gI_I, if_neg (by decide), gI_I, if_neg (by decide), h148]; exact hd21 v z1 z2
      | succ f3 ih3 =>
        intro n τ hf3 hn hF h148 hP
        have q3 : plF Γ p (u + 2) - plF Γ p (u + 1) - (n + 1) = f3 := by omega
        have W4 := W3.s146 hV hF
        have t115 : τ.2.1 115 (6 * p + (u + 1)) = nI (plB Γ p + plF Γ p (u + 2)) := ((W4.2.1 p hp1).1 (u + 1) (by omega) hu1).2
        have hlen := LEp_len Γ p u n
        have hin : plF Γ p (u + 1) + n < plN Γ p := by omega
        have hmS := pgS_mo Γ p (show plF Γ p (u + 1) + n + 1 ≤ plN Γ p by omega)
        have eS : pgS Γ p (plF Γ p (u + 1) + n + 1) = pgS Γ p (plF Γ p (u + 1) + n) + pgn Γ p (plF Γ p (u + 1) + n) := rfl
        have t113 : τ.2.1 113 (plB Γ p + (plF Γ p (u + 1) + n)) = nI (gE (plP Γ p) (plF Γ p (u + 1) + n)).1 := (W4.2.1 p hp1).2.1 _ hin
        have evE : vp_in (nI (plB Γ p + (plF Γ p (u + 1) + n))) 1600 := by simp (disch := omega) only [nI_lit, nI_add, nI_mulE, nI_clampE, nI_eqE, nI_leE, nI_ltE, vp_nIE, true_and, and_true]; omega
        have nxt : ∀ τ', FM S146 τ τ' → (∀ j, τ'.2.1 148 j = τ.2.1 148 j) → PgM τ' (PLe Γ p (PLv Γ p (PLs Γ p) u) (plF Γ p (u + 1)) n ++ enL Γ p (PLe Γ p (PLv Γ p (PLs Γ p) u) (plF Γ p (u + 1)) n).length (plF Γ p (u + 1) + n)) → wX12_makeProgram_j131 Q E (wX12_makeProgram_j137 Q E (wX12_makeProgram_j150 Q E (wX12_makeProgram_l7 Q E (f + 1))) (wX12_makeProgram_l17 Q E (wX12_makeProgram_j150 Q E (wX12_makeProgram_l7 Q E (f + 1))) (f2 + 1))) (wX12_makeProgram_l61 Q E (wX12_makeProgram_j137 Q E (wX12_makeProgram_j150 Q E (wX12_makeProgram_l7 Q E (f + 1))) (wX12_makeProgram_l17 Q E (wX12_makeProgram_j150 Q E (wX12_makeProgram_l7 Q E (f + 1))) (f2 + 1))) (f3 + 1)) (nI p) (nI (u + 1)) (nI (plB Γ p + (plF Γ p (u + 1) + n))) τ' := by
          intro τ' F' h' P'
          unfold wX12_makeProgram_j131
          rw [nI_1]
          refine fe ?_
          have := ih3 (n + 1) τ' q3 (by omega) (hF.tr F') (fun j => (h' j).trans (h148 j)) P'
          rw [show plB Γ p + (plF Γ p (u + 1) + (n + 1)) = plB Γ p + (plF Γ p (u + 1) + n) + 1 by omega] at this
          exact this
        show wX12_makeProgram_l61_b Q E (wX12_makeProgram_j137 Q E (wX12_makeProgram_j150 Q E (wX12_makeProgram_l7 Q E (f + 1))) (wX12_makeProgram_l17 Q E (wX12_makeProgram_j150 Q E (wX12_makeProgram_l7 Q E (f + 1))) (f2 + 1))) (wX12_makeProgram_l61 Q E (wX12_makeProgram_j137 Q E (wX12_makeProgram_j150 Q E (wX12_makeProgram_l7 Q E (f + 1))) (wX12_makeProgram_l17 Q E (wX12_makeProgram_j150 Q E (wX12_makeProgram_l7 Q E (f + 1))) (f2 + 1))) (f3 + 1)) (nI p) (nI (u + 1)) (nI (plB Γ p + (plF Γ p (u + 1) + n))) τ
        unfold wX12_makeProgram_l61_b
        rw [e6, nI_clampE (show 6 * p + (u + 1) < 2147483648 by omega), t115, nI_clampE (show plB Γ p + (plF Γ p (u + 1) + n) < 2147483648 by omega), t113]
        refine ⟨by simp (disch := omega) only [nI_lit, nI_add, nI_mulE, nI_clampE, nI_eqE, nI_leE, nI_ltE, vp_nIE, true_and, and_true]; omega, no (by simp (disch := omega) only [nI_lit, nI_add, nI_mulE, nI_clampE, nI_eqE, nI_leE, nI_ltE, vp_nIE, true_and, and_true]; omega) ⟨evE, ?_⟩⟩
        rcases en_cs hV hL hp1 hin with ⟨z, x, x1, x2, x3, x4, x5, x6⟩ | ⟨w0, w1, w2, w3, w4, w5, w6⟩
        · obtain ⟨b1, b2, b3, b4, b5⟩ := enc_b x1
          have hI : plI Γ p (plP Γ p) := plI_A hL hV hp1 _
          have hdx := hI.1 x x2
          have ep : pgn Γ p (plF Γ p (u + 1) + n) = (rC Γ p x).length + 1 := by unfold pgn; rw [x4, if_neg (by omega), dx_enc x1]
          have ee : ∀ j, enL Γ p j (plF Γ p (u + 1) + n) = exL Γ p j (rC Γ p x) ++ [(gK Γ p x + 13, gN Γ p x, x)] := fun j => by unfold enL; rw [x4, if_neg (by omega), dx_enc x1]
          rw [ee] at nxt
          rw [x4, i_mod10 _ b2, i_div10 _ b2, b5, b4, show nI (x / 8 + 1) - 1 = nI (x / 8) by show nI _ - nI 1 = _; rw [nI_subE (by omega)]; congr 1]
          have e8 : (8 : Int32) * nI (x / 8) + nI (x % 8) = nI x := by show nI 8 * _ + _ = _; rw [nI_mulE, nI_add]; congr 1; omega
          rw [e8]
          refine yes (by simp (disch := omega) only [nI_lit, nI_add, nI_mulE, nI_clampE, nI_eqE, nI_leE, nI_ltE, vp_nIE, true_and, and_true]; omega) ⟨evE, evE, ?_⟩
          exact m_rul W4 hV hp1 hdx x5 x6 hP (by rw [hlen]; omega) nxt
        · have ep : pgn Γ p (plF Γ p (u + 1) + n) = 1 := by unfold pgn; rw [if_pos (by omega)]
          have ee : ∀ j, enL Γ p j (plF Γ p (u + 1) + n) = [(19, (gE (plP Γ p) (plF Γ p (u + 1) + n)).1, 0)] := fun j => by unfold enL; rw [if_pos (by omega)]
          rw [ee] at nxt
          refine no (by simp (disch := omega) only [nI_lit, nI_add, nI_mulE, nI_clampE, nI_eqE, nI_leE, nI_ltE, vp_nIE, true_and, and_true]; omega) ⟨evE, ?_⟩
          exact m_pad (k := 19) (s := 0) hP (by rw [hlen]; omega) nxt
end MP
