/-! ===== the program, the class's: put together ===== -/
theorem pgS_mo (Γ : GRT) (p : Nat) {i j : Nat} (h : i ≤ j) : pgS Γ p i ≤ pgS Γ p j := by
  obtain ⟨d, rfl⟩ : ∃ d, j = i + d := ⟨j - i, by omega⟩
  clear h
  induction d with
  | zero => exact Nat.le_refl _
  | succ d ih => show pgS Γ p i ≤ pgS Γ p (i + d) + pgn Γ p (i + d); omega
theorem pgB_mo (Γ : GRT) {i j : Nat} (h : i ≤ j) : pgB Γ i ≤ pgB Γ j := by
  obtain ⟨d, rfl⟩ : ∃ d, j = i + d := ⟨j - i, by omega⟩
  clear h
  induction d with
  | zero => exact Nat.le_refl _
  | succ d ih => show pgB Γ i ≤ pgB Γ (i + d) + _; omega
/-- where visit v of production p starts -/
def pgV (Γ : GRT) (p v : Nat) : Nat := pgB Γ p + (pgS Γ p (plF Γ p v) + (v - 1))
theorem LVp_len (Γ : GRT) (p u : Nat) : (PLv Γ p (PLs Γ p) u).length = pgV Γ p (u + 1) := by rw [LV_len, LP_len]; rfl
theorem LEp_len (Γ : GRT) (p u n : Nat) : (PLe Γ p (PLv Γ p (PLs Γ p) u) (plF Γ p (u + 1)) n).length = pgB Γ p + (pgS Γ p (plF Γ p (u + 1) + n) + u) := by
  have a := LE_len Γ p (PLv Γ p (PLs Γ p) u) (plF Γ p (u + 1)) n
  rw [LVp_len] at a
  have b : pgV Γ p (u + 1) = pgB Γ p + (pgS Γ p (plF Γ p (u + 1)) + u) := rfl
  omega
def CPg (σ : ab_S) (Γ : GRT) : Prop := PgC σ (PLs Γ Γ.2.1) ∧ ∀ p v, p < Γ.2.1 → 1 ≤ v → v ≤ svs Γ (hdS Γ p) → σ.2.1 27 (p * 7 + v) = nI (pgV Γ p v)
section CP
variable {σ : ab_S} {g : Nat} {Γ : GRT} {E : String → ab_S → Prop}
theorem c_asm (hZ : CZ σ g Γ) (hS : CSf σ Γ) (hV : GRV Γ) (hL : LVF Γ) (hlc : Γ.2.2.2.2 ≤ 2400) (hw : pgB Γ Γ.2.1 ≤ 3000) {Q : ab_S → Prop} (h : ∀ τ, FM (fun a i => decide ((a = 23 ∧ (i = 2 ∨ i = 7)) ∨ (24 ≤ a ∧ a ≤ 27))) σ τ → CW τ g Γ → CPg τ Γ → Q τ) : wX5_assemble g Q E σ := by
  have h30 := hV.2.1
  have h12 := hV.1.1
  have hgb := isG_b hZ.1.1
  unfold wX5_assemble
  refine fe (fe ⟨Γ.2.1 + 1, ?_⟩)
  generalize hσ1 : ab_I (ab_R σ 23 2 (some g)) 23 7 0 = σ1
  have F1 : FM (fun a i => decide ((a = 23 ∧ (i = 2 ∨ i = 7)) ∨ (24 ≤ a ∧ a ≤ 27))) σ σ1 := by
    rw [← hσ1]
    have F0 : FM (fun a i => decide ((a = 23 ∧ (i = 2 ∨ i = 7)) ∨ (24 ≤ a ∧ a ≤ 27))) σ (ab_R σ 23 2 (some g)) := by
      refine ⟨fun a i _ => rfl, fun a i _ => rfl, fun a i z => ?_⟩
      have z := of_decide_eq_false z
      rw [gR_R]
      by_cases e : a = 23
      · rw [if_pos e, if_neg (by omega), e]
      · rw [if_neg e]
    exact F0.I (decide_eq_true (by omega))
  have W1 : CW σ1 g Γ := ⟨hZ.fm hV F1 (fun k i hk => decide_eq_false (by omega)) (decide_eq_false (by omega)) (decide_eq_false (by omega)) (fun a i q1 q2 => decide_eq_false (by omega)), hS.fm F1 (fun i => decide_eq_false (by omega)) (fun i => decide_eq_false (by omega)) (decide_eq_false (by omega)), by rw [← hσ1, gR_I, gR_R, if_pos rfl, if_pos rfl]⟩
  have P1 : PgC σ1 (PLs Γ 0) := ⟨by rw [← hσ1, gI_I, if_pos rfl, if_pos rfl]; rfl, fun j hj => absurd hj (Nat.not_lt_zero _)⟩
  clear hσ1
  have mS : ∀ a i, decide ((a = 23 ∧ (i = 2 ∨ i = 7)) ∨ (24 ≤ a ∧ a ≤ 27)) = false → S25 a i = false := fun a i y => by have y := of_decide_eq_false y; exact decide_eq_false (by omega)
  have m4 : ∀ a i, S25 a i = false → S24 a i = false := fun a i y => by have y := of_decide_eq_false y; exact decide_eq_false (by omega)
  suffices H : ∀ f p τ, Γ.2.1 - p = f → p ≤ Γ.2.1 → FM S25 σ1 τ → PgC τ (PLs Γ p) → (∀ p' v, p' < p → 1 ≤ v → v ≤ svs Γ (hdS Γ p') → τ.2.1 27 (p' * 7 + v) = nI (pgV Γ p' v)) → wX5_assemble_l12 g Q E (f + 1) (nI p) τ from H _ 0 σ1 rfl (Nat.zero_le _) (FM.rf _ _) P1 (fun p' v hp' => absurd hp' (Nat.not_lt_zero _))
  intro f
  induction f with
  | zero =>
    intro p τ hf hp hF hP hd
    have e : p = Γ.2.1 := by omega
    have W2 := W1.s25 hV hF
    show wX5_assemble_l12_b _ _ _ _ _ _
    unfold wX5_assemble_l12_b
    rw [W2.1.1.2.2.1.2.1]
    rw [e] at hP hd
    exact yes (by simp (disch := omega) only [nI_lit, nI_add, nI_mulE, nI_clampE, nI_eqE, nI_leE, nI_ltE, vp_nIE, true_and, and_true]; omega) (h τ (F1.tr (hF.mono mS)) W2 ⟨hP, fun p' v q1 q2 q3 => hd p' v q1 q2 q3⟩)
  | succ f ih =>
    intro p τ hf hp hF hP hd
    have hp1 : p < Γ.2.1 := by omega
    have q1 : Γ.2.1 - (p + 1) = f := by omega
    have W2 := W1.s25 hV hF
    have hhd : hdS Γ p < Γ.1.1 := (hV.2.2.2 p hp1).2.1.2.1 0 (Nat.zero_le _)
    have hvis := hL.vis _ hhd
    have hB := plB_le hL hV p (by omega)
    have hN := plN_le hL hV hp1
    have hbp : pgB Γ (p + 1) ≤ pgB Γ Γ.2.1 := pgB_mo Γ hp1
    have ebp : pgB Γ (p + 1) = pgB Γ p + (pgS Γ p (plN Γ p) + svs Γ (hdS Γ p)) := rfl
    show wX5_assemble_l12_b g Q E (wX5_assemble_l12 g Q E (f + 1)) (nI p) τ
    unfold wX5_assemble_l12_b
    rw [W2.1.1.2.2.1.2.1]
    refine no (by simp (disch := omega) only [nI_lit, nI_add, nI_mulE, nI_clampE, nI_eqE, nI_leE, nI_ltE, vp_nIE, true_and, and_true]; omega) ?_
    refine c_sym (o := 0) W2.1 hV hp1 (Nat.zero_le _) ?_
    have e17 : τ.2.1 (g + 17) (hdS Γ p) = nI (svs Γ (hdS Γ p)) := (W2.1.1.2.2.2 _ hhd).2
    have ehd : oSy Γ p 0 = hdS Γ p := rfl
    rw [ehd, nI_clampE (show hdS Γ p < 2147483648 by omega), e17]
    refine ⟨by simp (disch := omega) only [nI_lit, nI_add, nI_mulE, nI_clampE, nI_eqE, nI_leE, nI_ltE, vp_nIE, true_and, and_true]; omega, fe ⟨svs Γ (hdS Γ p) + 1, ?_⟩⟩
    suffices H2 : ∀ f2 u τ, svs Γ (hdS Γ p) - u = f2 → u ≤ svs Γ (hdS Γ p) → FM S25 σ1 τ → PgC τ (PLv Γ p (PLs Γ p) u) → (∀ p' v, p' < p → 1 ≤ v → v ≤ svs Γ (hdS Γ p') → τ.2.1 27 (p' * 7 + v) = nI (pgV Γ p' v)) → (∀ v, 1 ≤ v → v ≤ u → τ.2.1 27 (p * 7 + v) = nI (pgV Γ p v)) → wX5_assemble_l35 g Q E (wX5_assemble_j113 g Q E (wX5_assemble_l12 g Q E (f + 1))) (f2 + 1) (nI p) (nI (svs Γ (hdS Γ p))) (nI (u + 1)) τ from H2 _ 0 τ rfl (Nat.zero_le _) hF hP hd (fun v v1 v2 => by omega)
    clear hP hd hF W2 e17 τ
    intro f2
    induction f2 with
    | zero =>
      intro u τ hf2 hu hF hP hd hd2
      have eu : u = svs Γ (hdS Γ p) := by omega
      show wX5_assemble_l35_b _ _ _ _ _ _ _ _ _
      unfold wX5_assemble_l35_b
      refine yes (by simp (disch := omega) only [nI_lit, nI_add, nI_mulE, nI_clampE, nI_eqE, nI_leE, nI_ltE, vp_nIE, true_and, and_true]; omega) ?_
      unfold wX5_assemble_j113
      rw [nI_1]
      rw [eu] at hP hd2
      refine fe (ih (p + 1) τ q1 hp1 hF hP (fun p' v z1 z2 z3 => ?_))
      by_cases e : p' = p
      · rw [e] at z3 ⊢; exact hd2 v z2 z3
      · exact hd p' v (by omega) z2 z3
    | succ f2 ih2 =>
      intro u τ hf2 hu hF hP hd hd2
      have hu1 : u + 1 ≤ svs Γ (hdS Γ p) := by omega
      have q2 : svs Γ (hdS Γ p) - (u + 1) = f2 := by omega
      have e7 : nI p * 7 + nI (u + 1) = nI (p * 7 + (u + 1)) := by show nI p * nI 7 + _ = _; rw [nI_mulE, nI_add]
      show wX5_assemble_l35_b g Q E (wX5_assemble_j113 g Q E (wX5_assemble_l12 g Q E (f + 1))) (wX5_assemble_l35 g Q E (wX5_assemble_j113 g Q E (wX5_assemble_l12 g Q E (f + 1))) (f2 + 1)) (nI p) (nI (svs Γ (hdS Γ p))) (nI (u + 1)) τ
      unfold wX5_assemble_l35_b
      rw [e7, nI_clampE (show p * 7 + (u + 1) < 2147483648 by omega), hP.1, LVp_len]
      refine no (by simp (disch := omega) only [nI_lit, nI_add, nI_mulE, nI_clampE, nI_eqE, nI_leE, nI_ltE, vp_nIE, true_and, and_true]; omega) ⟨by simp (disch := omega) only [nI_lit, nI_add, nI_mulE, nI_clampE, nI_eqE, nI_leE, nI_ltE, vp_nIE, true_and, and_true]; omega, fe ?_⟩
      generalize hτ1 : ab_I τ 27 (p * 7 + (u + 1)) (nI (pgV Γ p (u + 1))) = τ1
      have F0 : FM (fun a _ => decide (a = 27)) τ τ1 := by rw [← hτ1]; exact (FM.rf _ τ).I (decide_eq_true rfl)
      have F1' : FM S25 σ1 τ1 := hF.tr (F0.mono (fun a i y => by have y := of_decide_eq_false y; exact decide_eq_false (by omega)))
      have w27 : ∀ j, τ1.2.1 27 j = if j = p * 7 + (u + 1) then nI (pgV Γ p (u + 1)) else τ.2.1 27 j := fun j => by rw [← hτ1, gI_I, if_pos rfl]
      have hP1 : PgC τ1 (PLv Γ p (PLs Γ p) u) := hP.fm F0 (fun a i q => decide_eq_false (by omega))
      have hd1 : ∀ p' v, p' < p → 1 ≤ v → v ≤ svs Γ (hdS Γ p') → τ1.2.1 27 (p' * 7 + v) = nI (pgV Γ p' v) := by
        intro p' v z1 z2 z3
        have hhd' : hdS Γ p' < Γ.1.1 := (hV.2.2.2 p' (by omega)).2.1.2.1 0 (Nat.zero_le _)
        have := (hL.vis _ hhd').2
        rw [w27, if_neg (by omega)]
        exact hd p' v z1 z2 z3
      have hd21 : ∀ v, 1 ≤ v → v ≤ u + 1 → τ1.2.1 27 (p * 7 + v) = nI (pgV Γ p v) := by
        intro v z1 z2
        rw [w27]
        by_cases e : v = u + 1
        · rw [if_pos (by omega), e]
        · rw [if_neg (by omega)]; exact hd2 v z1 (by omega)
      clear hτ1 w27 F0 hP hd hd2 hF
      have W3 := W1.s25 hV F1'
      refine c_first W3.1 hV hL hp1 (by omega) (by omega) ?_
      have hmo := plF_mo (Γ := Γ) (p := p) (u := u)
      have hle : plF Γ p (u + 2) ≤ plN Γ p := plF_le (u := u + 1) hu1
      refine ⟨plF Γ p (u + 2) - plF Γ p (u + 1) + 1, ?_⟩
      suffices H3 : ∀ f3 n τ, plF Γ p (u + 2) - plF Γ p (u + 1) - n = f3 → n ≤ plF Γ p (u + 2) - plF Γ p (u + 1) → FM S24 τ1 τ → PgC τ (PLe Γ p (PLv Γ p (PLs Γ p) u) (plF Γ p (u + 1)) n) → wX5_assemble_l69 g Q E (wX5_assemble_j99 g Q E (wX5_assemble_j113 g Q E (wX5_assemble_l12 g Q E (f + 1))) (wX5_assemble_l35 g Q E (wX5_assemble_j113 g Q E (wX5_assemble_l12 g Q E (f + 1))) (f2 + 1))) (f3 + 1) (nI p) (nI (svs Γ (hdS Γ p))) (nI (u + 1)) (nI (plB Γ p + (plF Γ p (u + 1) + n))) τ from H3 _ 0 τ1 rfl (Nat.zero_le _) (FM.rf _ _) hP1
      intro f3
      induction f3 with
      | zero =>
        intro n τ hf3 hn hF hP
        have en : n = plF Γ p (u + 2) - plF Γ p (u + 1) := by omega
        have W4 := W3.s25 hV (hF.mono m4)
        have hmS := pgS_mo Γ p hle
        show wX5_assemble_l69_b _ _ _ _ _ _ _ _ _ _
        unfold wX5_assemble_l69_b
        rw [nI_1, show u + 1 + 1 = u + 2 from rfl]
        refine c_first W4.1 hV hL hp1 (by omega) (by omega) ?_
        refine yes (by simp (disch := omega) only [nI_lit, nI_add, nI_mulE, nI_clampE, nI_eqE, nI_leE, nI_ltE, vp_nIE, true_and, and_true]; omega) ?_
        unfold wX5_assemble_j99
        have hlen := LEp_len Γ p u n
        rw [show plF Γ p (u + 1) + n = plF Γ p (u + 2) by omega] at hlen
        refine c_pad (k := 20) (n := 0) (s := 0) hP (by rw [hlen]; omega) (fun τ2 F2 P2 => ?_)
        rw [nI_1]
        rw [en] at P2
        have F12 := hF.tr F2
        refine fe (ih2 (u + 1) τ2 q2 hu1 (F1'.tr (F12.mono m4)) P2 (fun p' v z1 z2 z3 => ?_) (fun v z1 z2 => ?_))
        · rw [F12.1 _ _ (decide_eq_false (by omega))]; exact hd1 p' v z1 z2 z3
        · rw [F12.1 _ _ (decide_eq_false (by omega))]; exact hd21 v z1 z2
      | succ f3 ih3 =>
        intro n τ hf3 hn hF hP
        have q3 : plF Γ p (u + 2) - plF Γ p (u + 1) - (n + 1) = f3 := by omega
        have W4 := W3.s25 hV (hF.mono m4)
        have hlen := LEp_len Γ p u n
        have hmS := pgS_mo Γ p (show plF Γ p (u + 1) + n + 1 ≤ plN Γ p by omega)
        have eS : pgS Γ p (plF Γ p (u + 1) + n + 1) = pgS Γ p (plF Γ p (u + 1) + n) + pgn Γ p (plF Γ p (u + 1) + n) := rfl
        show wX5_assemble_l69_b g Q E (wX5_assemble_j99 g Q E (wX5_assemble_j113 g Q E (wX5_assemble_l12 g Q E (f + 1))) (wX5_assemble_l35 g Q E (wX5_assemble_j113 g Q E (wX5_assemble_l12 g Q E (f + 1))) (f2 + 1))) (wX5_assemble_l69 g Q E (wX5_assemble_j99 g Q E (wX5_assemble_j113 g Q E (wX5_assemble_l12 g Q E (f + 1))) (wX5_assemble_l35 g Q E (wX5_assemble_j113 g Q E (wX5_assemble_l12 g Q E (f + 1))) (f2 + 1))) (f3 + 1)) (nI p) (nI (svs Γ (hdS Γ p))) (nI (u + 1)) (nI (plB Γ p + (plF Γ p (u + 1) + n))) τ
        unfold wX5_assemble_l69_b
        rw [nI_1, show u + 1 + 1 = u + 2 from rfl]
        refine c_first W4.1 hV hL hp1 (by omega) (by omega) ?_
        refine no (by simp (disch := omega) only [nI_lit, nI_add, nI_mulE, nI_clampE, nI_eqE, nI_leE, nI_ltE, vp_nIE, true_and, and_true]; omega) ?_
        refine c_addE W4 hV hL hlc hp1 (by omega) hP (by rw [hlen]; omega) (fun τ2 F2 P2 => ?_)
        rw [nI_1]
        refine fe ?_
        have := ih3 (n + 1) τ2 q3 (by omega) (hF.tr F2) P2
        rw [show plB Γ p + (plF Γ p (u + 1) + (n + 1)) = plB Γ p + (plF Γ p (u + 1) + n) + 1 by omega] at this
        exact this
end CP
