/-! ===== the program, the class's: all of it ===== -/
/-- what is written so far -/
def PgC (σ : ab_S) (A : List (Nat × Nat × Nat)) : Prop := σ.2.1 23 7 = nI A.length ∧ ∀ j, j < A.length → σ.2.1 24 j = nI (A.getD j (0, 0, 0)).1 ∧ σ.2.1 25 j = nI (A.getD j (0, 0, 0)).2.1 ∧ σ.2.1 26 j = nI (A.getD j (0, 0, 0)).2.2
def S24 : Nat → Nat → Bool := fun a i => decide ((a = 23 ∧ i = 7) ∨ (24 ≤ a ∧ a ≤ 26))
theorem PgC.fm {S : Nat → Nat → Bool} {σ σ' : ab_S} {A : List (Nat × Nat × Nat)} (h : PgC σ A) (f : FM S σ σ') (e : ∀ a i, (a = 23 ∧ i = 7) ∨ (24 ≤ a ∧ a ≤ 26) → S a i = false) : PgC σ' A := by
  refine ⟨by rw [f.1 _ _ (e _ _ (by omega))]; exact h.1, fun j hj => ?_⟩
  rw [f.1 24 _ (e _ _ (by omega)), f.1 25 _ (e _ _ (by omega)), f.1 26 _ (e _ _ (by omega))]
  exact h.2 j hj
section CP
variable {σ : ab_S} {g p : Nat} {Γ : GRT} {E : String → ab_S → Prop}
theorem c_pad {A : List (Nat × Nat × Nat)} (hA : PgC σ A) (hl : A.length < 3000) {k n s : Nat} {Q : ab_S → Prop} (h : ∀ τ, FM S24 σ τ → PgC τ (A ++ [(k, n, s)]) → Q τ) : wX5_add (nI k) (nI n) (nI s) Q E σ := by
  have ec : (nI A.length).toNatClampNeg = A.length := nI_clampE (by omega)
  have ev : vp_in (nI A.length) 3000 := by simp (disch := omega) only [nI_lit, nI_add, nI_mulE, nI_clampE, nI_eqE, nI_leE, nI_ltE, vp_nIE, true_and, and_true]; omega
  unfold wX5_add
  rw [hA.1, ec]
  refine no (by simp (disch := omega) only [nI_lit, nI_add, nI_mulE, nI_clampE, nI_eqE, nI_leE, nI_ltE, vp_nIE, true_and, and_true]; omega) ⟨ev, fe ?_⟩
  rw [gI_I, if_neg (by decide), hA.1, ec]
  refine ⟨ev, fe ?_⟩
  rw [gI_I, if_neg (by decide), gI_I, if_neg (by decide), hA.1, ec]
  refine ⟨ev, fe ?_⟩
  rw [gI_I, if_neg (by decide), gI_I, if_neg (by decide), gI_I, if_neg (by decide), hA.1, nI_1]
  refine fe (h _ ((((((FM.rf _ σ).I (decide_eq_true (by omega))).I (decide_eq_true (by omega))).I (decide_eq_true (by omega))).I (decide_eq_true (by omega)))) ⟨?_, fun j hj => ?_⟩)
  · rw [gI_I, if_pos rfl, if_pos rfl, List.length_append]; rfl
  · rw [List.length_append, List.length_singleton] at hj
    refine ⟨?_, ?_, ?_⟩
    · rw [gI_I, if_neg (by decide), gI_I, if_neg (by decide), gI_I, if_neg (by decide), gI_I, if_pos rfl]
      by_cases e : j = A.length
      · rw [if_pos e, e, ge_e]
      · rw [if_neg e, ge_l (by omega)]; exact (hA.2 j (by omega)).1
    · rw [gI_I, if_neg (by decide), gI_I, if_neg (by decide), gI_I, if_pos rfl]
      by_cases e : j = A.length
      · rw [if_pos e, e, ge_e]
      · rw [if_neg e, ge_l (by omega), gI_I, if_neg (by decide)]; exact (hA.2 j (by omega)).2.1
    · rw [gI_I, if_neg (by decide), gI_I, if_pos rfl]
      by_cases e : j = A.length
      · rw [if_pos e, e, ge_e]
      · rw [if_neg e, ge_l (by omega), gI_I, if_neg (by decide), gI_I, if_neg (by decide)]; exact (hA.2 j (by omega)).2.2
theorem i_mv (a b k : Nat) : nI (b + k) + (nI a - nI b) = nI (a + k) := by
  rw [← nI_add b k, ← nI_add a k, Int32.add_comm (nI b) (nI k), Int32.add_assoc, Int32.add_comm (nI b), Int32.sub_add_cancel, Int32.add_comm]
theorem c_addX (hW : CW σ g Γ) (hV : GRV Γ) (hp : p < Γ.2.1) {x : Nat} (hd : (Γ.2.2.1 p).2.2.2.2.1 x = true) (hlc : (((Γ.2.2.1 p).2.2.2.2.2 x).2.2.1 + (rC Γ p x).length ≤ 2400)) {A : List (Nat × Nat × Nat)} (hA : PgC σ A) (hl : A.length + (rC Γ p x).length < 3000) {Q : ab_S → Prop} (h : ∀ τ, FM S24 σ τ → PgC τ (A ++ exL Γ p A.length (rC Γ p x)) → Q τ) : wX5_addExpression (nI p) (nI x) Q E σ := by
  have h30 := hV.2.1
  have hpv := (hV.2.2.2 p hp).2.1
  have h3 := hpv.1
  obtain ⟨q1, q2, q3, q4, q5⟩ := hpv.2.2 x hd
  obtain ⟨r1, r2, r3, r4⟩ := ((hW.1.1.2.2.1.2.2.2 p hp).2.2.2.2.2 x q1).1 hd
  have hbd := CR_bd q5 (fun s hs => by have h1 : s / 8 ≤ (Γ.2.2.1 p).2.1 := hs.1; omega)
  have hok : ∀ z, z ∈ rC Γ p x → z.1 = 2 → slOK (kOf Γ.1 (Γ.2.2.1 p)) z.2 := by
    intro z hz h2
    refine (CR_nm q5).2 z.2 ?_
    unfold nmA
    rw [List.any_eq_true]
    exact ⟨z, hz, decide_eq_true ⟨h2, rfl⟩⟩
  have e32 : nI p * 32 + nI x = nI (p * 32 + x) := by show nI p * nI 32 + _ = _; rw [nI_mulE, nI_add]
  have ec : (nI (p * 32 + x)).toNatClampNeg = p * 32 + x := nI_clampE (by omega)
  have ev : vp_in (nI (p * 32 + x)) 960 := by simp (disch := omega) only [nI_lit, nI_add, nI_mulE, nI_clampE, nI_eqE, nI_leE, nI_ltE, vp_nIE, true_and, and_true]; omega
  have r4 : CodeAt σ g ((Γ.2.2.1 p).2.2.2.2.2 x).2.2.1 (rC Γ p x) := r4
  have hbd2 : ∀ z, z ∈ rC Γ p x → z.1 < 20 := hbd.2
  have r2 : σ.2.1 (g + 12) (p * 32 + x) = nI (((Γ.2.2.1 p).2.2.2.2.2 x).2.2.1 + (rC Γ p x).length) := r2
  generalize rC Γ p x = c at *
  generalize ((Γ.2.2.1 p).2.2.2.2.2 x).2.2.1 = L at *
  unfold wX5_addExpression
  refine ⟨g, hW.2.2, hW.1.1.1, ?_⟩
  rw [e32, ec, r1]
  refine ⟨ev, fe ⟨g, hW.2.2, hW.1.1.1, ?_⟩⟩
  rw [r2]
  refine ⟨ev, fe ?_⟩
  rw [hA.1]
  refine fe ⟨c.length + 1, ?_⟩
  suffices H : ∀ f i τ, c.length - i = f → i ≤ c.length → FM S24 σ τ → PgC τ (A ++ exL Γ p A.length (c.take i)) → wX5_addExpression_l42 (nI p) (nI x) Q E (f + 1) (nI (L + c.length)) (nI A.length - nI L) (nI (L + i)) τ from H _ 0 σ rfl (Nat.zero_le _) (FM.rf _ _) (by rw [List.take_zero]; show PgC σ (A ++ []); rw [List.append_nil]; exact hA)
  intro f
  induction f with
  | zero =>
    intro i τ hf hi hF hP
    have e : i = c.length := by omega
    show wX5_addExpression_l42_b _ _ _ _ _ _ _ _ _
    unfold wX5_addExpression_l42_b
    rw [e, List.take_length] at hP
    exact yes (by simp (disch := omega) only [nI_lit, nI_add, nI_mulE, nI_clampE, nI_eqE, nI_leE, nI_ltE, vp_nIE, true_and, and_true]; omega) (h τ hF hP)
  | succ f ih =>
    intro i τ hf hi hF hP
    have hi2 : i < c.length := by omega
    have hgb := isG_b hW.1.1.1
    have W1 := hW.s25 hV (hF.mono (S' := S25) (fun a i y => by have y := of_decide_eq_false y; exact decide_eq_false (by omega)))
    have m1 := (r4 i hi2).1
    have m2 := (r4 i hi2).2
    rw [← hF.1 _ _ (decide_eq_false (by omega))] at m1 m2
    have hmem := gd_mem hi2
    have hb := hbd2 _ hmem
    have hlen : (A ++ exL Γ p A.length (c.take i)).length = A.length + i := by rw [List.length_append, exL_len, List.length_take]; omega
    have etk : ∀ k n s, (k, n, s) = (xk (gK Γ p) (c.getD i (0, 0)), xo (gN Γ p) (A.length + i) (c.getD i (0, 0)), xs (c.getD i (0, 0))) → A ++ exL Γ p A.length (c.take i) ++ [(k, n, s)] = A ++ exL Γ p A.length (c.take (i + 1)) := by
      intro k n s hk
      have e1 : c.take (i + 1) = c.take i ++ [c.getD i (0, 0)] := by
        rw [List.take_succ, List.getD_eq_getElem?_getD, List.getElem?_eq_getElem hi2]; rfl
      rw [e1, exL_app, List.append_assoc, hk, List.length_take, Nat.min_eq_left (by omega)]
      rfl
    have nxt : ∀ k n s, (k, n, s) = (xk (gK Γ p) (c.getD i (0, 0)), xo (gN Γ p) (A.length + i) (c.getD i (0, 0)), xs (c.getD i (0, 0))) → wX5_add (nI k) (nI n) (nI s) (fun σ2 => wX5_addExpression_j133 (nI p) (nI x) Q E (wX5_addExpression_l42 (nI p) (nI x) Q E (f + 1)) (nI (L + c.length)) (nI A.length - nI L) (nI (L + i)) σ2) E τ := by
      intro k n s hk
      refine c_pad hP (by rw [hlen]; omega) (fun τ' F' P' => ?_)
      unfold wX5_addExpression_j133
      rw [nI_1]
      refine fe (ih (i + 1) τ' (by omega) hi2 (hF.tr F') ?_)
      rw [etk k n s hk] at P'
      exact P'
    show wX5_addExpression_l42_b (nI p) (nI x) Q E (wX5_addExpression_l42 (nI p) (nI x) Q E (f + 1)) (nI (L + c.length)) (nI A.length - nI L) (nI (L + i)) τ
    unfold wX5_addExpression_l42_b
    refine no (by simp (disch := omega) only [nI_lit, nI_add, nI_mulE, nI_clampE, nI_eqE, nI_leE, nI_ltE, vp_nIE, true_and, and_true]; omega) ⟨g, W1.2.2, W1.1.1.1, by simp (disch := omega) only [nI_lit, nI_add, nI_mulE, nI_clampE, nI_eqE, nI_leE, nI_ltE, vp_nIE, true_and, and_true]; omega, ?_⟩
    rw [nI_clampE (show L + i < 2147483648 by omega), m1]
    refine fe ⟨g, W1.2.2, W1.1.1.1, by simp (disch := omega) only [nI_lit, nI_add, nI_mulE, nI_clampE, nI_eqE, nI_leE, nI_ltE, vp_nIE, true_and, and_true]; omega, ?_⟩
    rw [m2]
    refine fe ?_
    by_cases k2 : (c.getD i (0, 0)).1 = 2
    · refine no (fun z => z (by rw [k2]; rfl)) ?_
      obtain ⟨s1, s2, s3⟩ := hok _ hmem k2
      have s1 : (c.getD i (0, 0)).2 / 8 ≤ (Γ.2.2.1 p).2.1 := s1
      have s2 : (c.getD i (0, 0)).2 % 8 < Γ.1.2.2.1 (oSy Γ p ((c.getD i (0, 0)).2 / 8)) := s2
      have eab : abn (L + i) (c.getD i (0, 0)) = (c.getD i (0, 0)).2 := by unfold abn; rw [if_neg (by omega)]
      rw [eab]
      refine c_gK W1 hV hp (by omega) s1 s2 ?_
      refine c_gN W1 hV hp (by omega) s1 s2 ?_
      refine nxt _ _ _ ?_
      unfold xk xo xs
      rw [if_pos k2, if_pos k2, if_pos k2]
    · refine yes (by show ¬ nI _ = nI 2; rw [nI_eqE (by omega) (by omega)]; exact k2) ?_
      by_cases k13 : (c.getD i (0, 0)).1 = 13 ∨ (c.getD i (0, 0)).1 = 14
      · have eab : abn (L + i) (c.getD i (0, 0)) = L + (i + (c.getD i (0, 0)).2) := by unfold abn; rw [if_pos k13, Nat.add_assoc]
        have j119 : wX5_addExpression_j119 (nI p) (nI x) Q E (wX5_addExpression_l42 (nI p) (nI x) Q E (f + 1)) (nI (L + c.length)) (nI A.length - nI L) (nI (L + i)) (nI (abn (L + i) (c.getD i (0, 0)))) (nI (c.getD i (0, 0)).1) τ := by
          unfold wX5_addExpression_j119 wX5_addExpression_j129
          rw [eab, i_mv]
          refine nxt _ _ 0 ?_
          unfold xk xo xs abn
          rw [if_neg k2, if_neg k2, if_neg k2, if_pos k13, Nat.add_assoc]
        by_cases e13 : (c.getD i (0, 0)).1 = 13
        · exact yes (by rw [e13]; rfl) j119
        · refine no (by show ¬ nI _ = nI 13; rw [nI_eqE (by omega) (by omega)]; exact e13) ?_
          exact no (fun z => z (by rw [show (c.getD i (0, 0)).1 = 14 by omega]; rfl)) j119
      · have eab : abn (L + i) (c.getD i (0, 0)) = (c.getD i (0, 0)).2 := by unfold abn; rw [if_neg k13]
        refine no (by show ¬ nI _ = nI 13; rw [nI_eqE (by omega) (by omega)]; omega) ?_
        refine yes (by show ¬ nI _ = nI 14; rw [nI_eqE (by omega) (by omega)]; omega) ?_
        unfold wX5_addExpression_j129
        rw [eab]
        refine nxt _ _ 0 ?_
        unfold xk xo xs abn
        rw [if_neg k2, if_neg k2, if_neg k2, if_neg k13]
theorem c_addE (hW : CW σ g Γ) (hV : GRV Γ) (hL : LVF Γ) (hlc : Γ.2.2.2.2 ≤ 2400) (hp : p < Γ.2.1) {i : Nat} (hi : i < plN Γ p) {A : List (Nat × Nat × Nat)} (hA : PgC σ A) (hl : A.length + pgn Γ p i ≤ 3000) {Q : ab_S → Prop} (h : ∀ τ, FM S24 σ τ → PgC τ (A ++ enL Γ p A.length i) → Q τ) : wX5_addEntry (nI p) (nI (plB Γ p + i)) Q E σ := by
  have h30 := hV.2.1
  have hpv := (hV.2.2.2 p hp).2.1
  have h3 := hpv.1
  have hB := plB_le hL hV p (by omega)
  have hN := plN_le hL hV hp
  obtain ⟨v12, v13, v14⟩ := c_ent hW.1 hp hi
  have ev : vp_in (nI (plB Γ p + i)) 1410 := by simp (disch := omega) only [nI_lit, nI_add, nI_mulE, nI_clampE, nI_eqE, nI_leE, nI_ltE, vp_nIE, true_and, and_true]; omega
  have ec : (nI (plB Γ p + i)).toNatClampNeg = plB Γ p + i := nI_clampE (by omega)
  unfold wX5_addEntry wX4_occurrenceOf wX4_isVisit
  rw [ec, v14]
  rcases en_cs hV hL hp hi with ⟨z, x, x1, x2, x3, x4, x5, x6⟩ | ⟨w0, w1, w2, w3, w4, w5, w6⟩
  · obtain ⟨b1, b2, b3, b4, b5⟩ := enc_b x1
    have hI : plI Γ p (plP Γ p) := plI_A hL hV hp _
    have hd := hI.1 x x2
    obtain ⟨q1, q2, q3, q4, q5⟩ := hpv.2.2 x hd
    have q4 : ((Γ.2.2.1 p).2.2.2.2.2 x).2.2.1 + (rC Γ p x).length ≤ Γ.2.2.2.2 := q4
    have ep : pgn Γ p i = (rC Γ p x).length + 1 := by unfold pgn; rw [x4, if_neg (by omega), dx_enc x1]
    have ee : enL Γ p A.length i = exL Γ p A.length (rC Γ p x) ++ [(gK Γ p x + 13, gN Γ p x, x)] := by unfold enL; rw [x4, if_neg (by omega), dx_enc x1]
    rw [z]
    refine ⟨ev, yes rfl (yes rfl ⟨ev, ?_⟩)⟩
    rw [v12, x4, i_div10 _ b2, b4, show nI (x / 8 + 1) - 1 = nI (x / 8) by show nI _ - nI 1 = _; rw [nI_subE (by omega)]; congr 1]
    refine ⟨ev, ?_⟩
    rw [v14, z]
    refine yes rfl (yes rfl ?_)
    unfold wX4_attributeOf
    rw [ec, v12, x4, i_mod10 _ b2, b5]
    refine ⟨ev, ?_⟩
    have e8 : nI (x / 8) * 8 + nI (x % 8) = nI x := by show nI _ * nI 8 + _ = _; rw [nI_mulE, nI_add]; congr 1; omega
    dsimp only
    rw [e8]
    refine fe ?_
    refine c_addX hW hV hp hd (by omega) hA (by omega) (fun τ F1 P1 => ?_)
    have W1 := hW.s25 hV (F1.mono (S' := S25) (fun a i y => by have y := of_decide_eq_false y; exact decide_eq_false (by omega)))
    refine c_gK W1 hV hp x1 x5 x6 ?_
    refine c_gN W1 hV hp x1 x5 x6 ?_
    have e13 : nI (gK Γ p x) + 13 = nI (gK Γ p x + 13) := nI_add _ 13
    rw [e13]
    refine c_pad P1 (by rw [List.length_append, exL_len]; omega) (fun τ2 F2 P2 => h τ2 (F1.tr F2) ?_)
    rw [ee, ← List.append_assoc]
    exact P2
  · have ep : pgn Γ p i = 1 := by unfold pgn; rw [if_pos (by omega)]
    have ee : enL Γ p A.length i = [(19, (gE (plP Γ p) i).1, 0)] := by unfold enL; rw [if_pos (by omega)]
    refine ⟨ev, no (by simp (disch := omega) only [nI_lit, nI_add, nI_mulE, nI_clampE, nI_eqE, nI_leE, nI_ltE, vp_nIE, true_and, and_true]; omega) (no (by decide) ⟨ev, ?_⟩)⟩
    rw [v12]
    refine ⟨ev, ?_⟩
    rw [v14]
    refine no (by simp (disch := omega) only [nI_lit, nI_add, nI_mulE, nI_clampE, nI_eqE, nI_leE, nI_ltE, vp_nIE, true_and, and_true]; omega) (no (by decide) ?_)
    refine c_pad (k := 19) (s := 0) hA (by omega) (fun τ F1 P1 => h τ F1 ?_)
    rw [ee]; exact P1
end CP
