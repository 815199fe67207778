/-! ===== the machine, the class's: started anew ===== -/
section CM
variable {σ : ab_S} {M g x : Nat} {Γ : GRT} {T : TST} {b : Bool} {E : String → ab_S → Prop}
theorem c_flL {A An : Nat} (hA : An < 100000) {v : Int64} {Q : ab_S → Prop} (h : ∀ σ', FM (fun a _ => decide (a = A)) σ σ' → (∀ j, j < An → σ'.2.2.1 A j = v) → Q σ') : wJ7_fill_d0a16 A An v Q E σ := by
  unfold wJ7_fill_d0a16
  refine fe ⟨An + 1, ?_⟩
  suffices H : ∀ f i τ, An - i = f → i ≤ An → FM (fun a _ => decide (a = A)) σ τ → (∀ j, j < i → τ.2.2.1 A j = v) → wJ7_fill_d0a16_l6 A An v Q E (f + 1) (nI i) (nI An) τ from H _ 0 σ rfl (Nat.zero_le _) (FM.rf _ _) (fun j hj => absurd hj (Nat.not_lt_zero _))
  intro f
  induction f with
  | zero =>
    intro i τ hf hi hF hd
    have e : i = An := by omega
    show wJ7_fill_d0a16_l6_b _ _ _ _ _ _ _ _ _
    unfold wJ7_fill_d0a16_l6_b
    rw [e] at hd
    exact yes (by simp (disch := omega) only [nI_lit, nI_add, nI_mulE, nI_clampE, nI_eqE, nI_leE, nI_ltE, vp_nIE, true_and, and_true]; omega) (h τ hF hd)
  | succ f ih =>
    intro i τ hf hi hF hd
    show wJ7_fill_d0a16_l6_b A An v Q E (wJ7_fill_d0a16_l6 A An v Q E (f + 1)) (nI i) (nI An) τ
    unfold wJ7_fill_d0a16_l6_b
    rw [nI_clampE (show i < 2147483648 by omega), nI_1]
    refine no (by simp (disch := omega) only [nI_lit, nI_add, nI_mulE, nI_clampE, nI_eqE, nI_leE, nI_ltE, vp_nIE, true_and, and_true]; omega) ⟨by simp (disch := omega) only [nI_lit, nI_add, nI_mulE, nI_clampE, nI_eqE, nI_leE, nI_ltE, vp_nIE, true_and, and_true]; omega, fe (fe (ih (i + 1) _ (by omega) (by omega) (hF.L (decide_eq_true rfl)) (fun j hj => ?_)))⟩
    rw [gL_L, if_pos rfl]
    by_cases e : j = i
    · rw [if_pos e]
    · rw [if_neg e]; exact hd j (by omega)
/-- how a machine starts -/
def mSt0 (Γ : GRT) (T : TST) : MST := (pgV Γ (T.pr 0) 1 + 1, [(0, 0)], uf (fun _ => 0) 0 1, [], fun _ _ => some 0, fun _ => some 0)
theorem mSt0_ok (hG : GOK Γ) (hT : TOK Γ T) : MOK Γ T b (mSt0 Γ T) := ⟨_, _, Or.inl ⟨0, 0, [], mi_start hG hT _ _⟩⟩
theorem c_rst (hM : isM M) (hG : GOK Γ) (hT : TOK Γ T) (hg : isG g) (hx : isT x) (h1 : σ.2.1 M 1 = (if b then 1 else 0)) (hP : CPg σ Γ) (hC : CTr σ x T) (hCg : CGr σ g Γ) (hCl : CLs σ g Γ) {Q : ab_S → Prop} (k : ∀ τ, FM (fun a i => decide ((a = M ∧ (i = 2 ∨ i = 3 ∨ (10 ≤ i ∧ i ≤ 13))) ∨ (M + 1 ≤ a ∧ a ≤ M + 6))) σ τ → CSt τ M g x Γ T b → RCd τ M (mSt0 Γ T) → τ.2.1 M 13 = nI 0 → Q τ) : wX2_restart M g x Q E σ := by
  have hMb := isM_b hM
  have hgb := isG_b hg
  have hxb := isT_b hx
  have hV := hG.1
  have hN := hT.2.1
  have h0 : 0 < T.N := hT.1
  have hp : T.pr 0 < Γ.2.1 := ((hT.2.2 0 h0).1).1
  have hhd : hdS Γ (T.pr 0) < Γ.1.1 := (hV.2.2.2 _ hp).2.1.2.1 0 (Nat.zero_le _)
  have hvis := hG.2.1.vis _ hhd
  unfold wX2_restart
  refine fe (fe ?_)
  have F0 : FM (fun a i => decide (a = M ∧ (i = 2 ∨ i = 3))) σ (ab_R (ab_R σ M 2 (some g)) M 3 (some x)) := by
    refine ⟨fun a i _ => rfl, fun a i _ => rfl, fun a i z => ?_⟩
    have z := of_decide_eq_false z
    by_cases e : a = M
    · rw [gR_R, if_pos e, if_neg (by omega), gR_R, if_pos rfl, if_neg (by omega), e]
    · rw [gR_R, if_neg e, gR_R, if_neg e]
  have r2 : (ab_R (ab_R σ M 2 (some g)) M 3 (some x)).2.2.2 M 2 = some g := by rw [gR_R, if_pos rfl, if_neg (by decide), gR_R, if_pos rfl, if_pos rfl]
  have r3 : (ab_R (ab_R σ M 2 (some g)) M 3 (some x)).2.2.2 M 3 = some x := by rw [gR_R, if_pos rfl, if_pos rfl]
  generalize ab_R (ab_R σ M 2 (some g)) M 3 (some x) = σ1 at *
  refine c_flL (by omega) (fun σ2 F2 z2 => ?_)
  refine c_flL (by omega) (fun σ3 F3 z3 => ?_)
  refine c_fl2 (by omega) (fun σ4 F4 z4 => ?_)
  refine fe (fe (fe ?_))
  generalize hσ5 : ab_I (ab_I (ab_I σ4 M 11 0) M 12 0) M 13 0 = σ5
  have F5 : FM (fun a i => decide (a = M ∧ 11 ≤ i ∧ i ≤ 13)) σ4 σ5 := by rw [← hσ5]; exact (((FM.rf _ σ4).I (decide_eq_true (by omega))).I (decide_eq_true (by omega))).I (decide_eq_true (by omega))
  have w11 : σ5.2.1 M 11 = nI 0 := by rw [← hσ5, gI_s, if_neg (by decide), gI_s, if_neg (by decide), gI_s, if_pos rfl]; rfl
  have w12 : σ5.2.1 M 12 = nI 0 := by rw [← hσ5, gI_s, if_neg (by decide), gI_s, if_pos rfl]; rfl
  have w13 : σ5.2.1 M 13 = nI 0 := by rw [← hσ5, gI_s, if_pos rfl]; rfl
  clear hσ5
  have F15 : FM (fun a i => decide ((a = M ∧ 11 ≤ i ∧ i ≤ 13) ∨ a = M + 1 ∨ a = M + 2 ∨ a = M + 4)) σ1 σ5 := (((F2.mono (fun a i y => by have y := of_decide_eq_false y; exact decide_eq_false (by omega))).tr (F3.mono (fun a i y => by have y := of_decide_eq_false y; exact decide_eq_false (by omega)))).tr (F4.mono (fun a i y => by have y := of_decide_eq_false y; exact decide_eq_false (fun z => y (by omega))))).tr (F5.mono (fun a i y => by have y := of_decide_eq_false y; exact decide_eq_false (by omega)))
  have F05 : FM (fun a i => decide ((a = M ∧ (i = 2 ∨ i = 3 ∨ (10 ≤ i ∧ i ≤ 13))) ∨ (M + 1 ≤ a ∧ a ≤ M + 6))) σ σ5 := (F0.mono (fun a i y => by have y := of_decide_eq_false y; exact decide_eq_false (by omega))).tr (F15.mono (fun a i y => by have y := of_decide_eq_false y; exact decide_eq_false (by omega)))
  have St5 : CSt σ5 M g x Γ T b := ⟨by rw [F15.2.2 _ _ (decide_eq_false (by omega))]; exact r2, by rw [F15.2.2 _ _ (decide_eq_false (by omega))]; exact r3, hg, hx, by rw [F05.1 _ _ (decide_eq_false (by omega))]; exact h1, ⟨hP.1.fm F05 (fun a i q => decide_eq_false (by omega)), fun p v q1 q2 q3 => by rw [F05.1 _ _ (decide_eq_false (by omega))]; exact hP.2 p v q1 q2 q3⟩, hC.fm F05 (fun a i q1 q2 => decide_eq_false (by omega)), hCg.fm hV F05 (fun k i hk => decide_eq_false (by omega)), fun s hs => ⟨fun y hy => by rw [F05.1 _ _ (decide_eq_false (by omega))]; exact (hCl s hs).1 y hy, by rw [F05.1 _ _ (decide_eq_false (by omega))]; exact (hCl s hs).2⟩⟩
  have R5 : RCb σ5 M (0, [], fun _ => 0, [], fun _ _ => some 0, fun _ => some 0) := by
    refine ⟨w11, w12, trivial, trivial, fun m hm => ?_, fun m a hm ha => ?_, fun w hw => ?_⟩
    · rw [F5.1 _ _ (decide_eq_false (by omega)), z4 m hm]; rfl
    · rw [F5.2.1 _ _ (decide_eq_false (by omega)), F4.2.1 _ _ (by exact decide_eq_false (fun z => by omega)), F3.2.1 _ _ (decide_eq_false (by omega)), z2 _ (by omega)]; rfl
    · rw [F5.2.1 _ _ (decide_eq_false (by omega)), F4.2.1 _ _ (by exact decide_eq_false (fun z => by omega)), z3 _ hw]; rfl
  refine c_entr hM hG St5 R5 hT (by show 0 < 250; omega) h0 (by show 0 + 1 ≤ _; omega) (bk' := 0) rfl (fun τ F6 R6 => ?_)
  exact k τ (F05.tr (F6.mono (fun a i y => by have y := of_decide_eq_false y; exact decide_eq_false (by omega)))) (St5.fm hM hV F6) R6 (by rw [F6.1 _ _ (decide_eq_false (by omega))]; exact w13)
end CM
