/-! ===== evaluation, the model's: to the end ===== -/
/-- all values, the model's -/
def MVl (σ : ab_S) (vl : Nat → Nat → VL8) : Prop := ∀ k, k < 250 → ∀ a, a < 8 → σ.2.1 139 (8 * k + a) = vI (vl k a) ∧ σ.2.1 141 (8 * k + a) = vB (vl k a)
section ME
variable {σ : ab_S} {E : String → ab_S → Prop} {n : Nat} {Γ : GRT} {T : TST} {vl : Nat → Nat → VL8} {Y0 : Nat → Bool}
theorem m_tn (hX : MXg σ Γ) (hM : MTt σ Γ T) (hV : GRV Γ) (hT : TOK Γ T) (hn : n < T.N) (hv : ∀ m, m < T.N → ∀ x, (Γ.2.2.1 (T.pr m)).2.2.2.2.1 x = true → vl (T.ch m (x / 8)) (x % 8) = RV Γ T vl m x) (hE : MEv σ (kf Y0) vl) {Q : Int32 → ab_S → Prop} (h : ∀ τ Y b, MEs σ vl Y0 τ Y b (∀ x, eCl Γ T Y0 n x) → Q (if b then 1 else 0) τ) : wX12_tryNode (nI n) Q E σ := by
  have hN := hT.2.1
  have hp := (hT.2.2 n hn).1.1
  have h30 := hV.2.1
  have hpv := (hV.2.2.2 _ hp).2.1
  have h3 : rt Γ (T.pr n) ≤ 3 := hpv.1
  unfold wX12_tryNode
  rw [nI_clampE (show n < 2147483648 by omega), (hM.2 n hn).1]
  refine ⟨by simp (disch := omega) only [nI_lit, nI_add, nI_mulE, nI_clampE, nI_eqE, nI_leE, nI_ltE, vp_nIE, true_and, and_true]; omega, fe ⟨rt Γ (T.pr n) + 2, ?_⟩⟩
  suffices H : ∀ f o τ Y b, rt Γ (T.pr n) + 1 - o = f → o ≤ rt Γ (T.pr n) + 1 → MEs σ vl Y0 τ Y b (∀ o', o' < o → ∀ a, a < Γ.1.2.2.1 (oSy Γ (T.pr n) o') → eCl Γ T Y0 n (8 * o' + a)) → wX12_tryNode_l12 (nI n) Q E (f + 1) (if b then 1 else 0) (nI (T.pr n)) (nI o) τ from H _ 0 σ Y0 false rfl (Nat.zero_le _) ⟨FM.rf _ _, hE, fun _ z => z, fun z => absurd z (by decide), fun _ => ⟨rfl, fun o ho => absurd ho (Nat.not_lt_zero _)⟩⟩
  intro f
  induction f with
  | zero =>
    intro o τ Y b hf ho hS
    have e : o = rt Γ (T.pr n) + 1 := by clear hS; omega
    show wX12_tryNode_l12_b _ _ _ _ _ _ _ _
    unfold wX12_tryNode_l12_b
    have e3 : τ.2.1 103 (nI (T.pr n)).toNatClampNeg = nI (rt Γ (T.pr n)) := by
      rw [nI_clampE (by omega)]; exact ((hX.ev hV hS.1).1.2.2.2 _ hp).2.1
    rw [e3]
    refine ⟨by simp (disch := omega) only [nI_lit, nI_add, nI_mulE, nI_clampE, nI_eqE, nI_leE, nI_ltE, vp_nIE, true_and, and_true]; omega, yes (by rw [e]; simp (disch := omega) only [nI_lit, nI_add, nI_mulE, nI_clampE, nI_eqE, nI_leE, nI_ltE, vp_nIE, true_and, and_true]; omega) ⟨by cases b <;> simp, h τ Y b (hS.d (fun _ _ hD x hd => ?_))⟩⟩
    have hx := (hpv.2.2 x hd).2.1
    unfold dfn at hx
    rw [Bool.and_eq_true, Bool.and_eq_true, decide_eq_true_eq, decide_eq_true_eq] at hx
    have h1 : x / 8 ≤ rt Γ (T.pr n) := hx.1
    have := hD (x / 8) (by clear hS; omega) (x % 8) hx.2.1
    rw [show 8 * (x / 8) + x % 8 = x by clear hS; omega] at this
    exact this hd
  | succ f ih =>
    intro o τ Y b hf ho hS
    have ho2 : o ≤ rt Γ (T.pr n) := by clear hS; omega
    have hfo : rt Γ (T.pr n) + 1 - (o + 1) = f := by clear hS; omega
    show wX12_tryNode_l12_b (nI n) Q E (wX12_tryNode_l12 (nI n) Q E (f + 1)) _ _ _ τ
    unfold wX12_tryNode_l12_b
    have e3 : τ.2.1 103 (nI (T.pr n)).toNatClampNeg = nI (rt Γ (T.pr n)) := by
      rw [nI_clampE (by omega)]; exact ((hX.ev hV hS.1).1.2.2.2 _ hp).2.1
    rw [e3]
    refine ⟨by clear hS; simp (disch := omega) only [nI_lit, nI_add, nI_mulE, nI_clampE, nI_eqE, nI_leE, nI_ltE, vp_nIE, true_and, and_true]; omega, no (by clear hS; simp (disch := omega) only [nI_lit, nI_add, nI_mulE, nI_clampE, nI_eqE, nI_leE, nI_ltE, vp_nIE, true_and, and_true]; omega) ⟨Γ.1.2.2.1 (oSy Γ (T.pr n) o) + 1, ?_⟩⟩
    refine m_t26 (D := ∀ o', o' < o → ∀ a, a < Γ.1.2.2.1 (oSy Γ (T.pr n) o') → eCl Γ T Y0 n (8 * o' + a)) hX hM hV hT hn hv ho2 (fun τ' Y' b' S' => ?_) _ 0 τ Y b rfl (Nat.zero_le _) (hS.d (fun _ _ hD => ⟨hD, fun a ha => absurd ha (Nat.not_lt_zero _)⟩))
    unfold wX12_tryNode_j168
    rw [nI_1]
    refine fe (ih (o + 1) τ' Y' b' hfo (by clear hS S'; omega) (S'.d (fun _ _ hD o' ho' => ?_)))
    by_cases e : o' = o
    · rw [e]; exact hD.2
    · exact hD.1 o' (by clear hS S'; omega)
theorem MEs.tr {τ τ' : ab_S} {Y Y' : Nat → Bool} {b b' : Bool} {D : Prop} {D' : Prop} (h : MEs σ vl Y0 τ Y b D) (h' : MEs τ vl Y τ' Y' b' D') : MEs σ vl Y0 τ' Y' (b || b') (D ∧ D') := by
  refine ⟨h.1.tr h'.1, h'.2.1, fun j hj => h'.2.2.1 j (h.2.2.1 j hj), fun z => ?_, fun z => ?_⟩
  · have m1 := cnt_mo h.2.2.1 2000
    have m2 := cnt_mo h'.2.2.1 2000
    cases hb : b with
    | true => have := h.2.2.2.1 hb; omega
    | false =>
      rw [hb, Bool.false_or] at z
      have := h'.2.2.2.1 z; omega
  · rw [Bool.or_eq_false_iff] at z
    obtain ⟨e1, d1⟩ := h.2.2.2.2 z.1
    obtain ⟨e2, d2⟩ := h'.2.2.2.2 z.2
    exact ⟨e2.trans e1, d1, d2⟩
theorem m_pass (hX : MXg σ Γ) (hM : MTt σ Γ T) (hV : GRV Γ) (hT : TOK Γ T) (hv : ∀ m, m < T.N → ∀ x, (Γ.2.2.1 (T.pr m)).2.2.2.2.1 x = true → vl (T.ch m (x / 8)) (x % 8) = RV Γ T vl m x) (hE : MEv σ (kf Y0) vl) {Q : ab_S → Prop} {K79 : Int32 → ab_S → Prop} (h : ∀ τ Y b, MEs σ vl Y0 τ Y b (∀ m, m < T.N → ∀ x, eCl Γ T Y0 m x) → K79 (if b then 1 else 0) τ) : ∃ m, wX12_evaluate_l51 Q E K79 m 0 (nI T.N - 1) σ := by
  have hN := hT.2.1
  refine ⟨T.N + 1, ?_⟩
  suffices H : ∀ k τ Y b, k ≤ T.N → MEs σ vl Y0 τ Y b (∀ m, k ≤ m → m < T.N → ∀ x, eCl Γ T Y0 m x) → wX12_evaluate_l51 Q E K79 (k + 1) (if b then 1 else 0) (nI k - 1) τ from H T.N σ Y0 false (Nat.le_refl _) ⟨FM.rf _ _, hE, fun _ z => z, fun z => absurd z (by decide), fun _ => ⟨rfl, fun m m1 m2 => absurd m1 (Nat.not_le.mpr m2)⟩⟩
  intro k
  induction k with
  | zero =>
    intro τ Y b _ hS
    show wX12_evaluate_l51_b _ _ _ _ _ _ _
    unfold wX12_evaluate_l51_b
    exact yes (by decide) (h τ Y b (hS.d (fun _ _ hD m hm => hD m (Nat.zero_le _) hm)))
  | succ k ih =>
    intro τ Y b hk hS
    have e1 : nI (k + 1) - (1 : Int32) = nI k := by show _ - nI 1 = _; rw [nI_subE (by omega)]; congr 1
    rw [e1]
    show wX12_evaluate_l51_b Q E K79 (wX12_evaluate_l51 Q E K79 (k + 1)) (if b then 1 else 0) (nI k) τ
    unfold wX12_evaluate_l51_b
    refine no (nI_pos (by clear hS; omega)) (m_tn (hX.ev hV hS.1) (hM.ev hS.1) hV hT hk hv hS.2.1 (fun τ' Y' b' S' => ?_))
    have R := (hS.tr S').d (D' := ∀ m, k ≤ m → m < T.N → ∀ x, eCl Γ T Y0 m x) (fun z hY hD m m1 m2 => by
      by_cases e : m = k
      · rw [Bool.or_eq_false_iff] at z
        have := hD.2
        rw [(hS.2.2.2.2 z.1).1] at this
        rw [e]; exact this
      · exact hD.1 m (by clear hS S'; omega) m2)
    have IH := ih τ' Y' (b || b') (by clear hS S' R; omega) R
    unfold wX12_evaluate_j67 wX12_evaluate_j72
    cases b' with
    | true =>
      rw [Bool.or_true] at IH
      exact yes (by decide) (fe IH)
    | false =>
      rw [Bool.or_false] at IH
      refine no (fun q => q rfl) ?_
      cases b with
      | true => exact no (by decide) (fe IH)
      | false => exact yes rfl (fe IH)
theorem m_l38 (hX : MXg σ Γ) (hM : MTt σ Γ T) (hV : GRV Γ) (hT : TOK Γ T) (hv : EVl Γ T vl) (hz : KZ Γ T vl) {Q : ab_S → Prop} (h : ∀ τ, FM SEv σ τ → MVl τ vl → Q τ) : ∀ f Y τ, 2000 ≤ cnt Y 2000 + f → FM SEv σ τ → MEv τ (kf Y) vl → wX12_evaluate_l38 Q E (f + 2) 1 τ := by
  intro f
  have hN := hT.2.1
  have key : ∀ f Y τ (b : Bool), FM SEv σ τ → MEv τ (kf Y) vl → (b = true → wX12_evaluate_l38 Q E (f + 1) 1 τ) → (b = false → ∀ m, m < T.N → ∀ x, eCl Γ T Y m x) → wX12_evaluate_l38 Q E (f + 1) (if b then 1 else 0) τ := by
    intro f Y τ b hF hE k1 k0
    cases b with
    | true => exact k1 rfl
    | false =>
      show wX12_evaluate_l38_b _ _ _ _ _
      unfold wX12_evaluate_l38_b
      refine yes rfl (h τ hF (fun k hk a ha => ?_))
      obtain ⟨m1, m2, m3⟩ := hE k a hk ha
      by_cases q : k < T.N ∧ a < Γ.1.2.2.1 (hdS Γ (T.pr k))
      · have hY : kf Y k a = true := hv.2 (fun k a => kf Y k a = true) (fun m hm x hd hy => k0 rfl m hm x hd hy) k q.1 a q.2
        rw [hY] at m2 m3
        exact ⟨m2, m3⟩
      · rw [hz k a q] at m2 m3 ⊢
        refine ⟨m2.trans ?_, m3.trans ?_⟩
        · cases kf Y k a <;> rfl
        · cases kf Y k a <;> rfl
  have step : ∀ f Y τ, FM SEv σ τ → MEv τ (kf Y) vl → (∀ τ' Y', FM SEv σ τ' → MEv τ' (kf Y') vl → cnt Y 2000 < cnt Y' 2000 → wX12_evaluate_l38 Q E (f + 1) 1 τ') → wX12_evaluate_l38 Q E (f + 2) 1 τ := by
    intro f Y τ hF hE hk
    show wX12_evaluate_l38_b Q E (wX12_evaluate_l38 Q E (f + 1)) 1 τ
    unfold wX12_evaluate_l38_b
    rw [(hM.ev hF).1]
    refine no (by decide) (fe ?_)
    refine m_pass (hX.ev hV hF) (hM.ev hF) hV hT hv.1 hE (fun τ' Y' b S' => ?_)
    unfold wX12_evaluate_j79
    refine key f Y' τ' b (hF.tr S'.1) S'.2.1 (fun z => hk τ' Y' (hF.tr S'.1) S'.2.1 (S'.2.2.2.1 z)) (fun z => ?_)
    obtain ⟨e, hD⟩ := S'.2.2.2.2 z
    rw [e]; exact hD
  induction f with
  | zero =>
    intro Y τ hc hF hE
    refine step 0 Y τ hF hE (fun τ' Y' F' E' hlt => ?_)
    have := cnt_le Y' 2000
    omega
  | succ f ih =>
    intro Y τ hc hF hE
    exact step (f + 1) Y τ hF hE (fun τ' Y' F' E' hlt => ih Y' τ' (by omega) F' E')
/-- a tree's values, the model's -/
theorem m_eval (hX : MXg σ Γ) (hM : MTt σ Γ T) (hV : GRV Γ) (hT : TOK Γ T) (hv : EVl Γ T vl) (hz : KZ Γ T vl) {Q : ab_S → Prop} (h : ∀ τ, FM SEv σ τ → MVl τ vl → Q τ) : wX12_evaluate Q E σ := by
  refine ⟨2001, ?_⟩
  suffices H : ∀ f i τ, 2000 - i = f → i ≤ 2000 → FM SEv σ τ → (∀ j, j < i → τ.2.1 140 j = 0 ∧ τ.2.1 139 j = 0 ∧ τ.2.1 141 j = 0) → wX12_evaluate_l2 Q E (wX12_evaluate_j36 Q E) (f + 1) (nI i) τ from H 2000 0 σ rfl (Nat.zero_le _) (FM.rf _ _) (fun j hj => absurd hj (Nat.not_lt_zero _))
  intro f
  induction f with
  | zero =>
    intro i τ hf hi hF hd
    have e : i = 2000 := by omega
    show wX12_evaluate_l2_b _ _ _ _ _ _
    unfold wX12_evaluate_l2_b
    refine yes (by rw [e]; decide) ?_
    unfold wX12_evaluate_j36
    refine ⟨2002, m_l38 hX hM hV hT hv hz h 2000 (fun _ => false) τ (by omega) hF (fun k a hk ha => ?_)⟩
    exact hd (8 * k + a) (by omega)
  | succ f ih =>
    intro i τ hf hi hF hd
    have ec : (nI i).toNatClampNeg = i := nI_clampE (by omega)
    have ev : vp_in (nI i) 2000 := by simp (disch := omega) only [nI_lit, nI_add, nI_mulE, nI_clampE, nI_eqE, nI_leE, nI_ltE, vp_nIE, true_and, and_true]; omega
    show wX12_evaluate_l2_b Q E (wX12_evaluate_j36 Q E) (wX12_evaluate_l2 Q E (wX12_evaluate_j36 Q E) (f + 1)) (nI i) τ
    unfold wX12_evaluate_l2_b
    rw [ec, nI_1, show vp_nar .boolean (0 : Int32) = 0 from by decide]
    refine no (by show ¬ nI 2000 ≤ nI i; simp (disch := omega) only [nI_lit, nI_add, nI_mulE, nI_clampE, nI_eqE, nI_leE, nI_ltE, vp_nIE, true_and, and_true]; omega) ⟨ev, fe ⟨ev, fe ⟨ev, fe (fe (ih (i + 1) _ (by omega) (by omega) (((hF.I (decide_eq_true (by omega))).I (decide_eq_true (by omega))).I (decide_eq_true (by omega))) (fun j hj => ?_)))⟩⟩⟩
    by_cases e : j = i
    · refine ⟨?_, ?_, ?_⟩
      · rw [gI_o (by decide), gI_o (by decide), gI_s, if_pos e]
      · rw [gI_s, if_pos e]
      · rw [gI_o (by decide), gI_s, if_pos e]
    · obtain ⟨a1, a2, a3⟩ := hd j (by omega)
      refine ⟨?_, ?_, ?_⟩
      · rw [gI_o (by decide), gI_o (by decide), gI_s, if_neg e]; exact a1
      · rw [gI_s, if_neg e, gI_o (by decide), gI_o (by decide)]; exact a2
      · rw [gI_o (by decide), gI_s, if_neg e, gI_o (by decide)]; exact a3
end ME
