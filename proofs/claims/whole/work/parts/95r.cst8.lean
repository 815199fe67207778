/-! ===== stores, the class's: all of them ===== -/
def S22 : Nat → Nat → Bool := fun a i => decide (a = 21 ∨ a = 22 ∨ (a = 19 ∧ i = 5))
def CSf (σ : ab_S) (Γ : GRT) : Prop := (∀ s a, s < Γ.1.1 → a < Γ.1.2.2.1 s → σ.2.1 21 (s * 8 + a) = nI (stv Γ s a) ∧ σ.2.1 22 (s * 8 + a) = nI (vaS Γ s + vaA Γ s a)) ∧ σ.2.1 19 5 = nI (vaS Γ Γ.1.1)
theorem vaA_le (Γ : GRT) (s : Nat) : ∀ a, vaA Γ s a ≤ a
  | 0 => Nat.le_refl _
  | a + 1 => by
    have := vaA_le Γ s a
    show vaA Γ s a + (if stv Γ s a = 0 then 1 else 0) ≤ a + 1
    split <;> omega
theorem vaS_le {Γ : GRT} (hV : GRV Γ) : ∀ s, s ≤ Γ.1.1 → vaS Γ s ≤ 8 * s
  | 0, _ => Nat.le_refl _
  | s + 1, h => by
    have h1 := vaS_le hV s (by omega)
    have h2 := vaA_le Γ s (Γ.1.2.2.1 s)
    have h3 := (hV.1.2.2 s (by omega)).2.1
    show vaS Γ s + vaA Γ s (Γ.1.2.2.1 s) ≤ _
    omega
theorem CDf.fm {S : Nat → Nat → Bool} {σ σ' : ab_S} {Γ : GRT} (h : CDf σ Γ) (f : FM S σ σ') (e : ∀ i, S 20 i = false) : CDf σ' Γ := by
  obtain ⟨Y, h1, h2⟩ := h
  exact ⟨Y, fun j hj => by rw [f.1 _ _ (e j)]; exact h1 j hj, h2⟩
theorem CSf.fm {S : Nat → Nat → Bool} {σ σ' : ab_S} {Γ : GRT} (h : CSf σ Γ) (f : FM S σ σ') (e1 : ∀ i, S 21 i = false) (e2 : ∀ i, S 22 i = false) (e3 : S 19 5 = false) : CSf σ' Γ := by
  refine ⟨fun s a hs ha => ?_, by rw [f.1 _ _ e3]; exact h.2⟩
  rw [f.1 _ _ (e1 _), f.1 _ _ (e2 _)]
  exact h.1 s a hs ha
section CS
variable {σ : ab_S} {g : Nat} {Γ : GRT} {E : String → ab_S → Prop}
/-- one store set down -/
theorem c_j64 (hV : GRV Γ) {τ : ab_S} {s a : Nat} (hs : s < Γ.1.1) (ha : a < Γ.1.2.2.1 s) (hd : ∀ s' a', s' < Γ.1.1 → a' < Γ.1.2.2.1 s' → s' * 8 + a' < s * 8 + a → τ.2.1 21 (s' * 8 + a') = nI (stv Γ s' a') ∧ τ.2.1 22 (s' * 8 + a') = nI (vaS Γ s' + vaA Γ s' a')) (h5 : τ.2.1 19 5 = nI (vaS Γ s + vaA Γ s a)) {Q : ab_S → Prop} {K102 : Int32 → ab_S → Prop} {Bk : Int32 → Int32 → ab_S → Prop} (h : ∀ τ', FM S22 τ τ' → (∀ s' a', s' < Γ.1.1 → a' < Γ.1.2.2.1 s' → s' * 8 + a' < s * 8 + (a + 1) → τ'.2.1 21 (s' * 8 + a') = nI (stv Γ s' a') ∧ τ'.2.1 22 (s' * 8 + a') = nI (vaS Γ s' + vaA Γ s' a')) → τ'.2.1 19 5 = nI (vaS Γ s + vaA Γ s (a + 1)) → Bk (nI s) (nI (a + 1)) τ') : wX7_find_j64 g Q E K102 Bk (nI s) (nI a) (nI (s * 8 + a)) (nI (stv Γ s a)) (nI (s * 8 + a)) τ := by
  have h12 := hV.1.1
  have h8 := (hV.1.2.2 s hs).2.1
  have b1 := vaS_le hV s (by omega)
  have b2 := vaA_le Γ s a
  have b3 := stv_le Γ s a
  have ec : (nI (s * 8 + a)).toNatClampNeg = s * 8 + a := nI_clampE (by omega)
  have ev : vp_in (nI (s * 8 + a)) 96 := by simp (disch := omega) only [nI_lit, nI_add, nI_mulE, nI_clampE, nI_eqE, nI_leE, nI_ltE, vp_nIE, true_and, and_true]; omega
  have eA : vaA Γ s (a + 1) = vaA Γ s a + (if stv Γ s a = 0 then 1 else 0) := rfl
  unfold wX7_find_j64
  rw [ec]
  refine ⟨ev, fe ⟨ev, fe ⟨ev, ?_⟩⟩⟩
  have f1 : FM S22 τ (ab_I (ab_I τ 21 (s * 8 + a) (nI (stv Γ s a))) 22 (s * 8 + a) ((ab_I τ 21 (s * 8 + a) (nI (stv Γ s a))).2.1 19 5)) := ((FM.rf _ τ).I (decide_eq_true (Or.inl rfl))).I (decide_eq_true (Or.inr (Or.inl rfl)))
  have g5 : (ab_I τ 21 (s * 8 + a) (nI (stv Γ s a))).2.1 19 5 = nI (vaS Γ s + vaA Γ s a) := by rw [gI_I, if_neg (by decide)]; exact h5
  rw [g5] at f1 ⊢
  generalize hτ1 : ab_I (ab_I τ 21 (s * 8 + a) (nI (stv Γ s a))) 22 (s * 8 + a) (nI (vaS Γ s + vaA Γ s a)) = τ1 at *
  have w21 : ∀ j, τ1.2.1 21 j = if j = s * 8 + a then nI (stv Γ s a) else τ.2.1 21 j := fun j => by rw [← hτ1, gI_I, if_neg (by decide), gI_I, if_pos rfl]
  have w22 : ∀ j, τ1.2.1 22 j = if j = s * 8 + a then nI (vaS Γ s + vaA Γ s a) else τ.2.1 22 j := fun j => by rw [← hτ1, gI_I, if_pos rfl]; by_cases e : j = s * 8 + a; rw [if_pos e, if_pos e]; rw [if_neg e, if_neg e, gI_I, if_neg (by decide)]
  have w5 : τ1.2.1 19 5 = nI (vaS Γ s + vaA Γ s a) := by rw [← hτ1, gI_I, if_neg (by decide), gI_I, if_neg (by decide)]; exact h5
  have hd1 : ∀ s' a', s' < Γ.1.1 → a' < Γ.1.2.2.1 s' → s' * 8 + a' < s * 8 + (a + 1) → τ1.2.1 21 (s' * 8 + a') = nI (stv Γ s' a') ∧ τ1.2.1 22 (s' * 8 + a') = nI (vaS Γ s' + vaA Γ s' a') := by
    intro s' a' hs' ha' hlt
    have h8' := (hV.1.2.2 s' hs').2.1
    rw [w21, w22]
    by_cases e : s' * 8 + a' = s * 8 + a
    · have e1 : s' = s := by omega
      have e2 : a' = a := by omega
      rw [if_pos e, if_pos e, e1, e2]
      exact ⟨rfl, rfl⟩
    · rw [if_neg e, if_neg e]
      exact hd s' a' hs' ha' (by omega)
  rw [w21, if_pos rfl]
  by_cases e : stv Γ s a = 0
  · refine no (fun q => q (by rw [e]; rfl)) (fe ?_)
    unfold wX7_find_j96
    rw [nI_1]
    rw [if_pos e] at eA
    refine fe (h _ (f1.I (decide_eq_true (by omega))) (fun s' a' z1 z2 z3 => ?_) ?_)
    · rw [gI_I, if_neg (by decide), gI_I, if_neg (by decide)]; exact hd1 s' a' z1 z2 z3
    · rw [gI_I, if_pos rfl, if_pos rfl, w5, nI_1, eA]; rfl
  · refine yes (by show ¬ _ = nI 0; rw [nI_eqE (by omega) (by omega)]; exact e) ?_
    unfold wX7_find_j96
    rw [nI_1]
    rw [if_neg e] at eA
    refine fe (h _ f1 hd1 ?_)
    rw [w5, eA]; rfl
theorem c_find (hX : CX σ g Γ) (hP : ∀ p, p < Γ.2.1 → CPf σ Γ p) (hV : GRV Γ) (hL : LVF Γ) (hx : ∀ p, p < Γ.2.1 → crc (xR Γ p) = false) {Q : ab_S → Prop} (h : ∀ τ, FM (fun a i => decide ((a = 19 ∧ (i = 1 ∨ i = 5)) ∨ (20 ≤ a ∧ a ≤ 22))) σ τ → CZ τ g Γ → CSf τ Γ → Q τ) : wX7_find g Q E σ := by
  have h30 := hV.2.1
  have h12 := hV.1.1
  have hgb := isG_b hX.1
  unfold wX7_find
  refine fe (fe ?_)
  generalize hσ1 : ab_I (ab_R σ 19 1 (some g)) 19 5 0 = σ1
  have F1 : FM (fun a i => decide ((a = 19 ∧ (i = 1 ∨ i = 5)) ∨ (20 ≤ a ∧ a ≤ 22))) σ σ1 := by
    rw [← hσ1]
    have F0 : FM (fun a i => decide ((a = 19 ∧ (i = 1 ∨ i = 5)) ∨ (20 ≤ a ∧ a ≤ 22))) σ (ab_R σ 19 1 (some g)) := by
      refine ⟨fun a i _ => rfl, fun a i _ => rfl, fun a i z => ?_⟩
      have z := of_decide_eq_false z
      rw [gR_R]
      by_cases e : a = 19
      · rw [if_pos e, if_neg (by omega), e]
      · rw [if_neg e]
    exact F0.I (decide_eq_true (by omega))
  have Z1 : CZ σ1 g Γ := ⟨hX.fm hV F1 (fun k i hk => decide_eq_false (by omega)) (decide_eq_false (by omega)), by rw [← hσ1, gR_I, gR_R, if_pos rfl, if_pos rfl], fun p hp => (hP p hp).fm F1 (fun a i q1 q2 => decide_eq_false (by omega))⟩
  have w5 : σ1.2.1 19 5 = nI 0 := by rw [← hσ1, gI_I, if_pos rfl, if_pos rfl]; rfl
  refine c_fD Z1 hV hL (fun σ2 F2 D2 => ⟨Γ.1.1 + 1, ?_⟩)
  have Z2 := Z1.s20 hV F2
  have w5 : σ2.2.1 19 5 = nI (vaS Γ 0) := by rw [F2.1 _ _ (decide_eq_false (by omega))]; exact w5
  have F12 : FM (fun a i => decide ((a = 19 ∧ (i = 1 ∨ i = 5)) ∨ (20 ≤ a ∧ a ≤ 22))) σ σ2 := F1.tr (F2.mono (fun a i y => by have y := of_decide_eq_false y; exact decide_eq_false (by omega)))
  have ZK : ∀ τ, FM S22 σ2 τ → CZ τ g Γ ∧ CDf τ Γ := fun τ f => ⟨Z2.fm hV f (fun k i hk => decide_eq_false (by omega)) (decide_eq_false (by omega)) (decide_eq_false (by omega)) (fun a i q1 q2 => decide_eq_false (by omega)), D2.fm f (fun i => decide_eq_false (by omega))⟩
  suffices H : ∀ f s τ, Γ.1.1 - s = f → s ≤ Γ.1.1 → FM S22 σ2 τ → (∀ s' a', s' < Γ.1.1 → a' < Γ.1.2.2.1 s' → s' * 8 + a' < s * 8 → τ.2.1 21 (s' * 8 + a') = nI (stv Γ s' a') ∧ τ.2.1 22 (s' * 8 + a') = nI (vaS Γ s' + vaA Γ s' a')) → τ.2.1 19 5 = nI (vaS Γ s) → wX7_find_l16 g Q E (f + 1) (nI s) τ from H _ 0 σ2 rfl (Nat.zero_le _) (FM.rf _ _) (fun s' a' _ _ q => by omega) w5
  intro f
  induction f with
  | zero =>
    intro s τ hf hs hF hd h5
    obtain ⟨Z3, D3⟩ := ZK τ hF
    show wX7_find_l16_b _ _ _ _ _ _
    unfold wX7_find_l16_b
    rw [Z3.1.2.2.1.1.1]
    have es : s = Γ.1.1 := by omega
    refine yes (by simp (disch := omega) only [nI_lit, nI_add, nI_mulE, nI_clampE, nI_eqE, nI_leE, nI_ltE, vp_nIE, true_and, and_true]; omega) (h τ (F12.tr (hF.mono (fun a i y => by have y := of_decide_eq_false y; exact decide_eq_false (by omega)))) Z3 ⟨fun s' a' q1 q2 => hd s' a' q1 q2 ?_, by rw [h5, es]⟩)
    have h8 := (hV.1.2.2 s' q1).2.1
    omega
  | succ f ih =>
    intro s τ hf hs hF hd h5
    have hs1 : s < Γ.1.1 := by omega
    have h8 := (hV.1.2.2 s hs1).2.1
    obtain ⟨Z3, D3⟩ := ZK τ hF
    show wX7_find_l16_b g Q E (wX7_find_l16 g Q E (f + 1)) (nI s) τ
    unfold wX7_find_l16_b
    rw [Z3.1.2.2.1.1.1]
    refine no (by simp (disch := omega) only [nI_lit, nI_add, nI_mulE, nI_clampE, nI_eqE, nI_leE, nI_ltE, vp_nIE, true_and, and_true]; omega) ⟨Γ.1.2.2.1 s + 1, ?_⟩
    suffices H2 : ∀ f2 a τ, Γ.1.2.2.1 s - a = f2 → a ≤ Γ.1.2.2.1 s → FM S22 σ2 τ → (∀ s' a', s' < Γ.1.1 → a' < Γ.1.2.2.1 s' → s' * 8 + a' < s * 8 + a → τ.2.1 21 (s' * 8 + a') = nI (stv Γ s' a') ∧ τ.2.1 22 (s' * 8 + a') = nI (vaS Γ s' + vaA Γ s' a')) → τ.2.1 19 5 = nI (vaS Γ s + vaA Γ s a) → wX7_find_l26 g Q E (wX7_find_j102 g Q E (wX7_find_l16 g Q E (f + 1))) (f2 + 1) (nI s) (nI a) τ from H2 _ 0 τ rfl (Nat.zero_le _) hF hd h5
    intro f2
    induction f2 with
    | zero =>
      intro a τ hf2 ha hF hd h5
      obtain ⟨Z3, D3⟩ := ZK τ hF
      have ea : a = Γ.1.2.2.1 s := by omega
      show wX7_find_l26_b _ _ _ _ _ _ _ _
      unfold wX7_find_l26_b
      rw [nI_clampE (show s < 2147483648 by omega), (Z3.1.2.2.1.1.2 s hs1).2.1]
      refine ⟨by simp (disch := omega) only [nI_lit, nI_add, nI_mulE, nI_clampE, nI_eqE, nI_leE, nI_ltE, vp_nIE, true_and, and_true]; omega, yes (by simp (disch := omega) only [nI_lit, nI_add, nI_mulE, nI_clampE, nI_eqE, nI_leE, nI_ltE, vp_nIE, true_and, and_true]; omega) ?_⟩
      unfold wX7_find_j102
      rw [nI_1]
      refine fe (ih (s + 1) τ (by omega) hs1 hF (fun s' a' q1 q2 q3 => hd s' a' q1 q2 ?_) ?_)
      · by_cases e : s' = s
        · rw [e] at q2; rw [e]; omega
        · have := (hV.1.2.2 s' q1).2.1; omega
      · rw [h5, ea]; rfl
    | succ f2 ih2 =>
      intro a τ hf2 ha hF hd h5
      have ha1 : a < Γ.1.2.2.1 s := by omega
      have q1 : Γ.1.2.2.1 s - (a + 1) = f2 := by omega
      obtain ⟨Z3, D3⟩ := ZK τ hF
      have e8 : nI s * 8 + nI a = nI (s * 8 + a) := by show nI s * nI 8 + _ = _; rw [nI_mulE, nI_add]
      show wX7_find_l26_b g Q E (wX7_find_j102 g Q E (wX7_find_l16 g Q E (f + 1))) (wX7_find_l26 g Q E (wX7_find_j102 g Q E (wX7_find_l16 g Q E (f + 1))) (f2 + 1)) (nI s) (nI a) τ
      have go : wX7_find_j64 g Q E (wX7_find_j102 g Q E (wX7_find_l16 g Q E (f + 1))) (wX7_find_l26 g Q E (wX7_find_j102 g Q E (wX7_find_l16 g Q E (f + 1))) (f2 + 1)) (nI s) (nI a) (nI (s * 8 + a)) (nI (stv Γ s a)) (nI (s * 8 + a)) τ :=
        c_j64 hV hs1 ha1 hd h5 (fun τ' F' hd' h5' => ih2 (a + 1) τ' q1 ha1 (hF.tr F') hd' h5')
      unfold wX7_find_l26_b
      rw [nI_clampE (show s < 2147483648 by omega), (Z3.1.2.2.1.1.2 s hs1).2.1, e8]
      refine ⟨by simp (disch := omega) only [nI_lit, nI_add, nI_mulE, nI_clampE, nI_eqE, nI_leE, nI_ltE, vp_nIE, true_and, and_true]; omega, no (by simp (disch := omega) only [nI_lit, nI_add, nI_mulE, nI_clampE, nI_eqE, nI_leE, nI_ltE, vp_nIE, true_and, and_true]; omega) (fe ?_)⟩
      by_cases e : s = 0
      · refine no (fun q => q (by rw [e]; rfl)) ?_
        rw [stv_2 (Or.inl e)] at go
        exact go
      · refine yes (by show ¬ _ = nI 0; rw [nI_eqE (by omega) (by omega)]; exact e) ?_
        refine c_kOf Z3 D3 hV hL hx hs1 ha1 (fun q => ?_) (fun q1 q2 => ?_) (fun q1 q2 => ?_)
        · rw [stv_2 (Or.inr q)] at go; exact go
        · rw [stv_1 e q1 q2] at go; exact go
        · rw [stv_0 e q1 q2] at go; exact go
end CS
