/-! ===== the program, the model's: kinds and numbers ===== -/
def MW (σ : ab_S) (Γ : GRT) : Prop := MXg σ Γ ∧ (∀ p, p < Γ.2.1 → MPf σ Γ p) ∧ MSf σ Γ
def S146 : Nat → Nat → Bool := fun a i => decide ((a = 92 ∧ i = 74) ∨ (146 ≤ a ∧ a ≤ 153))
theorem MSf.fm {S : Nat → Nat → Bool} {σ σ' : ab_S} {Γ : GRT} (h : MSf σ Γ) (f : FM S σ σ') (e : ∀ i, S 123 i = false) : MSf σ' Γ := fun s a hs ha => by rw [f.1 _ _ (e _)]; exact h s a hs ha
theorem MW.fm {S : Nat → Nat → Bool} {σ σ' : ab_S} {Γ : GRT} (h : MW σ Γ) (hV : GRV Γ) (f : FM S σ σ') (e : ∀ a i, (a = 92 ∧ (i = 9 ∨ i = 14 ∨ i = 21)) ∨ (97 ≤ a ∧ a ≤ 123) → S a i = false) : MW σ' Γ :=
  ⟨h.1.fm hV f ⟨e _ _ (by omega), e _ _ (by omega), e _ _ (by omega)⟩ (fun a i q1 q2 => e _ _ (by omega)), fun p hp => (h.2.1 p hp).fm f (fun a i q1 q2 => e _ _ (by omega)), h.2.2.fm f (fun i => e _ _ (by omega))⟩
theorem MW.s146 {σ σ' : ab_S} {Γ : GRT} (h : MW σ Γ) (hV : GRV Γ) (f : FM S146 σ σ') : MW σ' Γ := h.fm hV f (fun a i q => decide_eq_false (by omega))
section MP
variable {σ : ab_S} {p : Nat} {Γ : GRT} {E : String → ab_S → Prop}
theorem m_sB (hW : MW σ Γ) (hV : GRV Γ) {s b k : Nat} (hs : s < Γ.1.1) (hb : b ≤ Γ.1.2.2.1 s) (hk : k ≤ 2) {Q : Int32 → ab_S → Prop} (h : Q (nI (cSt Γ s k b)) σ) : wX12_storedBelow (nI s) (nI b) (nI k) Q E σ := by
  have h12 := hV.1.1
  have h8 := (hV.1.2.2 s hs).2.1
  refine ⟨b + 1, ?_⟩
  suffices H : ∀ f i, b - i = f → i ≤ b → wX12_storedBelow_l6 (nI s) (nI b) (nI k) Q E (f + 1) (nI (cSt Γ s k i)) (nI i) σ from H _ 0 rfl (Nat.zero_le _)
  intro f
  induction f with
  | zero =>
    intro i hf hi
    have e : i = b := by omega
    show wX12_storedBelow_l6_b _ _ _ _ _ _ _ _ _
    unfold wX12_storedBelow_l6_b
    rw [e]
    exact yes (by simp (disch := omega) only [nI_lit, nI_add, nI_mulE, nI_clampE, nI_eqE, nI_leE, nI_ltE, vp_nIE, true_and, and_true]; omega) h
  | succ f ih =>
    intro i hf hi
    have IH := ih (i + 1) (by omega) (by omega)
    have hst := stv_le Γ s i
    have e8 : (8 : Int32) * nI s + nI i = nI (8 * s + i) := by show nI 8 * nI s + _ = _; rw [nI_mulE, nI_add]
    show wX12_storedBelow_l6_b (nI s) (nI b) (nI k) Q E (wX12_storedBelow_l6 (nI s) (nI b) (nI k) Q E (f + 1)) _ (nI i) σ
    unfold wX12_storedBelow_l6_b
    rw [e8, nI_clampE (show 8 * s + i < 2147483648 by omega), hW.2.2 s i hs (by omega)]
    refine no (by simp (disch := omega) only [nI_lit, nI_add, nI_mulE, nI_clampE, nI_eqE, nI_leE, nI_ltE, vp_nIE, true_and, and_true]; omega) ⟨by simp (disch := omega) only [nI_lit, nI_add, nI_mulE, nI_clampE, nI_eqE, nI_leE, nI_ltE, vp_nIE, true_and, and_true]; omega, ?_⟩
    have ec : cSt Γ s k (i + 1) = cSt Γ s k i + (if stv Γ s i = k then 1 else 0) := rfl
    by_cases c : stv Γ s i = k
    · rw [if_pos c] at ec
      rw [ec] at IH
      refine no (fun z => z (by rw [c])) ?_
      unfold wX12_storedBelow_j37
      rw [nI_1, nI_1]
      exact fe IH
    · rw [if_neg c] at ec
      rw [ec, Nat.add_zero] at IH
      refine yes (by rw [nI_eqE (by omega) (by omega)]; exact c) ?_
      unfold wX12_storedBelow_j37
      rw [nI_1]
      exact fe IH
theorem m_stA (hW : MW σ Γ) (hV : GRV Γ) (hp : p < Γ.2.1) {x : Nat} (hx : x < 32) (ho : x / 8 ≤ (Γ.2.2.1 p).2.1) (ha : x % 8 < Γ.1.2.2.1 (oSy Γ p (x / 8))) {Q : Int32 → ab_S → Prop} (h : Q (nI (stv Γ (oSy Γ p (x / 8)) (x % 8))) σ) : wX12_storeAt (nI p) (nI x) Q E σ := by
  have h12 := hV.1.1
  have h30 := hV.2.1
  have hs : oSy Γ p (x / 8) < Γ.1.1 := (hV.2.2.2 p hp).2.1.2.1 _ ho
  have e4 : (4 : Int32) * nI p + nI (x / 8) = nI (4 * p + x / 8) := by show nI 4 * nI p + _ = _; rw [nI_mulE, nI_add]
  have e8 : (8 : Int32) * nI (oSy Γ p (x / 8)) + nI (x % 8) = nI (8 * oSy Γ p (x / 8) + x % 8) := by show nI 8 * _ + _ = _; rw [nI_mulE, nI_add]
  have w4 : σ.2.1 104 (4 * p + x / 8) = nI (oSy Γ p (x / 8)) := (hW.1.1.2.2.2 p hp).2.2.1 _ (by omega)
  unfold wX12_storeAt
  rw [i_mod8 x (by omega), i_div8 x (by omega), e4, nI_clampE (show 4 * p + x / 8 < 2147483648 by omega), w4, e8, nI_clampE (show 8 * oSy Γ p (x / 8) + x % 8 < 2147483648 by omega), hW.2.2 _ _ hs ha]
  exact ⟨by simp (disch := omega) only [nI_lit, nI_add, nI_mulE, nI_clampE, nI_eqE, nI_leE, nI_ltE, vp_nIE, true_and, and_true]; omega, by simp (disch := omega) only [nI_lit, nI_add, nI_mulE, nI_clampE, nI_eqE, nI_leE, nI_ltE, vp_nIE, true_and, and_true]; omega, h⟩
theorem m_tB (hW : MW σ Γ) (hV : GRV Γ) (hp : p < Γ.2.1) {x : Nat} (hx : x < 32) (ho : x / 8 ≤ (Γ.2.2.1 p).2.1) (ha : x % 8 < Γ.1.2.2.1 (oSy Γ p (x / 8))) {Q : Int32 → ab_S → Prop} (h : Q (nI (gN Γ p x)) σ) : wX12_toldBy (nI p) (nI x) Q E σ := by
  have h12 := hV.1.1
  have h30 := hV.2.1
  have hpv := (hV.2.2.2 p hp).2.1
  have h3 := hpv.1
  have hs : oSy Γ p (x / 8) < Γ.1.1 := hpv.2.1 _ ho
  have hst := stv_le Γ (oSy Γ p (x / 8)) (x % 8)
  have e4 : ∀ k, (4 : Int32) * nI p + nI k = nI (4 * p + k) := fun k => by show nI 4 * nI p + _ = _; rw [nI_mulE, nI_add]
  have e8 : (8 : Int32) * nI (oSy Γ p (x / 8)) + nI (x % 8) = nI (8 * oSy Γ p (x / 8) + x % 8) := by show nI 8 * _ + _ = _; rw [nI_mulE, nI_add]
  have w4 : ∀ k, k ≤ (Γ.2.2.1 p).2.1 → σ.2.1 104 (4 * p + k) = nI (oSy Γ p k) := fun k hk => (hW.1.1.2.2.2 p hp).2.2.1 k (by omega)
  unfold wX12_toldBy
  rw [i_mod8 x (by omega), i_div8 x (by omega)]
  refine fe (fe ?_)
  rw [e4, nI_clampE (show 4 * p + x / 8 < 2147483648 by omega), w4 _ ho]
  refine ⟨by simp (disch := omega) only [nI_lit, nI_add, nI_mulE, nI_clampE, nI_eqE, nI_leE, nI_ltE, vp_nIE, true_and, and_true]; omega, fe ?_⟩
  rw [e8, nI_clampE (show 8 * oSy Γ p (x / 8) + x % 8 < 2147483648 by omega), hW.2.2 _ _ hs ha]
  refine ⟨by simp (disch := omega) only [nI_lit, nI_add, nI_mulE, nI_clampE, nI_eqE, nI_leE, nI_ltE, vp_nIE, true_and, and_true]; omega, fe ?_⟩
  refine m_sB hW hV hs (by omega) hst ?_
  unfold gN at h
  by_cases c2 : stv Γ (oSy Γ p (x / 8)) (x % 8) = 2
  · rw [if_neg (by omega), if_neg (by omega)] at h
    refine no (fun z => z (by rw [c2]; rfl)) ?_
    have e10 : (10 : Int32) * nI (x / 8) + nI (x % 8) = nI (10 * (x / 8) + x % 8) := by show nI 10 * _ + _ = _; rw [nI_mulE, nI_add]
    rw [e10]; exact h
  · refine yes (by show ¬ _ = nI 2; rw [nI_eqE (by omega) (by omega)]; exact c2) ?_
    by_cases c0 : stv Γ (oSy Γ p (x / 8)) (x % 8) = 0
    · rw [if_pos c0] at h
      rw [c0]
      refine ⟨oSy Γ p (x / 8) + 1, ?_⟩
      suffices H : ∀ f t, oSy Γ p (x / 8) - t = f → t ≤ oSy Γ p (x / 8) → wX12_toldBy_l67 (nI p) (nI x) Q E (wX12_toldBy_j104 (nI p) (nI x) Q E) (f + 1) (nI (x / 8)) (nI (oSy Γ p (x / 8))) (nI 0) (nI (cSt Γ (oSy Γ p (x / 8)) 0 (x % 8) + vaS Γ t)) (nI t) σ from H _ 0 rfl (Nat.zero_le _)
      intro f
      induction f with
      | zero =>
        intro t hf ht
        have et : t = oSy Γ p (x / 8) := by omega
        show wX12_toldBy_l67_b _ _ _ _ _ _ _ _ _ _ _ _
        unfold wX12_toldBy_l67_b
        refine yes (by simp (disch := omega) only [nI_lit, nI_add, nI_mulE, nI_clampE, nI_eqE, nI_leE, nI_ltE, vp_nIE, true_and, and_true]; omega) ?_
        unfold wX12_toldBy_j104
        refine ⟨1, ?_⟩
        show wX12_toldBy_l107_b _ _ _ _ _ _ _ _ _ _
        unfold wX12_toldBy_l107_b
        rw [et, cSt_0, Nat.add_comm]
        by_cases cx : x / 8 ≤ 1
        · exact yes (by simp (disch := omega) only [nI_lit, nI_add, nI_mulE, nI_clampE, nI_eqE, nI_leE, nI_ltE, vp_nIE, true_and, and_true]; omega) h
        · exact no (by simp (disch := omega) only [nI_lit, nI_add, nI_mulE, nI_clampE, nI_eqE, nI_leE, nI_ltE, vp_nIE, true_and, and_true]; omega) (yes (by decide) h)
      | succ f ih =>
        intro t hf ht
        have ht1 : t < Γ.1.1 := by omega
        have IH := ih (t + 1) (by omega) (by omega)
        show wX12_toldBy_l67_b (nI p) (nI x) Q E (wX12_toldBy_j104 (nI p) (nI x) Q E) (wX12_toldBy_l67 (nI p) (nI x) Q E (wX12_toldBy_j104 (nI p) (nI x) Q E) (f + 1)) (nI (x / 8)) (nI (oSy Γ p (x / 8))) (nI 0) _ (nI t) σ
        unfold wX12_toldBy_l67_b
        refine no (by simp (disch := omega) only [nI_lit, nI_add, nI_mulE, nI_clampE, nI_eqE, nI_leE, nI_ltE, vp_nIE, true_and, and_true]; omega) (no (fun z => z rfl) ⟨by simp (disch := omega) only [nI_lit, nI_add, nI_mulE, nI_clampE, nI_eqE, nI_leE, nI_ltE, vp_nIE, true_and, and_true]; omega, ?_⟩)
        rw [nI_clampE (show t < 2147483648 by omega), (hW.1.1.1.2 t ht1).2.1]
        refine m_sB (k := 0) hW hV ht1 (Nat.le_refl _) (by omega) ?_
        rw [nI_add, nI_1]
        refine fe (fe ?_)
        have ev : cSt Γ (oSy Γ p (x / 8)) 0 (x % 8) + vaS Γ t + cSt Γ t 0 (Γ.1.2.2.1 t) = cSt Γ (oSy Γ p (x / 8)) 0 (x % 8) + vaS Γ (t + 1) := by
          rw [cSt_0 Γ t]
          show _ = _ + (vaS Γ t + vaA Γ t (Γ.1.2.2.1 t))
          omega
        rw [ev]
        exact IH
    · have c1 : stv Γ (oSy Γ p (x / 8)) (x % 8) = 1 := by omega
      rw [if_neg c0, if_pos c1] at h
      rw [c1]
      refine ⟨1, ?_⟩
      show wX12_toldBy_l67_b _ _ _ _ _ _ _ _ _ _ _ _
      unfold wX12_toldBy_l67_b
      have go : wX12_toldBy_j104 (nI p) (nI x) Q E (nI (x / 8)) (nI 1) (nI (cSt Γ (oSy Γ p (x / 8)) 1 (x % 8))) σ := by
        unfold wX12_toldBy_j104
        by_cases c00 : x / 8 = 0
        · refine ⟨1, ?_⟩
          show wX12_toldBy_l107_b _ _ _ _ _ _ _ _ _ _
          unfold wX12_toldBy_l107_b
          have ef : frA Γ p (x / 8) = 0 := by rw [c00]; rfl
          rw [ef, Nat.zero_add] at h
          exact yes (by simp (disch := omega) only [nI_lit, nI_add, nI_mulE, nI_clampE, nI_eqE, nI_leE, nI_ltE, vp_nIE, true_and, and_true]; omega) h
        refine ⟨x / 8 - 1 + 1, ?_⟩
        suffices H : ∀ f k, x / 8 - k = f → 1 ≤ k → k ≤ x / 8 → wX12_toldBy_l107 (nI p) (nI x) Q E (f + 1) (nI (x / 8)) (nI 1) (nI (cSt Γ (oSy Γ p (x / 8)) 1 (x % 8) + frA Γ p k)) (nI k) σ from H (x / 8 - 1) 1 rfl (Nat.le_refl _) (by omega)
        intro f
        induction f with
        | zero =>
          intro k hf k1 hk
          have ek : k = x / 8 := by omega
          show wX12_toldBy_l107_b _ _ _ _ _ _ _ _ _ _
          unfold wX12_toldBy_l107_b
          rw [ek, Nat.add_comm]
          exact yes (by simp (disch := omega) only [nI_lit, nI_add, nI_mulE, nI_clampE, nI_eqE, nI_leE, nI_ltE, vp_nIE, true_and, and_true]; omega) h
        | succ f ih =>
          intro k hf k1 hk
          have hko : k ≤ (Γ.2.2.1 p).2.1 := by omega
          have hsk : oSy Γ p k < Γ.1.1 := hpv.2.1 k hko
          have IH := ih (k + 1) (by omega) (by omega) (by omega)
          show wX12_toldBy_l107_b (nI p) (nI x) Q E (wX12_toldBy_l107 (nI p) (nI x) Q E (f + 1)) (nI (x / 8)) (nI 1) _ (nI k) σ
          unfold wX12_toldBy_l107_b
          rw [e4, nI_clampE (show 4 * p + k < 2147483648 by omega), w4 k hko, nI_clampE (show oSy Γ p k < 2147483648 by omega), (hW.1.1.1.2 _ hsk).2.1]
          refine no (by simp (disch := omega) only [nI_lit, nI_add, nI_mulE, nI_clampE, nI_eqE, nI_leE, nI_ltE, vp_nIE, true_and, and_true]; omega) (no (fun z => z rfl) ⟨by simp (disch := omega) only [nI_lit, nI_add, nI_mulE, nI_clampE, nI_eqE, nI_leE, nI_ltE, vp_nIE, true_and, and_true]; omega, by simp (disch := omega) only [nI_lit, nI_add, nI_mulE, nI_clampE, nI_eqE, nI_leE, nI_ltE, vp_nIE, true_and, and_true]; omega, by simp (disch := omega) only [nI_lit, nI_add, nI_mulE, nI_clampE, nI_eqE, nI_leE, nI_ltE, vp_nIE, true_and, and_true]; omega, ?_⟩)
          refine m_sB (k := 1) hW hV hsk (Nat.le_refl _) (by omega) ?_
          rw [nI_add, nI_1]
          refine fe (fe ?_)
          have ec : frA Γ p (k + 1) = frA Γ p k + cSt Γ (oSy Γ p k) 1 (Γ.1.2.2.1 (oSy Γ p k)) := by
            show frA Γ p k + (if k = 0 then 0 else _) = _
            rw [if_neg (by omega)]
          rw [ec, ← Nat.add_assoc] at IH
          exact IH
      by_cases cs : oSy Γ p (x / 8) = 0
      · exact yes (by rw [cs]; decide) go
      · exact no (by show ¬ _ ≤ nI 0; simp (disch := omega) only [nI_lit, nI_add, nI_mulE, nI_clampE, nI_eqE, nI_leE, nI_ltE, vp_nIE, true_and, and_true]; omega) (yes (by decide) go)
end MP
