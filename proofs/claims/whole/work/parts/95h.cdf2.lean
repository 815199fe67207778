/-! ===== what visits define, the class's: a production's ===== -/
def XC (Γ : GRT) (Y : Nat → Bool) (s v t a : Nat) : Prop := (t < Γ.1.1 ∧ a < 8) ∧ Y (8 * ((s * 7 + v) * 12 + t) + a) = true
def dSc (Γ : GRT) (Y : Nat → Bool) : Prop := ∀ s v t a, s < 12 → v < 7 → t < 12 → a < 8 → Y (8 * ((s * 7 + v) * 12 + t) + a) = true → dF Γ s v t a
def dCe (Γ : GRT) (Y : Nat → Bool) (p i : Nat) : Prop := ∀ t a, dfE Γ (XC Γ Y) p i t a → Y (8 * ((hdS Γ p * 7 + (gE (plP Γ p) i).2.1) * 12 + t) + a) = true
def CDs (σ : ab_S) (Γ : GRT) (Y0 : Nat → Bool) (τ : ab_S) (Y : Nat → Bool) (b : Bool) (D : Prop) : Prop := FM S20 σ τ ∧ YC τ Y ∧ dSc Γ Y ∧ (∀ j, Y0 j = true → Y j = true) ∧ (b = true → cnt Y0 8064 < cnt Y 8064) ∧ (b = false → Y = Y0 ∧ D)
theorem CDs.imp {σ τ : ab_S} {Γ : GRT} {Y0 Y : Nat → Bool} {b : Bool} {D D' : Prop} (h : CDs σ Γ Y0 τ Y b D) (hd : Y = Y0 → D → D') : CDs σ Γ Y0 τ Y b D' := ⟨h.1, h.2.1, h.2.2.1, h.2.2.2.1, h.2.2.2.2.1, fun hb => ⟨(h.2.2.2.2.2 hb).1, hd (h.2.2.2.2.2 hb).1 (h.2.2.2.2.2 hb).2⟩⟩
theorem cnt_mo {f g : Nat → Bool} (h : ∀ i, f i = true → g i = true) : ∀ k, cnt f k ≤ cnt g k := by
  intro k
  by_cases e : f = g
  · rw [e]; exact Nat.le_refl _
  · have : ∃ j, f j = false ∧ g j = true := by
      apply Classical.byContradiction
      intro hn
      apply e
      funext j
      cases hf : f j
      · cases hg : g j
        · rfl
        · exact absurd ⟨j, hf, hg⟩ hn
      · rw [h j hf]
    obtain ⟨j, a, b⟩ := this
    exact (cnt_lt h a b k).1
section CD
variable {σ τ : ab_S} {g p i : Nat} {Γ : GRT} {Y Y0 : Nat → Bool} {b : Bool} {D : Prop} {E : String → ab_S → Prop}
theorem c_addDs (hM : CDs σ Γ Y0 τ Y b D) {s v t : Nat} (hs : s < 12) (hv : v < 7) (ht : t < 12) {x : Int32} {f : Nat → Bool} (hx : B32 x (fun a => decide (a < 8) && f a)) (hf : ∀ a, a < 8 → f a = true → dF Γ s v t a) {Q : Int32 → ab_S → Prop} (h : ∀ (c : Bool) τ', CDs σ Γ Y0 τ' (yAd Y ((s * 7 + v) * 12 + t) f) (b || c) (D ∧ ∀ a, a < 8 → f a = true → Y0 (8 * ((s * 7 + v) * 12 + t) + a) = true) → Q (if c then 1 else 0) τ') : wX7_addDefined (nI ((s * 7 + v) * 12 + t)) x Q E τ := by
  obtain ⟨m1, m2, m3, m4, m5, m6⟩ := hM
  have qj : (s * 7 + v) * 12 + t < 1008 := by omega
  refine c_addD qj hx m2 (fun c τ' F' Y' h1 h0 => h c τ' ⟨m1.tr F', Y', fun s' v' t' a' g1 g2 g3 g4 g5 => ?_, fun j hj => ?_, fun hbc => ?_, fun hbc => ?_⟩)
  · unfold yAd at g5
    rw [Bool.or_eq_true, Bool.and_eq_true, decide_eq_true_eq] at g5
    rcases g5 with g5 | ⟨g5, g6⟩
    · exact m3 s' v' t' a' g1 g2 g3 g4 g5
    · rw [show (8 * ((s' * 7 + v') * 12 + t') + a') % 8 = a' by omega] at g6
      have z1 : s' = s := by omega
      have z2 : v' = v := by omega
      have z3 : t' = t := by omega
      rw [z1, z2, z3]; exact hf a' g4 g6
  · unfold yAd; rw [m4 j hj]; rfl
  · have hup : ∀ j, Y j = true → yAd Y ((s * 7 + v) * 12 + t) f j = true := fun j hj => by unfold yAd; rw [hj]; rfl
    have hc0 : cnt Y0 8064 ≤ cnt Y 8064 := cnt_mo m4 _
    cases c
    · rw [Bool.or_false] at hbc
      have := m5 hbc
      have := cnt_mo hup 8064
      omega
    · obtain ⟨a, a1, a2, a3⟩ := h1 rfl
      have := (cnt_lt hup (j := 8 * ((s * 7 + v) * 12 + t) + a) a3 (by unfold yAd; rw [show (8 * ((s * 7 + v) * 12 + t) + a) / 8 = (s * 7 + v) * 12 + t by omega, show (8 * ((s * 7 + v) * 12 + t) + a) % 8 = a by omega, a2, decide_eq_true rfl, Bool.and_true, Bool.or_true]) 8064).2 (by omega)
      omega
  · rw [Bool.or_eq_false_iff] at hbc
    obtain ⟨e, hD⟩ := m6 hbc.1
    have h0 := h0 hbc.2
    refine ⟨?_, hD, fun a ha hfa => by rw [← e]; exact h0 a ha hfa⟩
    rw [← e]
    funext m
    unfold yAd
    cases hy : Y m
    · rw [Bool.false_or]
      by_cases hm : m / 8 = (s * 7 + v) * 12 + t
      · cases hfm : f (m % 8)
        · rw [Bool.and_false]
        · have := h0 (m % 8) (by omega) hfm
          rw [show 8 * ((s * 7 + v) * 12 + t) + m % 8 = m by omega, hy] at this
          exact absurd this (by decide)
      · rw [decide_eq_false hm, Bool.false_and]
    · rfl
theorem or_01 (b c : Bool) : ((if b then (1 : Int32) else 0) ||| (if c then 1 else 0)) = if (b || c) then 1 else 0 := by cases b <;> cases c <;> decide
/-- a visit's entry -/
theorem c_l118 (hZ : CZ σ g Γ) (hV : GRV Γ) (hL : LVF Γ) (hp : p < Γ.2.1) (hi : i < plN Γ p) (hw : 1 ≤ (gE (plP Γ p) i).2.2) {a0 x3 x4 x5 : Int32} {Q : Int32 → ab_S → Prop} {K158 : Int32 → Int32 → Int32 → Int32 → ab_S → Prop} (h : ∀ τ' Y' (b' : Bool), CDs σ Γ Y0 τ' Y' b' (D ∧ dCe Γ Y0 p i) → K158 (if b' then 1 else 0) x3 x4 x5 τ') : ∀ f t τ Y (b : Bool), Γ.1.1 - t = f → t ≤ Γ.1.1 → CDs σ Γ Y0 τ Y b (D ∧ ∀ t' a, t' < t → a < 8 → Y0 (8 * ((oSy Γ p (gE (plP Γ p) i).1 * 7 + (gE (plP Γ p) i).2.2) * 12 + t') + a) = true → Y0 (8 * ((hdS Γ p * 7 + (gE (plP Γ p) i).2.1) * 12 + t') + a) = true) → wX7_collectDefined_l118 a0 Q E K158 (f + 1) (if b then 1 else 0) x3 x4 x5 (nI ((hdS Γ p * 7 + (gE (plP Γ p) i).2.1) * 12)) (nI ((oSy Γ p (gE (plP Γ p) i).1 * 7 + (gE (plP Γ p) i).2.2) * 12)) (nI t) τ := by
  have h12 := hV.1.1
  have hpv := (hV.2.2.2 p hp).2.1
  rcases en_cs hV hL hp hi with ⟨z, _⟩ | ⟨w0, w1, w2, w3, w4, w5, w6⟩
  · omega
  have hsy : oSy Γ p (gE (plP Γ p) i).1 < Γ.1.1 := hpv.2.1 _ w4
  have hhd : hdS Γ p < Γ.1.1 := hpv.2.1 0 (Nat.zero_le _)
  have hvi : (gE (plP Γ p) i).2.1 ≤ 5 := (plJ_A (Γ := Γ) (p := p) _ (hL.vis _ hhd).2 i hi).2
  have hent : ∀ t a, dF Γ (oSy Γ p (gE (plP Γ p) i).1) (gE (plP Γ p) i).2.2 t a → dF Γ (hdS Γ p) (gE (plP Γ p) i).2.1 t a := fun t a hd => dF_c Γ p hp i hi t a (Or.inr ⟨by omega, hd⟩)
  intro f
  induction f with
  | zero =>
    intro t τ Y b hf ht hM
    have e : t = Γ.1.1 := by omega
    have Z1 := hZ.s20 hV hM.1
    show wX7_collectDefined_l118_b _ _ _ _ _ _ _ _ _ _ _ _ _
    unfold wX7_collectDefined_l118_b
    refine ⟨g, Z1.2.1, Z1.1.1, ?_⟩
    rw [Z1.1.2.2.1.1.1]
    refine yes (by simp (disch := omega) only [nI_lit, nI_add, nI_mulE, nI_clampE, nI_eqE, nI_leE, nI_ltE, vp_nIE, true_and, and_true]; omega) (h τ Y b (hM.imp (fun eY hD => ⟨hD.1, fun t' a hdf => ?_⟩)))
    rcases hdf with ⟨d1, _⟩ | ⟨d1, d2, d3⟩
    · omega
    · exact hD.2 t' a (by omega) d2.2 d3
  | succ f ih =>
    intro t τ Y b hf ht hM
    have q1 : Γ.1.1 - (t + 1) = f := by omega
    have q2 : t + 1 ≤ Γ.1.1 := by omega
    have Z1 := hZ.s20 hV hM.1
    generalize hu : (gE (plP Γ p) i).2.1 = u at *
    generalize hy : oSy Γ p (gE (plP Γ p) i).1 = sy at *
    generalize hww : (gE (plP Γ p) i).2.2 = w at *
    show wX7_collectDefined_l118_b a0 Q E K158 (wX7_collectDefined_l118 a0 Q E K158 (f + 1)) _ x3 x4 x5 (nI ((hdS Γ p * 7 + u) * 12)) (nI ((sy * 7 + w) * 12)) (nI t) τ
    unfold wX7_collectDefined_l118_b
    refine ⟨g, Z1.2.1, Z1.1.1, ?_⟩
    rw [Z1.1.2.2.1.1.1, nI_add, nI_add, nI_clampE (show (sy * 7 + w) * 12 + t < 2147483648 by omega)]
    refine no (by simp (disch := omega) only [nI_lit, nI_add, nI_mulE, nI_clampE, nI_eqE, nI_leE, nI_ltE, vp_nIE, true_and, and_true]; omega) ⟨by simp (disch := omega) only [nI_lit, nI_add, nI_mulE, nI_clampE, nI_eqE, nI_leE, nI_ltE, vp_nIE, true_and, and_true]; omega, ?_⟩
    refine c_addDs hM (s := hdS Γ p) (v := u) (t := t) (by omega) (by omega) (by omega) (f := fun a => Y (8 * ((sy * 7 + w) * 12 + t) + a)) (hM.2.1 _ (by omega)) (fun a ha hfa => hent t a (hM.2.2.1 sy w t a (by omega) (by omega) (by omega) ha hfa)) (fun c τ' hM' => ?_)
    rw [or_01, nI_1]
    refine fe (fe (ih (t + 1) τ' _ (b || c) q1 q2 (hM'.imp (fun eY hD => ⟨hD.1.1, fun t' a ht' ha hY0 => ?_⟩))))
    by_cases e : t' = t
    · rw [e] at hY0 ⊢
      exact hD.2 a ha (hM.2.2.2.1 _ hY0)
    · exact hD.1.2 t' a (by omega) ha hY0
end CD
