/-! ===== what visits define: the picture; the model's ===== -/
def oSy (Γ : GRT) (p o : Nat) : Nat := (Γ.2.2.1 p).2.2.1 o
/-- what an entry defines, if visits define X -/
def dfE (Γ : GRT) (X : Nat → Nat → Nat → Nat → Prop) (p i t a : Nat) : Prop := (10 ≤ (gE (plP Γ p) i).1 ∧ oSy Γ p ((gE (plP Γ p) i).1 / 10 - 1) = t ∧ (gE (plP Γ p) i).1 % 10 = a) ∨ ((gE (plP Γ p) i).1 < 10 ∧ X (oSy Γ p (gE (plP Γ p) i).1) (gE (plP Γ p) i).2.2 t a)
def dfC (Γ : GRT) (X : Nat → Nat → Nat → Nat → Prop) : Prop := ∀ p, p < Γ.2.1 → ∀ i, i < plN Γ p → ∀ t a, dfE Γ X p i t a → X (hdS Γ p) (gE (plP Γ p) i).2.1 t a
def dF (Γ : GRT) (s v t a : Nat) : Prop := ∀ X, dfC Γ X → X s v t a
theorem dfE_mono {Γ : GRT} {X Y : Nat → Nat → Nat → Nat → Prop} (h : ∀ s v t a, X s v t a → Y s v t a) {p i t a : Nat} (hd : dfE Γ X p i t a) : dfE Γ Y p i t a := hd.imp id (fun z => ⟨z.1, h _ _ _ _ z.2⟩)
theorem dF_c (Γ : GRT) : dfC Γ (dF Γ) := fun p hp i hi t a hd X hX => hX p hp i hi t a (dfE_mono (fun s v t a h => h X hX) hd)
/-- an entry is a rule's or a visit's -/
theorem en_cs {Γ : GRT} (hV : GRV Γ) (hL : LVF Γ) {p : Nat} (hp : p < Γ.2.1) {i : Nat} (hi : i < plN Γ p) : ((gE (plP Γ p) i).2.2 = 0 ∧ ∃ x, x < 32 ∧ (plP Γ p).ev x = true ∧ (plP Γ p).ea x = i ∧ (gE (plP Γ p) i).1 = enc x ∧ x / 8 ≤ (Γ.2.2.1 p).2.1 ∧ x % 8 < Γ.1.2.2.1 (oSy Γ p (x / 8))) ∨ (1 ≤ (gE (plP Γ p) i).2.2 ∧ (gE (plP Γ p) i).2.2 ≤ (plP Γ p).vs (gE (plP Γ p) i).1 ∧ (gE (plP Γ p) i).2.2 ≤ 5 ∧ 1 ≤ (gE (plP Γ p) i).1 ∧ (gE (plP Γ p) i).1 ≤ (Γ.2.2.1 p).2.1 ∧ (gE (plP Γ p) i).1 ≤ 3 ∧ (plP Γ p).va (gE (plP Γ p) i).1 (gE (plP Γ p) i).2.2 = i) := by
  have hpv := (hV.2.2.2 p hp).2.1
  have h3 := hpv.1
  have hI : plI Γ p (plP Γ p) := plI_A hL hV hp _
  rcases (plO_A hV hL hp (svs Γ (hdS Γ p))).2.1 i hi with ⟨a, x, b, c, d⟩ | ⟨a, b, c⟩
  · have hx := hI.2.2.2.1 x c
    have d : (plP Γ p).ea x = i := d
    rw [d] at hx
    have hdf := hI.1 x c
    rw [df_dfn hV hp b] at hdf
    unfold dfn at hdf
    rw [Bool.and_eq_true, Bool.and_eq_true, decide_eq_true_eq, decide_eq_true_eq] at hdf
    exact Or.inl ⟨a, x, b, c, d, hx.2.1, hdf.1, hdf.2.1⟩
  · have hv := hI.2.1 (gE (plP Γ p) i).1
    have b : (gE (plP Γ p) i).2.2 ≤ (plP Γ p).vs (gE (plP Γ p) i).1 := b
    have a : 1 ≤ (gE (plP Γ p) i).2.2 := a
    have hn := hv.2 (by omega)
    exact Or.inr ⟨a, b, by omega, hn.1, hn.2.1, by omega, c⟩
section MD
variable {σ : ab_S} {p i : Nat} {Γ : GRT} {E : String → ab_S → Prop}
theorem m_callOf (hV : GRV Γ) (hL : LVF Γ) (hp : p < Γ.2.1) (hP : MPf σ Γ p) (hi : i < plN Γ p) (hw : 1 ≤ (gE (plP Γ p) i).2.2) {Q : Int32 → ab_S → Prop} (h : Q (nI (gE (plP Γ p) i).2.2) σ) : wX12_callOf (nI p) (nI (plB Γ p + i)) Q E σ := by
  have h30 := hV.2.1
  have hB := plB_le hL hV p (by omega)
  have hN := plN_le hL hV hp
  have hI : plI Γ p (plP Γ p) := plI_A hL hV hp _
  have hJ : plJ (plP Γ p) := plJ_A _ ((hL.vis _ ((hV.2.2.2 p hp).2.1.2.1 0 (Nat.zero_le _))).2)
  rcases en_cs hV hL hp hi with ⟨z, _⟩ | ⟨_, w1, w2, w3, w4, w5, w6⟩
  · omega
  obtain ⟨p1, p2, p3, p4, p5, p6⟩ := hP
  have hen : σ.2.1 113 (plB Γ p + i) = nI (gE (plP Γ p) i).1 := p2 i hi
  generalize hw0 : (gE (plP Γ p) i).2.2 = w at *
  generalize ho0 : (gE (plP Γ p) i).1 = o at *
  refine ⟨6, ?_⟩
  suffices H : ∀ f k, 5 - k = f → k ≤ 5 → wX12_callOf_l5 (nI p) (nI (plB Γ p + i)) Q E (f + 1) (nI (if w ≤ k then w else 0)) (nI (k + 1)) σ by
    have := H 5 0 rfl (by omega)
    rw [if_neg (by omega)] at this
    exact this
  have ev : vp_in (nI (plB Γ p + i)) 1600 := by simp (disch := omega) only [nI_lit, nI_add, nI_mulE, nI_clampE, nI_eqE, nI_leE, nI_ltE, vp_nIE, true_and, and_true]; omega
  intro f
  induction f with
  | zero =>
    intro k hf hk
    show wX12_callOf_l5_b _ _ _ _ _ _ _ _
    unfold wX12_callOf_l5_b
    rw [if_pos (by omega)]
    exact yes (by simp (disch := omega) only [nI_lit, nI_add, nI_mulE, nI_clampE, nI_eqE, nI_leE, nI_ltE, vp_nIE, true_and, and_true]; omega) h
  | succ f ih =>
    intro k hf hk
    have IH := ih (k + 1) (by omega) (by omega)
    show wX12_callOf_l5_b (nI p) (nI (plB Γ p + i)) Q E (wX12_callOf_l5 (nI p) (nI (plB Γ p + i)) Q E (f + 1)) _ (nI (k + 1)) σ
    unfold wX12_callOf_l5_b
    rw [nI_clampE (show plB Γ p + i < 2147483648 by omega), hen]
    have e24 : (24 : Int32) * nI p + 6 * nI o + nI (k + 1) = nI (24 * p + 6 * o + (k + 1)) := by
      show nI 24 * nI p + nI 6 * nI o + _ = _
      rw [nI_mulE, nI_mulE, nI_add, nI_add]
    rw [e24]
    refine no (by simp (disch := omega) only [nI_lit, nI_add, nI_mulE, nI_clampE, nI_eqE, nI_leE, nI_ltE, vp_nIE, true_and, and_true]; omega) ⟨ev, fe ⟨by simp (disch := omega) only [nI_lit, nI_add, nI_mulE, nI_clampE, nI_eqE, nI_leE, nI_ltE, vp_nIE, true_and, and_true]; omega, ?_⟩⟩
    rw [nI_clampE (show 24 * p + 6 * o + (k + 1) < 2147483648 by omega), p5 o (k + 1) (by omega) (by omega)]
    have next : k + 1 ≠ w → wX12_callOf_j57 (nI p) (nI (plB Γ p + i)) Q E (wX12_callOf_l5 (nI p) (nI (plB Γ p + i)) Q E (f + 1)) (nI (if w ≤ k then w else 0)) (nI (k + 1)) σ := by
      intro hne
      unfold wX12_callOf_j57 wX12_callOf_j58
      rw [nI_1]
      have e : (if w ≤ k then w else 0) = if w ≤ k + 1 then w else 0 := by
        by_cases z : w ≤ k
        · rw [if_pos z, if_pos (by omega)]
        · rw [if_neg z, if_neg (by omega)]
      rw [e]
      exact fe IH
    by_cases hc : k + 1 ≤ (plP Γ p).vs o
    · have hva := hI.2.2.2.2 o (k + 1) (by omega) hc
      have hj := hJ _ hva.1
      have hva1 : (plP Γ p).va o (k + 1) < plN Γ p := hva.1
      rw [if_pos ⟨by omega, hc⟩, p6 o (k + 1) (by omega) (by omega) hc]
      refine no (by simp (disch := omega) only [nI_lit, nI_add, nI_mulE, nI_clampE, nI_eqE, nI_leE, nI_ltE, vp_nIE, true_and, and_true]; omega) ⟨by simp (disch := omega) only [nI_lit, nI_add, nI_mulE, nI_clampE, nI_eqE, nI_leE, nI_ltE, vp_nIE, true_and, and_true]; omega, ?_⟩
      by_cases he : k + 1 = w
      · refine no (fun z => z (by rw [he, w6])) ?_
        unfold wX12_callOf_j58
        rw [nI_1]
        rw [if_pos (by omega), ← he] at IH
        exact fe IH
      · refine yes ?_ (next he)
        intro z
        rw [nI_eqE (by omega) (by omega)] at z
        apply he
        have e1 : (plP Γ p).va o (k + 1) = i := by omega
        have e2 := hva.2.2
        rw [e1] at e2
        exact e2.symm.trans hw0
    · rw [if_neg (by omega)]
      exact yes (by simp (disch := omega) only [nI_lit, nI_add, nI_mulE, nI_clampE, nI_eqE, nI_leE, nI_ltE, vp_nIE, true_and, and_true]; omega) (next (by omega))
end MD
