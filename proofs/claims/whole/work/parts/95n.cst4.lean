/-! ===== stores, the class's: whether an attribute is kept short ===== -/
/-- the visit of the head in which an attribute of an occurrence is due -/
def dueV (Γ : GRT) (p o a : Nat) : Nat := if o = 0 then vOf Γ (oSy Γ p o) a else (gE (plP Γ p) ((plP Γ p).va o (vOf Γ (oSy Γ p o) a))).2.1
def shA (Γ : GRT) (p o a : Nat) : Prop := if Γ.1.2.2.2.1 (oSy Γ p o) a = decide (o = 0) then nOI Γ p (8 * o + a) (dueV Γ p o a) else (gE (plP Γ p) ((plP Γ p).ea (8 * o + a))).2.1 = dueV Γ p o a
section CS
variable {σ : ab_S} {g p : Nat} {Γ : GRT} {E : String → ab_S → Prop}
theorem c_isDw (hZ : CZ σ g Γ) (hV : GRV Γ) {s a : Nat} (hs : s < Γ.1.1) (ha : a < Γ.1.2.2.1 s) {Q : Int32 → ab_S → Prop} (h : Q (if Γ.1.2.2.2.1 s a then 1 else 0) σ) : wX0_isDown g (nI s) (nI a) Q E σ := by
  have h12 := hV.1.1
  have c8 := (hV.1.2.2 s hs).2.1
  have hb := b_bit (bm (Γ.1.2.2.2.1 s) (Γ.1.2.2.1 s)) (x := a) (by omega)
  rw [bm_bt (by omega) (by omega), decide_eq_true ha, Bool.true_and] at hb
  unfold wX0_isDown
  rw [nI_clampE (show s < 2147483648 by omega), (hZ.1.2.2.1.1.2 s hs).2.2.1]
  refine ⟨by simp (disch := omega) only [nI_lit, nI_add, nI_mulE, nI_clampE, nI_eqE, nI_leE, nI_ltE, vp_nIE, true_and, and_true]; omega, ?_⟩
  cases hd : Γ.1.2.2.2.1 s a
  · rw [hd] at h; exact yes (hb.mpr hd) h
  · rw [hd] at h; exact no (fun z => by rw [hb.mp z] at hd; exact absurd hd (by decide)) h
/-- an attribute of an occurrence that is not the head's: its visit is made -/
theorem va_in (hV : GRV Γ) (hL : LVF Γ) (hp : p < Γ.2.1) (hx : crc (xR Γ p) = false) {o a : Nat} (h1 : 1 ≤ o) (ho : o ≤ (Γ.2.2.1 p).2.1) (ha : a < Γ.1.2.2.1 (oSy Γ p o)) : 1 ≤ vOf Γ (oSy Γ p o) a ∧ vOf Γ (oSy Γ p o) a ≤ (plP Γ p).vs o ∧ vOf Γ (oSy Γ p o) a ≤ 5 ∧ (plP Γ p).va o (vOf Γ (oSy Γ p o) a) < plN Γ p := by
  have hs : oSy Γ p o < Γ.1.1 := (hV.2.2.2 p hp).2.1.2.1 o ho
  have hv := hL.vof _ hs a ha
  have hvis := hL.vis _ hs
  have he : (plP Γ p).vs o = svs Γ (oSy Γ p o) := (plC_ev hV hL hp hx).2 o h1 ho
  have hle : vOf Γ (oSy Γ p o) a ≤ (plP Γ p).vs o := by omega
  exact ⟨hv.1, hle, by omega, ((plI_A hL hV hp (svs Γ (hdS Γ p))).2.2.2.2 o _ hv.1 hle).1⟩
theorem c_shA (hZ : CZ σ g Γ) (hV : GRV Γ) (hL : LVF Γ) (hp : p < Γ.2.1) (hx : crc (xR Γ p) = false) {o a : Nat} (ho : o ≤ (Γ.2.2.1 p).2.1) (ha : a < Γ.1.2.2.1 (oSy Γ p o)) {Q : Int32 → ab_S → Prop} (h1 : shA Γ p o a → Q 1 σ) (h0 : ¬ shA Γ p o a → Q 0 σ) : wX7_isShortAt (nI p) (nI o) (nI a) Q E σ := by
  have h30 := hV.2.1
  have h12 := hV.1.1
  have hpv := (hV.2.2.2 p hp).2.1
  have h3 := hpv.1
  have hB := plB_le hL hV p (by omega)
  have hN := plN_le hL hV hp
  have hs : oSy Γ p o < Γ.1.1 := hpv.2.1 o ho
  have c8 := (hV.1.2.2 _ hs).2.1
  have hv := hL.vof _ hs a ha
  have hvis := hL.vis _ hs
  have hhd : hdS Γ p < Γ.1.1 := hpv.2.1 0 (Nat.zero_le _)
  have hJ : ∀ i, i < plN Γ p → (gE (plP Γ p) i).2.1 ≤ 5 := fun i hi => (plJ_A (Γ := Γ) (p := p) _ (hL.vis _ hhd).2 i hi).2
  have e8 : nI o * 8 + nI a = nI (8 * o + a) := by show nI o * nI 8 + _ = _; rw [nI_mulE, nI_add, Nat.mul_comm]
  unfold wX7_isShortAt
  refine ⟨g, hZ.2.1, hZ.1.1, ?_⟩
  refine c_sym hZ hV hp ho ?_
  rw [e8]
  refine fe ⟨g, hZ.2.1, hZ.1.1, ?_⟩
  refine c_vOf hZ.1 hV hL hs ha ?_
  have hx32 : 8 * o + a < 32 := by omega
  have hdf : (Γ.2.2.1 p).2.2.2.2.1 (8 * o + a) = (Γ.1.2.2.2.1 (oSy Γ p o) a == decide (0 < o)) := by
    rw [df_dfn hV hp hx32]
    unfold dfn
    have ha' : a < Γ.1.2.2.1 ((Γ.2.2.1 p).2.2.1 o) := ha
    rw [show (8 * o + a) / 8 = o by omega, show (8 * o + a) % 8 = a by omega, decide_eq_true ho, decide_eq_true ha', Bool.true_and, Bool.true_and]; rfl
  -- both ways
  have j80 : ∀ y0 : Int32, y0 = (if decide (o = 0) then 1 else 0) → dueV Γ p o a ≤ 5 → wX7_isShortAt_j80 (nI p) (nI o) (nI a) Q E (nI (8 * o + a)) (nI (dueV Γ p o a)) y0 (if Γ.1.2.2.2.1 (oSy Γ p o) a then 1 else 0) σ := by
    intro y0 hy0 hdu
    unfold wX7_isShortAt_j80
    rw [hy0]
    unfold shA at h1 h0
    by_cases hd : Γ.1.2.2.2.1 (oSy Γ p o) a = decide (o = 0)
    · rw [if_pos hd] at h1 h0
      refine no (fun q => q (by rw [hd])) ?_
      exact c_nOI hZ hV hL hp hx hx32 (by omega) (fun q => ⟨Or.inr rfl, h1 q⟩) (fun q => ⟨Or.inl rfl, h0 q⟩)
    · rw [if_neg hd] at h1 h0
      refine yes (fun q => hd ?_) ?_
      · cases hA : Γ.1.2.2.2.1 (oSy Γ p o) a <;> cases hB2 : decide (o = 0)
        · rfl
        · rw [hA, hB2] at q; exact absurd q (by decide)
        · rw [hA, hB2] at q; exact absurd q (by decide)
        · rfl
      · have hev : (plP Γ p).ev (8 * o + a) = true := by
          rw [(plC_ev hV hL hp hx).1, hdf, beq_iff_eq]
          by_cases h00 : o = 0
          · rw [decide_eq_false (show ¬ 0 < o by omega)]
            rw [decide_eq_true h00] at hd
            cases hA : Γ.1.2.2.2.1 (oSy Γ p o) a
            · rfl
            · exact absurd hA hd
          · rw [decide_eq_true (show 0 < o by omega)]
            rw [decide_eq_false h00] at hd
            cases hA : Γ.1.2.2.2.1 (oSy Γ p o) a
            · exact absurd hA hd
            · rfl
        have hlt : (plP Γ p).ea (8 * o + a) < plN Γ p := ((plI_A hL hV hp (svs Γ (hdS Γ p))).2.2.2.1 _ hev).1
        have hj := hJ _ hlt
        refine c_eR hZ hV hp hx32 hev ⟨by simp (disch := omega) only [nI_lit, nI_add, nI_mulE, nI_clampE, nI_eqE, nI_leE, nI_ltE, vp_nIE, true_and, and_true]; omega, ?_⟩
        rw [nI_clampE (show plB Γ p + (plP Γ p).ea (8 * o + a) < 2147483648 by omega), (c_ent hZ hp hlt).2.1]
        by_cases e : (gE (plP Γ p) ((plP Γ p).ea (8 * o + a))).2.1 = dueV Γ p o a
        · exact no (fun q => q (by rw [e])) (h1 e)
        · exact yes (by rw [nI_eqE (by omega) (by omega)]; exact e) (h0 e)
  by_cases h00 : o = 0
  · have hdu : dueV Γ p o a = vOf Γ (oSy Γ p o) a := by unfold dueV; rw [if_pos h00]
    refine no (fun q => q (by rw [h00]; rfl)) ?_
    unfold wX7_isShortAt_j59
    refine ⟨g, hZ.2.1, hZ.1.1, ?_⟩
    refine c_isDw hZ hV hs ha (no (fun q => q (by rw [h00]; rfl)) ?_)
    have := j80 1 (by rw [decide_eq_true h00]; rfl) (by omega)
    rw [hdu] at this
    exact this
  · have hdu : dueV Γ p o a = (gE (plP Γ p) ((plP Γ p).va o (vOf Γ (oSy Γ p o) a))).2.1 := by unfold dueV; rw [if_neg h00]
    obtain ⟨a1, a2, a3, a4⟩ := va_in hV hL hp hx (by omega) ho ha
    have hj := hJ _ a4
    have e47 : (nI p * 4 + nI o) * 7 + nI (vOf Γ (oSy Γ p o) a) = nI ((p * 4 + o) * 7 + vOf Γ (oSy Γ p o) a) := by
      show (nI p * nI 4 + _) * nI 7 + _ = _
      rw [nI_mulE, nI_add, nI_mulE, nI_add]
    have hne : ¬ nI o = 0 := by show ¬ nI o = nI 0; rw [nI_eqE (by omega) (by omega)]; exact h00
    refine yes hne ?_
    unfold wX4_entryOfVisit
    rw [e47, nI_clampE (show (p * 4 + o) * 7 + vOf Γ (oSy Γ p o) a < 2147483648 by omega), (hZ.2.2 p hp).2.2.2 o _ (by omega) a1 a2]
    refine ⟨by simp (disch := omega) only [nI_lit, nI_add, nI_mulE, nI_clampE, nI_eqE, nI_leE, nI_ltE, vp_nIE, true_and, and_true]; omega, by simp (disch := omega) only [nI_lit, nI_add, nI_mulE, nI_clampE, nI_eqE, nI_leE, nI_ltE, vp_nIE, true_and, and_true]; omega, ?_⟩
    rw [nI_clampE (show plB Γ p + (plP Γ p).va o (vOf Γ (oSy Γ p o) a) < 2147483648 by omega), (c_ent hZ hp a4).2.1]
    unfold wX7_isShortAt_j59
    refine ⟨g, hZ.2.1, hZ.1.1, ?_⟩
    refine c_isDw hZ hV hs ha (yes hne ?_)
    have := j80 0 (by rw [decide_eq_false h00]; rfl) (by omega)
    rw [hdu] at this
    exact this
end CS
