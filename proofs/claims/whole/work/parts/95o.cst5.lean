/-! ===== stores, the class's: whether an attribute is alone ===== -/
def alLo (Γ : GRT) (p o a : Nat) : Nat := if Γ.1.2.2.2.1 (oSy Γ p o) a = decide (o = 0) then (if o = 0 then plF Γ p (vOf Γ (oSy Γ p o) a) else (plP Γ p).va o (vOf Γ (oSy Γ p o) a) + 1) else (plP Γ p).ea (8 * o + a) + 1
def alHi (Γ : GRT) (p o a : Nat) : Nat := if Γ.1.2.2.2.1 (oSy Γ p o) a = decide (o = 0) then lNm Γ p (8 * o + a) 32 - 1 else (if o = 0 then plF Γ p (vOf Γ (oSy Γ p o) a + 1) else (plP Γ p).va o (vOf Γ (oSy Γ p o) a))
def alA (Γ : GRT) (p o a : Nat) : Prop := ¬ ∃ i, alLo Γ p o a ≤ i ∧ i < alHi Γ p o a ∧ dfE Γ (dF Γ) p i (oSy Γ p o) a
section CS
variable {σ : ab_S} {g p : Nat} {Γ : GRT} {E : String → ab_S → Prop}
theorem sl_ev (hV : GRV Γ) (hL : LVF Γ) (hp : p < Γ.2.1) (hx : crc (xR Γ p) = false) {o a : Nat} (ho : o ≤ (Γ.2.2.1 p).2.1) (ha : a < Γ.1.2.2.1 (oSy Γ p o)) (hd : ¬ Γ.1.2.2.2.1 (oSy Γ p o) a = decide (o = 0)) : (plP Γ p).ev (8 * o + a) = true ∧ (plP Γ p).ea (8 * o + a) < plN Γ p := by
  have hpv := (hV.2.2.2 p hp).2.1
  have h3 := hpv.1
  have hs : oSy Γ p o < Γ.1.1 := hpv.2.1 o ho
  have c8 := (hV.1.2.2 _ hs).2.1
  have hev : (plP Γ p).ev (8 * o + a) = true := by
    rw [(plC_ev hV hL hp hx).1, df_dfn hV hp (by omega)]
    unfold dfn
    have ha' : a < Γ.1.2.2.1 ((Γ.2.2.1 p).2.2.1 o) := ha
    rw [show (8 * o + a) / 8 = o by omega, show (8 * o + a) % 8 = a by omega, decide_eq_true ho, decide_eq_true ha', Bool.true_and, Bool.true_and]
    show (Γ.1.2.2.2.1 (oSy Γ p o) a == decide (0 < o)) = true
    rw [beq_iff_eq]
    by_cases h00 : o = 0
    · rw [decide_eq_false (show ¬ 0 < o by omega)]
      rw [decide_eq_true h00] at hd
      cases hA : Γ.1.2.2.2.1 (oSy Γ p o) a
      · rfl
      · exact absurd hA hd
    · rw [decide_eq_true (show 0 < o by omega)]
      rw [decide_eq_false h00] at hd
      cases hA : Γ.1.2.2.2.1 (oSy Γ p o) a
      · exact absurd hA hd
      · rfl
  exact ⟨hev, ((plI_A hL hV hp (svs Γ (hdS Γ p))).2.2.2.1 _ hev).1⟩
theorem nI_hi (hB : plB Γ p ≤ 1410) {hi : Nat} (hh : hi ≤ 48) : ∀ j, j ≤ 48 → ((nI (plB Γ p + hi) ≤ nI (plB Γ p + j)) ↔ hi ≤ j) := fun j hj => by rw [nI_leE (by omega) (by omega)]; omega
theorem c_first (hZ : CZ σ g Γ) (hV : GRV Γ) (hL : LVF Γ) (hp : p < Γ.2.1) {v : Nat} (h1 : 1 ≤ v) (hv : v ≤ svs Γ (hdS Γ p) + 1) {Q : Int32 → ab_S → Prop} (h : Q (nI (plB Γ p + plF Γ p v)) σ) : wX4_first (nI p) (nI v) Q E σ := by
  have h30 := hV.2.1
  have hhd : hdS Γ p < Γ.1.1 := (hV.2.2.2 p hp).2.1.2.1 0 (Nat.zero_le _)
  have hvis := hL.vis _ hhd
  have e7 : nI p * 7 + nI v = nI (p * 7 + v) := by show nI p * nI 7 + _ = _; rw [nI_mulE, nI_add]
  unfold wX4_first
  rw [e7, nI_clampE (show p * 7 + v < 2147483648 by omega), (hZ.2.2 p hp).1 v h1 hv]
  exact ⟨by simp (disch := omega) only [nI_lit, nI_add, nI_mulE, nI_clampE, nI_eqE, nI_leE, nI_ltE, vp_nIE, true_and, and_true]; omega, h⟩
theorem c_eV (hZ : CZ σ g Γ) (hV : GRV Γ) (hp : p < Γ.2.1) {o w : Nat} (ho : o < 4) (h1 : 1 ≤ w) (hw : w ≤ (plP Γ p).vs o) (h5 : w ≤ 5) {Q : Int32 → ab_S → Prop} (h : Q (nI (plB Γ p + (plP Γ p).va o w)) σ) : wX4_entryOfVisit (nI p) (nI o) (nI w) Q E σ := by
  have h30 := hV.2.1
  have e47 : (nI p * 4 + nI o) * 7 + nI w = nI ((p * 4 + o) * 7 + w) := by
    show (nI p * nI 4 + _) * nI 7 + _ = _
    rw [nI_mulE, nI_add, nI_mulE, nI_add]
  unfold wX4_entryOfVisit
  rw [e47, nI_clampE (show (p * 4 + o) * 7 + w < 2147483648 by omega), (hZ.2.2 p hp).2.2.2 o w ho h1 hw]
  exact ⟨by simp (disch := omega) only [nI_lit, nI_add, nI_mulE, nI_clampE, nI_eqE, nI_leE, nI_ltE, vp_nIE, true_and, and_true]; omega, h⟩
theorem c_alA (hZ : CZ σ g Γ) (hD : CDf σ Γ) (hV : GRV Γ) (hL : LVF Γ) (hp : p < Γ.2.1) (hx : crc (xR Γ p) = false) {o a : Nat} (ho : o ≤ (Γ.2.2.1 p).2.1) (ha : a < Γ.1.2.2.1 (oSy Γ p o)) {Q : Int32 → ab_S → Prop} (h1 : alA Γ p o a → Q 1 σ) (h0 : ¬ alA Γ p o a → Q 0 σ) : wX7_isAloneAt (nI p) (nI o) (nI a) Q E σ := by
  have h30 := hV.2.1
  have h12 := hV.1.1
  have hpv := (hV.2.2.2 p hp).2.1
  have h3 := hpv.1
  have hB := plB_le hL hV p (by omega)
  have hN := plN_le hL hV hp
  have hs : oSy Γ p o < Γ.1.1 := hpv.2.1 o ho
  have c8 := (hV.1.2.2 _ hs).2.1
  have hv := hL.vof _ hs a ha
  have hvis := hL.vis _ hs
  have e8 : nI o * 8 + nI a = nI (8 * o + a) := by show nI o * nI 8 + _ = _; rw [nI_mulE, nI_add, Nat.mul_comm]
  have hx32 : 8 * o + a < 32 := by omega
  have hln := lNm_le hV hL hp hx (y := 8 * o + a) 32
  unfold wX7_isAloneAt
  refine ⟨g, hZ.2.1, hZ.1.1, ?_⟩
  refine c_sym hZ hV hp ho ?_
  rw [e8]
  refine fe ⟨g, hZ.2.1, hZ.1.1, ?_⟩
  refine c_vOf hZ.1 hV hL hs ha ?_
  unfold alA alLo alHi at h1 h0
  by_cases h00 : o = 0
  · have hs0 : oSy Γ p o = hdS Γ p := by rw [h00]; rfl
    rw [decide_eq_true h00, if_pos h00, if_pos h00] at h1 h0
    refine no (fun q => q (by rw [h00]; rfl)) ⟨g, hZ.2.1, hZ.1.1, ?_⟩
    refine c_isDw hZ hV hs ha ?_
    have hvs : vOf Γ (oSy Γ p o) a ≤ svs Γ (hdS Γ p) := by rw [← hs0]; exact hv.2.1
    cases hd : Γ.1.2.2.2.1 (oSy Γ p o) a
    · rw [hd, if_neg (by decide), if_neg (by decide)] at h1 h0
      obtain ⟨s1, s2⟩ := sl_ev hV hL hp hx ho ha (by rw [hd, decide_eq_true h00]; decide)
      refine yes rfl ?_
      refine c_eR hZ hV hp hx32 s1 ?_
      rw [nI_1, nI_1]
      refine c_first hZ hV hL hp (by omega) (by omega) ?_
      have hle := plF_le (Γ := Γ) (p := p) (u := vOf Γ (oSy Γ p o) a) hvs
      rw [Nat.add_assoc]
      exact c_fre hZ hD hV hL hp (by omega) hle (nI_hi (by omega) (by omega)) hs (by omega) (fun q => ⟨Or.inr rfl, h1 q⟩) (fun q => ⟨Or.inl rfl, h0 (fun z => z q)⟩)
    · rw [hd, if_pos rfl, if_pos rfl] at h1 h0
      refine no (by decide) ?_
      refine c_first hZ hV hL hp hv.1 (by omega) ?_
      refine c_lN hZ hV hL hp hx hx32 ?_
      have hle : plF Γ p (vOf Γ (oSy Γ p o) a) ≤ plN Γ p := by
        have := plF_le (Γ := Γ) (p := p) (u := vOf Γ (oSy Γ p o) a - 1) (by omega)
        rw [show vOf Γ (oSy Γ p o) a - 1 + 1 = vOf Γ (oSy Γ p o) a by omega] at this
        exact this
      exact c_fre hZ hD hV hL hp (by omega) (by omega) (lnI_le (by omega) (by omega)) hs (by omega) (fun q => ⟨Or.inr rfl, h1 q⟩) (fun q => ⟨Or.inl rfl, h0 (fun z => z q)⟩)
  · rw [decide_eq_false h00, if_neg h00, if_neg h00] at h1 h0
    obtain ⟨a1, a2, a3, a4⟩ := va_in hV hL hp hx (by omega) ho ha
    have hne : ¬ nI o = 0 := by show ¬ nI o = nI 0; rw [nI_eqE (by omega) (by omega)]; exact h00
    refine yes hne ?_
    refine c_eV hZ hV hp (by omega) a1 a2 a3 ⟨g, hZ.2.1, hZ.1.1, ?_⟩
    refine c_isDw hZ hV hs ha ?_
    cases hd : Γ.1.2.2.2.1 (oSy Γ p o) a
    · rw [hd, if_pos rfl, if_pos rfl] at h1 h0
      refine yes rfl ?_
      refine c_lN hZ hV hL hp hx hx32 ?_
      rw [nI_1, Nat.add_assoc]
      exact c_fre hZ hD hV hL hp (by omega) (by omega) (lnI_le (by omega) (by omega)) hs (by omega) (fun q => ⟨Or.inr rfl, h1 q⟩) (fun q => ⟨Or.inl rfl, h0 (fun z => z q)⟩)
    · rw [hd, if_neg (by decide), if_neg (by decide)] at h1 h0
      obtain ⟨s1, s2⟩ := sl_ev hV hL hp hx ho ha (by rw [hd, decide_eq_false h00]; decide)
      refine no (by decide) ?_
      refine c_eR hZ hV hp hx32 s1 ?_
      rw [nI_1, Nat.add_assoc]
      exact c_fre hZ hD hV hL hp (by omega) (by omega) (nI_hi (by omega) (by omega)) hs (by omega) (fun q => ⟨Or.inr rfl, h1 q⟩) (fun q => ⟨Or.inl rfl, h0 (fun z => z q)⟩)
end CS
