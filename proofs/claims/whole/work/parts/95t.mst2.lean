/-! ===== stores, the model's: whether an attribute is kept short, alone ===== -/
section MT
variable {σ : ab_S} {p : Nat} {Γ : GRT} {E : String → ab_S → Prop}
theorem dfE_dF (hV : GRV Γ) (hL : LVF Γ) (hp : p < Γ.2.1) {Y : Nat → Bool} (hYd : ∀ s v t a, s < 13 → v < 6 → t < Γ.1.1 → a < 8 → (Y (104 * (6 * s + v) + (8 * t + a)) = true ↔ dF Γ s v t a)) {i t a : Nat} (hi : i < plN Γ p) (ht : t < Γ.1.1) (ha : a < 8) : dfE Γ (XY Γ Y) p i t a ↔ dfE Γ (dF Γ) p i t a := by
  have h12 := hV.1.1
  have hpv := (hV.2.2.2 p hp).2.1
  unfold dfE
  rcases en_cs hV hL hp hi with ⟨z, x, x1, x2, x3, x4, x5, x6⟩ | ⟨w0, w1, w2, w3, w4, w5, w6⟩
  · obtain ⟨b1, b2, b3, b4, b5⟩ := enc_b x1
    rw [x4]
    constructor
    · rintro (q | ⟨q, _⟩)
      · exact Or.inl q
      · omega
    · rintro (q | ⟨q, _⟩)
      · exact Or.inl q
      · omega
  · have hsy : oSy Γ p (gE (plP Γ p) i).1 < Γ.1.1 := hpv.2.1 _ w4
    have hd := hYd (oSy Γ p (gE (plP Γ p) i).1) (gE (plP Γ p) i).2.2 t a (by omega) (by omega) ht ha
    constructor
    · rintro (q | ⟨q, r⟩)
      · exact Or.inl q
      · exact Or.inr ⟨q, hd.mp r.2⟩
    · rintro (q | ⟨q, r⟩)
      · exact Or.inl q
      · exact Or.inr ⟨q, ⟨ht, ha⟩, hd.mpr r⟩
theorem m_anT (hX : MXg σ Γ) (hV : GRV Γ) (hL : LVF Γ) (hp : p < Γ.2.1) (hP : MPf σ Γ p) (hD : MDf σ Γ) {lo hi t a : Nat} (hlo : lo ≤ 48) (hhi : hi ≤ plN Γ p) {T : Int32} (hT : ∀ j, j ≤ 48 → ((T ≤ nI (plB Γ p + j)) ↔ hi ≤ j)) (ht : t < Γ.1.1) (ha : a < 8) {Q : Int32 → ab_S → Prop} (h1 : (∃ i, lo ≤ i ∧ i < hi ∧ dfE Γ (dF Γ) p i t a) → Q 1 σ) (h0 : ¬ (∃ i, lo ≤ i ∧ i < hi ∧ dfE Γ (dF Γ) p i t a) → Q 0 σ) : wX12_anyDefining (nI p) (nI (plB Γ p + lo)) T (nI t) (nI a) Q E σ := by
  have h30 := hV.2.1
  have hB := plB_le hL hV p (by omega)
  have hN := plN_le hL hV hp
  obtain ⟨Y, hY, hYd⟩ := hD
  refine ⟨hi - lo + 1, ?_⟩
  suffices H : ∀ f j (b : Bool), hi - j = f → (j = lo ∨ (j ≤ hi ∧ lo ≤ j)) → (b = true ↔ ∃ i, lo ≤ i ∧ i < j ∧ dfE Γ (dF Γ) p i t a) → wX12_anyDefining_l6 (nI p) (nI (plB Γ p + lo)) T (nI t) (nI a) Q E (f + 1) (if b then 1 else 0) (nI (plB Γ p + j)) σ from H _ lo false rfl (Or.inl rfl) ⟨fun z => absurd z Bool.false_ne_true, fun ⟨i, q1, q2, _⟩ => by omega⟩
  intro f
  induction f with
  | zero =>
    intro j b hf hj hb
    have q3 : hi ≤ j := by clear hb; omega
    have q4 : j ≤ 48 := by clear hb; omega
    show wX12_anyDefining_l6_b _ _ _ _ _ _ _ _ _ _ _
    unfold wX12_anyDefining_l6_b
    refine yes ((hT j q4).mpr q3) ⟨by cases b <;> simp, ?_⟩
    have hsame : (∃ i, lo ≤ i ∧ i < j ∧ dfE Γ (dF Γ) p i t a) ↔ ∃ i, lo ≤ i ∧ i < hi ∧ dfE Γ (dF Γ) p i t a := by
      constructor
      · rintro ⟨i, q1, q2, q3⟩; exact ⟨i, q1, by omega, q3⟩
      · rintro ⟨i, q1, q2, q3⟩; exact ⟨i, q1, by omega, q3⟩
    cases b
    · exact h0 (fun z => absurd (hb.mpr (hsame.mpr z)) Bool.false_ne_true)
    · exact h1 (hsame.mp (hb.mp rfl))
  | succ f ih =>
    intro j b hf hj hb
    have hjn : j < plN Γ p := by clear hb; omega
    have hjh : ¬ hi ≤ j := by clear hb; omega
    have hj48 : j ≤ 48 := by clear hb; omega
    have q1 : hi - (j + 1) = f := by clear hb; omega
    have q2 : j + 1 = lo ∨ (j + 1 ≤ hi ∧ lo ≤ j + 1) := by clear hb; omega
    show wX12_anyDefining_l6_b (nI p) (nI (plB Γ p + lo)) T (nI t) (nI a) Q E (wX12_anyDefining_l6 (nI p) (nI (plB Γ p + lo)) T (nI t) (nI a) Q E (f + 1)) _ (nI (plB Γ p + j)) σ
    unfold wX12_anyDefining_l6_b
    refine no (fun z => hjh ((hT j hj48).mp z)) ?_
    have go : ∀ c : Bool, (c = true ↔ ∃ i, lo ≤ i ∧ i < j + 1 ∧ dfE Γ (dF Γ) p i t a) → wX12_anyDefining_j36 (nI p) (nI (plB Γ p + lo)) T (nI t) (nI a) Q E (wX12_anyDefining_l6 (nI p) (nI (plB Γ p + lo)) T (nI t) (nI a) Q E (f + 1)) (nI (plB Γ p + j)) (if c then 1 else 0) σ := by
      intro c hc
      unfold wX12_anyDefining_j36
      rw [nI_1, Nat.add_assoc]
      exact fe (ih (j + 1) c q1 q2 hc)
    have hXd := dfE_dF hV hL hp hYd hjn ht ha
    cases b
    · refine no (fun z => z rfl) ?_
      refine m_isDg hX hV hL hp hP hY hjn ht ha (fun hd => no (by decide) ?_) (fun hd => yes rfl ?_)
      · unfold wX12_anyDefining_j31
        exact go true ⟨fun _ => ⟨j, by omega, by omega, hXd.mp hd⟩, fun _ => rfl⟩
      · refine go false ⟨fun z => absurd z Bool.false_ne_true, fun ⟨i, q1, q2, q3⟩ => ?_⟩
        by_cases e : i = j
        · rw [e] at q3; exact absurd (hXd.mpr q3) hd
        · exact hb.mpr ⟨i, q1, by omega, q3⟩
    · refine yes (by decide) ?_
      unfold wX12_anyDefining_j31
      obtain ⟨i, q1, q2, q3⟩ := hb.mp rfl
      exact go true ⟨fun _ => ⟨i, q1, by omega, q3⟩, fun _ => rfl⟩
theorem m_one (hX : MXg σ Γ) (hV : GRV Γ) {s a : Nat} (hs : s < Γ.1.1) (ha : a < Γ.1.2.2.1 s) : (((σ.2.1 100 (nI s).toNatClampNeg) >>> (nI a &&& 31)) &&& (1 : Int32)) = 1 ↔ Γ.1.2.2.2.1 s a = true := by
  have h12 := hV.1.1
  have c8 := (hV.1.2.2 s hs).2.1
  have hone := b_one (bm (Γ.1.2.2.2.1 s) (Γ.1.2.2.1 s)) (a := a) (by omega)
  rw [bm_bt (by omega) (by omega), decide_eq_true ha, Bool.true_and] at hone
  rw [nI_clampE (show s < 2147483648 by omega), (hX.1.1.2 s hs).2.2.1]
  exact hone
theorem m_shA (hX : MXg σ Γ) (hV : GRV Γ) (hL : LVF Γ) (hp : p < Γ.2.1) (hP : MPf σ Γ p) (hx : crc (xR Γ p) = false) {o a : Nat} (ho : o ≤ (Γ.2.2.1 p).2.1) (ha : a < Γ.1.2.2.1 (oSy Γ p o)) {Q : Int32 → ab_S → Prop} (h1 : shA Γ p o a → Q 1 σ) (h0 : ¬ shA Γ p o a → Q 0 σ) : wX12_isShortAt (nI p) (nI o) (nI (oSy Γ p o)) (nI a) Q E σ := by
  have h30 := hV.2.1
  have h12 := hV.1.1
  have hpv := (hV.2.2.2 p hp).2.1
  have h3 := hpv.1
  have hs : oSy Γ p o < Γ.1.1 := hpv.2.1 o ho
  have c8 := (hV.1.2.2 _ hs).2.1
  have hv := hL.vof _ hs a ha
  have hvis := hL.vis _ hs
  have hhd : hdS Γ p < Γ.1.1 := hpv.2.1 0 (Nat.zero_le _)
  have hJ : ∀ i, i < plN Γ p → (gE (plP Γ p) i).2.1 ≤ 5 := fun i hi => (plJ_A (Γ := Γ) (p := p) _ (hL.vis _ hhd).2 i hi).2
  have hx32 : 8 * o + a < 32 := by omega
  have hone := m_one hX hV hs ha
  unfold shA dueV at h1 h0
  -- the rest, the attribute's way known
  have rest : wX12_isShortAt_j20 (nI p) (nI o) (nI (oSy Γ p o)) (nI a) Q E (if Γ.1.2.2.2.1 (oSy Γ p o) a then 1 else 0) σ := by
    unfold wX12_isShortAt_j20
    refine m_vOf hX hV hL hs ha ?_
    by_cases h00 : o = 0
    · rw [decide_eq_true h00, if_pos h00] at h1 h0
      refine no (fun q => q (by rw [h00]; rfl)) ?_
      cases hd : Γ.1.2.2.2.1 (oSy Γ p o) a
      · rw [hd, if_neg (by decide)] at h1 h0
        obtain ⟨s1, s2⟩ := sl_ev hV hL hp hx ho ha (by rw [hd, decide_eq_true h00]; decide)
        have hj := hJ _ s2
        have e32 : (32 : Int32) * nI p + nI a = nI (32 * p + (8 * o + a)) := by show nI 32 * nI p + _ = _; rw [nI_mulE, nI_add]; congr 1; omega
        rw [e32, nI_clampE (show 32 * p + (8 * o + a) < 2147483648 by omega), hP.2.2.1 _ hx32, s1]
        refine yes rfl ⟨by simp (disch := omega) only [nI_lit, nI_add, nI_mulE, nI_clampE, nI_eqE, nI_leE, nI_ltE, vp_nIE, true_and, and_true]; omega, ?_⟩
        by_cases e : (gE (plP Γ p) ((plP Γ p).ea (8 * o + a))).2.1 = vOf Γ (oSy Γ p o) a
        · exact no (fun q => q (by show nI (gE (plP Γ p) ((plP Γ p).ea (8 * o + a))).2.1 = _; rw [e])) (h1 e)
        · exact yes (by show ¬ nI (gE (plP Γ p) ((plP Γ p).ea (8 * o + a))).2.1 = _; rw [nI_eqE (by omega) (by omega)]; exact e) (h0 e)
      · rw [hd, if_pos rfl] at h1 h0
        refine no (by decide) ?_
        have := m_nOI (E := E) (Q := fun u7 σ6 => (u7 = 0 ∨ u7 = 1) ∧ Q u7 σ6) hX hV hL hp hP hx (o := o) (a := a) hx32 (v := vOf Γ (oSy Γ p o) a) (by omega) (fun q => ⟨Or.inr rfl, h1 q⟩) (fun q => ⟨Or.inl rfl, h0 q⟩)
        rw [show nI o = 0 by rw [h00]; rfl] at this
        exact this
    · rw [decide_eq_false h00, if_neg h00] at h1 h0
      obtain ⟨a1, a2, a3, a4⟩ := va_in hV hL hp hx (by omega) ho ha
      have hj := hJ _ a4
      have hne : ¬ nI o = 0 := by show ¬ nI o = nI 0; rw [nI_eqE (by omega) (by omega)]; exact h00
      have e24 : (24 : Int32) * nI p + 6 * nI o + nI (vOf Γ (oSy Γ p o) a) = nI (24 * p + 6 * o + vOf Γ (oSy Γ p o) a) := by
        show nI 24 * nI p + nI 6 * nI o + _ = _
        rw [nI_mulE, nI_mulE, nI_add, nI_add]
      have w : σ.2.1 118 (24 * p + 6 * o + vOf Γ (oSy Γ p o) a) = nI (gE (plP Γ p) ((plP Γ p).va o (vOf Γ (oSy Γ p o) a))).2.1 := by
        rw [hP.2.2.2.2.1 o _ (by omega) (by omega), if_pos ⟨a1, a2⟩]
      rw [e24, nI_clampE (show 24 * p + 6 * o + vOf Γ (oSy Γ p o) a < 2147483648 by omega), w]
      refine yes hne ⟨by simp (disch := omega) only [nI_lit, nI_add, nI_mulE, nI_clampE, nI_eqE, nI_leE, nI_ltE, vp_nIE, true_and, and_true]; omega, fe ?_⟩
      cases hd : Γ.1.2.2.2.1 (oSy Γ p o) a
      · rw [hd, if_pos rfl] at h1 h0
        refine yes rfl ?_
        exact m_nOI hX hV hL hp hP hx hx32 (by omega) (fun q => ⟨Or.inr rfl, h1 q⟩) (fun q => ⟨Or.inl rfl, h0 q⟩)
      · rw [hd, if_neg (by decide)] at h1 h0
        obtain ⟨s1, s2⟩ := sl_ev hV hL hp hx ho ha (by rw [hd, decide_eq_false h00]; decide)
        have hj2 := hJ _ s2
        have e32 : (32 : Int32) * nI p + 8 * nI o + nI a = nI (32 * p + (8 * o + a)) := by
          show nI 32 * nI p + nI 8 * nI o + _ = _
          rw [nI_mulE, nI_mulE, nI_add, nI_add]; congr 1; omega
        rw [e32, nI_clampE (show 32 * p + (8 * o + a) < 2147483648 by omega), hP.2.2.1 _ hx32, s1]
        refine no (by decide) ⟨by simp (disch := omega) only [nI_lit, nI_add, nI_mulE, nI_clampE, nI_eqE, nI_leE, nI_ltE, vp_nIE, true_and, and_true]; omega, ?_⟩
        by_cases e : (gE (plP Γ p) ((plP Γ p).ea (8 * o + a))).2.1 = (gE (plP Γ p) ((plP Γ p).va o (vOf Γ (oSy Γ p o) a))).2.1
        · exact no (fun q => q (by show nI (gE (plP Γ p) ((plP Γ p).ea (8 * o + a))).2.1 = _; rw [e])) (h1 e)
        · exact yes (by show ¬ nI (gE (plP Γ p) ((plP Γ p).ea (8 * o + a))).2.1 = _; rw [nI_eqE (by omega) (by omega)]; exact e) (h0 e)
  unfold wX12_isShortAt
  refine ⟨by simp (disch := omega) only [nI_lit, nI_add, nI_mulE, nI_clampE, nI_eqE, nI_leE, nI_ltE, vp_nIE, true_and, and_true]; omega, ?_⟩
  cases hd : Γ.1.2.2.2.1 (oSy Γ p o) a
  · rw [hd] at rest hone
    exact yes (fun q => absurd (hone.mp q) Bool.false_ne_true) rest
  · rw [hd] at rest hone
    exact no (fun q => q (hone.mpr rfl)) rest
theorem m_alA (hX : MXg σ Γ) (hV : GRV Γ) (hL : LVF Γ) (hp : p < Γ.2.1) (hP : MPf σ Γ p) (hD : MDf σ Γ) (hx : crc (xR Γ p) = false) {o a : Nat} (ho : o ≤ (Γ.2.2.1 p).2.1) (ha : a < Γ.1.2.2.1 (oSy Γ p o)) {Q : Int32 → ab_S → Prop} (h1 : alA Γ p o a → Q 1 σ) (h0 : ¬ alA Γ p o a → Q 0 σ) : wX12_isAloneAt (nI p) (nI o) (nI (oSy Γ p o)) (nI a) Q E σ := by
  have h30 := hV.2.1
  have h12 := hV.1.1
  have hpv := (hV.2.2.2 p hp).2.1
  have h3 := hpv.1
  have hB := plB_le hL hV p (by omega)
  have hN := plN_le hL hV hp
  have hs : oSy Γ p o < Γ.1.1 := hpv.2.1 o ho
  have c8 := (hV.1.2.2 _ hs).2.1
  have hv := hL.vof _ hs a ha
  have hvis := hL.vis _ hs
  have hx32 : 8 * o + a < 32 := by omega
  have hln := lNm_le hV hL hp hx (y := 8 * o + a) 32
  have hone := m_one hX hV hs ha
  unfold alA alLo alHi at h1 h0
  have e32 : (32 : Int32) * nI p + 8 * nI o + nI a = nI (32 * p + (8 * o + a)) := by
    show nI 32 * nI p + nI 8 * nI o + _ = _
    rw [nI_mulE, nI_mulE, nI_add, nI_add]; congr 1; omega
  have rest : wX12_isAloneAt_j20 (nI p) (nI o) (nI (oSy Γ p o)) (nI a) Q E (if Γ.1.2.2.2.1 (oSy Γ p o) a then 1 else 0) σ := by
    unfold wX12_isAloneAt_j20
    refine m_vOf hX hV hL hs ha ?_
    rw [e32, nI_clampE (show 32 * p + (8 * o + a) < 2147483648 by omega)]
    refine ⟨by simp (disch := omega) only [nI_lit, nI_add, nI_mulE, nI_clampE, nI_eqE, nI_leE, nI_ltE, vp_nIE, true_and, and_true]; omega, fe ?_⟩
    by_cases h00 : o = 0
    · have hs0 : oSy Γ p o = hdS Γ p := by rw [h00]; rfl
      have hvs : vOf Γ (oSy Γ p o) a ≤ svs Γ (hdS Γ p) := by rw [← hs0]; exact hv.2.1
      have e6 : (6 : Int32) * nI p + nI (vOf Γ (oSy Γ p o) a) = nI (6 * p + vOf Γ (oSy Γ p o) a) := by
        show nI 6 * nI p + _ = _
        rw [nI_mulE, nI_add]
      rw [decide_eq_true h00, if_pos h00, if_pos h00] at h1 h0
      refine no (fun q => q (by rw [h00]; rfl)) ?_
      rw [e6, nI_clampE (show 6 * p + vOf Γ (oSy Γ p o) a < 2147483648 by omega), (hP.1 _ hv.1 hvs).1, (hP.1 _ hv.1 hvs).2]
      cases hd : Γ.1.2.2.2.1 (oSy Γ p o) a
      · rw [hd, if_neg (by decide), if_neg (by decide)] at h1 h0
        obtain ⟨s1, s2⟩ := sl_ev hV hL hp hx ho ha (by rw [hd, decide_eq_true h00]; decide)
        have hle := plF_le (Γ := Γ) (p := p) (u := vOf Γ (oSy Γ p o) a) hvs
        rw [hP.2.2.2.1 _ hx32 s1, nI_1, Nat.add_assoc]
        refine yes rfl ⟨by simp (disch := omega) only [nI_lit, nI_add, nI_mulE, nI_clampE, nI_eqE, nI_leE, nI_ltE, vp_nIE, true_and, and_true]; omega, ?_⟩
        exact m_anT hX hV hL hp hP hD (by omega) hle (nI_hi (by omega) (by omega)) hs (by omega) (fun q => yes (by decide) (h0 (fun z => z q))) (fun q => no (fun z => z rfl) (h1 q))
      · rw [hd, if_pos rfl, if_pos rfl] at h1 h0
        have hle : plF Γ p (vOf Γ (oSy Γ p o) a) ≤ plN Γ p := by
          have := plF_le (Γ := Γ) (p := p) (u := vOf Γ (oSy Γ p o) a - 1) (by omega)
          rw [show vOf Γ (oSy Γ p o) a - 1 + 1 = vOf Γ (oSy Γ p o) a by omega] at this
          exact this
        refine no (by decide) ⟨by simp (disch := omega) only [nI_lit, nI_add, nI_mulE, nI_clampE, nI_eqE, nI_leE, nI_ltE, vp_nIE, true_and, and_true]; omega, ?_⟩
        have := m_lN (E := E) (Q := fun u14 σ13 => wX12_anyDefining (nI p) (nI (plB Γ p + plF Γ p (vOf Γ (oSy Γ p o) a))) u14 (nI (oSy Γ p o)) (nI a) (fun u16 σ15 => ((¬ u16 = 0) → Q (0 : Int32) σ15) ∧ (¬ (¬ u16 = 0) → Q (1 : Int32) σ15)) E σ13) hX hV hL hp hP hx (o := o) (a := a) hx32
          (m_anT hX hV hL hp hP hD (by omega) (by omega) (lnI_le (by omega) (by omega)) hs (by omega) (fun q => yes (by decide) (h0 (fun z => z q))) (fun q => no (fun z => z rfl) (h1 q)))
        rw [show nI o = 0 by rw [h00]; rfl] at this
        exact this
    · rw [decide_eq_false h00, if_neg h00, if_neg h00] at h1 h0
      obtain ⟨a1, a2, a3, a4⟩ := va_in hV hL hp hx (by omega) ho ha
      have hne : ¬ nI o = 0 := by show ¬ nI o = nI 0; rw [nI_eqE (by omega) (by omega)]; exact h00
      have e24 : (24 : Int32) * nI p + 6 * nI o + nI (vOf Γ (oSy Γ p o) a) = nI (24 * p + 6 * o + vOf Γ (oSy Γ p o) a) := by
        show nI 24 * nI p + nI 6 * nI o + _ = _
        rw [nI_mulE, nI_mulE, nI_add, nI_add]
      rw [e24, nI_clampE (show 24 * p + 6 * o + vOf Γ (oSy Γ p o) a < 2147483648 by omega), hP.2.2.2.2.2 o _ (by omega) a1 a2]
      refine yes hne ⟨by simp (disch := omega) only [nI_lit, nI_add, nI_mulE, nI_clampE, nI_eqE, nI_leE, nI_ltE, vp_nIE, true_and, and_true]; omega, fe ?_⟩
      cases hd : Γ.1.2.2.2.1 (oSy Γ p o) a
      · rw [hd, if_pos rfl, if_pos rfl] at h1 h0
        rw [nI_1, Nat.add_assoc]
        refine yes rfl ?_
        refine m_lN hX hV hL hp hP hx hx32 ?_
        exact m_anT hX hV hL hp hP hD (by omega) (by omega) (lnI_le (by omega) (by omega)) hs (by omega) (fun q => yes (by decide) (h0 (fun z => z q))) (fun q => no (fun z => z rfl) (h1 q))
      · rw [hd, if_neg (by decide), if_neg (by decide)] at h1 h0
        obtain ⟨s1, s2⟩ := sl_ev hV hL hp hx ho ha (by rw [hd, decide_eq_false h00]; decide)
        rw [hP.2.2.2.1 _ hx32 s1]
        refine no (by decide) ?_
        rw [nI_1, Nat.add_assoc]
        exact m_anT hX hV hL hp hP hD (by omega) (by omega) (nI_hi (by omega) (by omega)) hs (by omega) (fun q => yes (by decide) (h0 (fun z => z q))) (fun q => no (fun z => z rfl) (h1 q))
  unfold wX12_isAloneAt
  refine ⟨by simp (disch := omega) only [nI_lit, nI_add, nI_mulE, nI_clampE, nI_eqE, nI_leE, nI_ltE, vp_nIE, true_and, and_true]; omega, ?_⟩
  cases hd : Γ.1.2.2.2.1 (oSy Γ p o) a
  · rw [hd] at rest hone
    exact yes (fun q => absurd (hone.mp q) Bool.false_ne_true) rest
  · rw [hd] at rest hone
    exact no (fun q => q (hone.mpr rfl)) rest
end MT
