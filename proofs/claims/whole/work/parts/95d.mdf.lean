/-! ===== what visits define, the model's: an entry, some ===== -/
theorem i_div10 : ∀ k, k < 60 → nI k / 10 = nI (k / 10) := by decide +kernel
theorem i_mod10 : ∀ k, k < 60 → nI k - nI k / 10 * 10 = nI (k % 10) := by decide +kernel
theorem enc_b {x : Nat} (h : x < 32) : 10 ≤ enc x ∧ enc x < 60 ∧ enc x / 10 - 1 = x / 8 ∧ enc x / 10 = x / 8 + 1 ∧ enc x % 10 = x % 8 := by unfold enc; omega
def XY (Γ : GRT) (Y : Nat → Bool) (s v t a : Nat) : Prop := (t < Γ.1.1 ∧ a < 8) ∧ Y (104 * (6 * s + v) + (8 * t + a)) = true
def YM (σ : ab_S) (Y : Nat → Bool) : Prop := ∀ j, j < 8112 → σ.2.1 122 j = if Y j then 1 else 0
section MD
variable {σ : ab_S} {p i t a : Nat} {Γ : GRT} {Y : Nat → Bool} {E : String → ab_S → Prop}
theorem m_isDg (hX : MXg σ Γ) (hV : GRV Γ) (hL : LVF Γ) (hp : p < Γ.2.1) (hP : MPf σ Γ p) (hY : YM σ Y) (hi : i < plN Γ p) (ht : t < Γ.1.1) (ha : a < 8) {Q : Int32 → ab_S → Prop} (h1 : dfE Γ (XY Γ Y) p i t a → Q 1 σ) (h0 : ¬ dfE Γ (XY Γ Y) p i t a → Q 0 σ) : wX12_isDefining (nI p) (nI (plB Γ p + i)) (nI t) (nI a) Q E σ := by
  have h30 := hV.2.1
  have h12 := hV.1.1
  have hpv := (hV.2.2.2 p hp).2.1
  have h3 := hpv.1
  have hB := plB_le hL hV p (by omega)
  have hN := plN_le hL hV hp
  have hen : σ.2.1 113 (plB Γ p + i) = nI (gE (plP Γ p) i).1 := hP.2.1 i hi
  have ev : vp_in (nI (plB Γ p + i)) 1600 := by simp (disch := omega) only [nI_lit, nI_add, nI_mulE, nI_clampE, nI_eqE, nI_leE, nI_ltE, vp_nIE, true_and, and_true]; omega
  unfold wX12_isDefining
  rw [nI_clampE (show plB Γ p + i < 2147483648 by omega), hen]
  rcases en_cs hV hL hp hi with ⟨z, x, x1, x2, x3, x4, x5, x6⟩ | ⟨w0, w1, w2, w3, w4, w5, w6⟩
  · obtain ⟨b1, b2, b3, b4, b5⟩ := enc_b x1
    have hoc := (hX.1.2.2.2 p hp).2.2.1 (x / 8) (by omega)
    have hs : oSy Γ p (x / 8) < Γ.1.1 := hpv.2.1 _ x5
    have hdf : dfE Γ (XY Γ Y) p i t a ↔ oSy Γ p (x / 8) = t ∧ x % 8 = a := by
      unfold dfE
      rw [x4, b3, b5]
      constructor
      · rintro (⟨_, q, r⟩ | ⟨q, _⟩)
        · exact ⟨q, r⟩
        · omega
      · rintro ⟨q, r⟩; exact Or.inl ⟨b1, q, r⟩
    rw [x4, i_mod10 _ b2, i_div10 _ b2, b4, b5]
    have e4 : (4 : Int32) * nI p + nI (x / 8 + 1) - 1 = nI (4 * p + x / 8) := by
      show nI 4 * nI p + _ - nI 1 = _
      rw [nI_mulE, nI_add, nI_subE (by omega)]; congr 1
    rw [e4, nI_clampE (show 4 * p + x / 8 < 2147483648 by omega), hoc]
    refine ⟨ev, no (by simp (disch := omega) only [nI_lit, nI_add, nI_mulE, nI_clampE, nI_eqE, nI_leE, nI_ltE, vp_nIE, true_and, and_true]; omega) ⟨ev, by simp (disch := omega) only [nI_lit, nI_add, nI_mulE, nI_clampE, nI_eqE, nI_leE, nI_ltE, vp_nIE, true_and, and_true]; omega, ?_⟩⟩
    have hs2 : (Γ.2.2.1 p).2.2.1 (x / 8) < Γ.1.1 := hs
    by_cases e : oSy Γ p (x / 8) = t
    · refine no (fun q => q (by rw [← e]; rfl)) ⟨ev, ?_⟩
      by_cases e2 : x % 8 = a
      · exact no (fun q => q (by rw [e2])) (h1 (hdf.mpr ⟨e, e2⟩))
      · exact yes (by rw [nI_eqE (by omega) (by omega)]; exact e2) (h0 (fun q => e2 (hdf.mp q).2))
    · exact yes (by rw [nI_eqE (by omega) (by omega)]; exact e) (h0 (fun q => e (hdf.mp q).1))
  · have hoc := (hX.1.2.2.2 p hp).2.2.1 (gE (plP Γ p) i).1 (by omega)
    have hs : oSy Γ p (gE (plP Γ p) i).1 < Γ.1.1 := hpv.2.1 _ w4
    have hs2 : (Γ.2.2.1 p).2.2.1 (gE (plP Γ p) i).1 < Γ.1.1 := hs
    have hdf : dfE Γ (XY Γ Y) p i t a ↔ Y (104 * (6 * (Γ.2.2.1 p).2.2.1 (gE (plP Γ p) i).1 + (gE (plP Γ p) i).2.2) + (8 * t + a)) = true := by
      unfold dfE
      constructor
      · rintro (⟨q, _⟩ | ⟨_, q⟩)
        · omega
        · exact q.2
      · intro q; exact Or.inr ⟨by omega, ⟨ht, ha⟩, q⟩
    have e4 : (4 : Int32) * nI p + nI (gE (plP Γ p) i).1 = nI (4 * p + (gE (plP Γ p) i).1) := by show nI 4 * nI p + _ = _; rw [nI_mulE, nI_add]
    rw [e4, nI_clampE (show 4 * p + (gE (plP Γ p) i).1 < 2147483648 by omega), hoc]
    refine ⟨ev, yes (by simp (disch := omega) only [nI_lit, nI_add, nI_mulE, nI_clampE, nI_eqE, nI_leE, nI_ltE, vp_nIE, true_and, and_true]; omega) ⟨ev, by simp (disch := omega) only [nI_lit, nI_add, nI_mulE, nI_clampE, nI_eqE, nI_leE, nI_ltE, vp_nIE, true_and, and_true]; omega, ?_⟩⟩
    refine m_callOf hV hL hp hP hi w0 ?_
    have e104 : (104 : Int32) * (6 * nI ((Γ.2.2.1 p).2.2.1 (gE (plP Γ p) i).1) + nI (gE (plP Γ p) i).2.2) + 8 * nI t + nI a = nI (104 * (6 * (Γ.2.2.1 p).2.2.1 (gE (plP Γ p) i).1 + (gE (plP Γ p) i).2.2) + (8 * t + a)) := by
      show nI 104 * (nI 6 * _ + _) + nI 8 * nI t + _ = _
      rw [nI_mulE, nI_add, nI_mulE, nI_mulE, nI_add, nI_add, Nat.add_assoc]
    rw [e104, nI_clampE (by omega), hY _ (by omega)]
    refine ⟨by simp (disch := omega) only [nI_lit, nI_add, nI_mulE, nI_clampE, nI_eqE, nI_leE, nI_ltE, vp_nIE, true_and, and_true]; omega, ?_, ?_⟩
    · cases Y (104 * (6 * (Γ.2.2.1 p).2.2.1 (gE (plP Γ p) i).1 + (gE (plP Γ p) i).2.2) + (8 * t + a)) <;> simp
    · cases hh : Y (104 * (6 * (Γ.2.2.1 p).2.2.1 (gE (plP Γ p) i).1 + (gE (plP Γ p) i).2.2) + (8 * t + a))
      · exact h0 (fun q => by have := hdf.mp q; rw [hh] at this; exact absurd this (by decide))
      · exact h1 (hdf.mpr hh)
theorem m_any (hX : MXg σ Γ) (hV : GRV Γ) (hL : LVF Γ) (hp : p < Γ.2.1) (hP : MPf σ Γ p) (hY : YM σ Y) {lo hi : Nat} (hlo : lo ≤ 47) (hhi : hi ≤ plN Γ p) (ht : t < Γ.1.1) (ha : a < 8) {Q : Int32 → ab_S → Prop} (h1 : (∃ i, lo ≤ i ∧ i < hi ∧ dfE Γ (XY Γ Y) p i t a) → Q 1 σ) (h0 : ¬ (∃ i, lo ≤ i ∧ i < hi ∧ dfE Γ (XY Γ Y) p i t a) → Q 0 σ) : wX12_anyDefining (nI p) (nI (plB Γ p + lo)) (nI (plB Γ p + hi)) (nI t) (nI a) Q E σ := by
  have h30 := hV.2.1
  have hB := plB_le hL hV p (by omega)
  have hN := plN_le hL hV hp
  refine ⟨hi - lo + 1, ?_⟩
  suffices H : ∀ f j (b : Bool), hi - j = f → (j = lo ∨ (j ≤ hi ∧ lo ≤ j)) → (b = true ↔ ∃ i, lo ≤ i ∧ i < j ∧ dfE Γ (XY Γ Y) p i t a) → wX12_anyDefining_l6 (nI p) (nI (plB Γ p + lo)) (nI (plB Γ p + hi)) (nI t) (nI a) Q E (f + 1) (if b then 1 else 0) (nI (plB Γ p + j)) σ from H _ lo false rfl (Or.inl rfl) ⟨fun z => absurd z Bool.false_ne_true, fun ⟨i, q1, q2, _⟩ => by omega⟩
  intro f
  induction f with
  | zero =>
    intro j b hf hj hb
    show wX12_anyDefining_l6_b _ _ _ _ _ _ _ _ _ _ _
    unfold wX12_anyDefining_l6_b
    refine yes (by simp (disch := omega) only [nI_lit, nI_add, nI_mulE, nI_clampE, nI_eqE, nI_leE, nI_ltE, vp_nIE, true_and, and_true]; omega) ⟨by cases b <;> simp, ?_⟩
    have hsame : (∃ i, lo ≤ i ∧ i < j ∧ dfE Γ (XY Γ Y) p i t a) ↔ ∃ i, lo ≤ i ∧ i < hi ∧ dfE Γ (XY Γ Y) p i t a := by
      constructor
      · rintro ⟨i, q1, q2, q3⟩; exact ⟨i, q1, by omega, q3⟩
      · rintro ⟨i, q1, q2, q3⟩; exact ⟨i, q1, by omega, q3⟩
    cases b
    · exact h0 (fun z => absurd (hb.mpr (hsame.mpr z)) Bool.false_ne_true)
    · exact h1 (hsame.mp (hb.mp rfl))
  | succ f ih =>
    intro j b hf hj hb
    have hjn : j < plN Γ p := by omega
    have q1 : hi - (j + 1) = f := by clear hb; omega
    have q2 : j + 1 = lo ∨ (j + 1 ≤ hi ∧ lo ≤ j + 1) := by clear hb; omega
    show wX12_anyDefining_l6_b (nI p) (nI (plB Γ p + lo)) (nI (plB Γ p + hi)) (nI t) (nI a) Q E (wX12_anyDefining_l6 (nI p) (nI (plB Γ p + lo)) (nI (plB Γ p + hi)) (nI t) (nI a) Q E (f + 1)) _ (nI (plB Γ p + j)) σ
    unfold wX12_anyDefining_l6_b
    refine no (by simp (disch := omega) only [nI_lit, nI_add, nI_mulE, nI_clampE, nI_eqE, nI_leE, nI_ltE, vp_nIE, true_and, and_true]; omega) ?_
    have go : ∀ c : Bool, (c = true ↔ ∃ i, lo ≤ i ∧ i < j + 1 ∧ dfE Γ (XY Γ Y) p i t a) → wX12_anyDefining_j36 (nI p) (nI (plB Γ p + lo)) (nI (plB Γ p + hi)) (nI t) (nI a) Q E (wX12_anyDefining_l6 (nI p) (nI (plB Γ p + lo)) (nI (plB Γ p + hi)) (nI t) (nI a) Q E (f + 1)) (nI (plB Γ p + j)) (if c then 1 else 0) σ := by
      intro c hc
      unfold wX12_anyDefining_j36
      rw [nI_1, Nat.add_assoc]
      exact fe (ih (j + 1) c q1 q2 hc)
    cases b
    · refine no (fun z => z rfl) ?_
      refine m_isDg hX hV hL hp hP hY hjn ht ha (fun hd => no (by decide) ?_) (fun hd => yes rfl ?_)
      · unfold wX12_anyDefining_j31
        exact go true ⟨fun _ => ⟨j, by omega, by omega, hd⟩, fun _ => rfl⟩
      · refine go false ⟨fun z => absurd z Bool.false_ne_true, fun ⟨i, q1, q2, q3⟩ => ?_⟩
        by_cases e : i = j
        · rw [e] at q3; exact absurd q3 hd
        · exact hb.mpr ⟨i, q1, by omega, q3⟩
    · refine yes (by decide) ?_
      unfold wX12_anyDefining_j31
      obtain ⟨i, q1, q2, q3⟩ := hb.mp rfl
      exact go true ⟨fun _ => ⟨i, q1, by omega, q3⟩, fun _ => rfl⟩
end MD
