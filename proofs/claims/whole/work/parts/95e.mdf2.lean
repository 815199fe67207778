/-! ===== what visits define, the model's ===== -/
theorem i_div8 : ∀ k, k < 104 → nI k / 8 = nI (k / 8) := by decide +kernel
theorem i_mod8 : ∀ k, k < 104 → nI k - nI k / 8 * 8 = nI (k % 8) := by decide +kernel
def dSo (Γ : GRT) (Y : Nat → Bool) : Prop := ∀ s v t a, s < 13 → v < 6 → t < 13 → a < 8 → Y (104 * (6 * s + v) + (8 * t + a)) = true → dF Γ s v t a
def dCl (Γ : GRT) (Y : Nat → Bool) (p v k : Nat) : Prop := (∃ i, plF Γ p v ≤ i ∧ i < plF Γ p (v + 1) ∧ dfE Γ (XY Γ Y) p i (k / 8) (k % 8)) → Y (104 * (6 * hdS Γ p + v) + k) = true
def S122 : Nat → Nat → Bool := fun a _ => decide (a = 122)
def MDs (σ : ab_S) (Γ : GRT) (Y0 : Nat → Bool) (τ : ab_S) (Y : Nat → Bool) (b : Bool) (D : Prop) : Prop := FM S122 σ τ ∧ YM τ Y ∧ dSo Γ Y ∧ (∀ j, Y0 j = true → Y j = true) ∧ (b = true → cnt Y0 8112 < cnt Y 8112) ∧ (b = false → Y = Y0 ∧ D)
theorem MPf.fm {S : Nat → Nat → Bool} {σ σ' : ab_S} {Γ : GRT} {p : Nat} (h : MPf σ Γ p) (f : FM S σ σ') (s : ∀ a i, 113 ≤ a → a ≤ 119 → S a i = false) : MPf σ' Γ p := by
  obtain ⟨a1, a2, a3, a4, a5, a6⟩ := h
  refine ⟨fun v v1 v2 => ?_, fun i hi => ?_, fun x hx => ?_, fun x hx hex => ?_, fun o w ho hw => ?_, fun o w ho w1 w2 => ?_⟩
  · rw [f.1 114 _ (s _ _ (by omega) (by omega)), f.1 115 _ (s _ _ (by omega) (by omega))]; exact a1 v v1 v2
  · rw [f.1 _ _ (s _ _ (by omega) (by omega))]; exact a2 i hi
  · rw [f.1 _ _ (s _ _ (by omega) (by omega))]; exact a3 x hx
  · rw [f.1 _ _ (s _ _ (by omega) (by omega))]; exact a4 x hx hex
  · rw [f.1 _ _ (s _ _ (by omega) (by omega))]; exact a5 o w ho hw
  · rw [f.1 _ _ (s _ _ (by omega) (by omega))]; exact a6 o w ho w1 w2
theorem MPf.s122 {σ σ' : ab_S} {Γ : GRT} {p : Nat} (h : MPf σ Γ p) (f : FM S122 σ σ') : MPf σ' Γ p := h.fm f (fun a i h1 h2 => decide_eq_false (by omega))
theorem MXg.s122 {σ σ' : ab_S} {Γ : GRT} (h : MXg σ Γ) (hV : GRV Γ) (f : FM S122 σ σ') : MXg σ' Γ := h.fm hV f ⟨decide_eq_false (by omega), decide_eq_false (by omega), decide_eq_false (by omega)⟩ (fun a i h1 h2 => decide_eq_false (by omega))
section MD
variable {σ : ab_S} {p v : Nat} {Γ : GRT} {Y0 : Nat → Bool} {E : String → ab_S → Prop}
theorem dfE_so (hV : GRV Γ) (hL : LVF Γ) (hp : p < Γ.2.1) {Y : Nat → Bool} (hS : dSo Γ Y) {i : Nat} (hi : i < plN Γ p) {t a : Nat} (h : dfE Γ (XY Γ Y) p i t a) : dF Γ (hdS Γ p) (gE (plP Γ p) i).2.1 t a := by
  have h12 := hV.1.1
  refine dF_c Γ p hp i hi t a ?_
  rcases h with h | ⟨h1, ⟨h2, h3⟩, h4⟩
  · exact Or.inl h
  · refine Or.inr ⟨h1, ?_⟩
    rcases en_cs hV hL hp hi with ⟨z, x, x1, x2, x3, x4, x5, x6⟩ | ⟨w0, w1, w2, w3, w4, w5, w6⟩
    · have := (enc_b x1).1; omega
    · have hs : oSy Γ p (gE (plP Γ p) i).1 < Γ.1.1 := (hV.2.2.2 p hp).2.1.2.1 _ w4
      exact hS _ _ _ _ (by omega) (by omega) (by omega) h3 h4
theorem m_d66 (hX : MXg σ Γ) (hV : GRV Γ) (hL : LVF Γ) (hP : ∀ p, p < Γ.2.1 → MPf σ Γ p) (hp : p < Γ.2.1) (h1 : 1 ≤ v) (hv : v ≤ svs Γ (hdS Γ p)) {D : Prop} {Q : ab_S → Prop} {K161 : Int32 → Int32 → Int32 → Int32 → ab_S → Prop} (h : ∀ τ Y (b : Bool), MDs σ Γ Y0 τ Y b (D ∧ ∀ k, k < 8 * Γ.1.1 → dCl Γ Y0 p v k) → K161 (if b then 1 else 0) (nI p) (nI (hdS Γ p)) (nI v) τ) : ∀ f k τ Y (b : Bool), 8 * Γ.1.1 - k = f → k ≤ 8 * Γ.1.1 → MDs σ Γ Y0 τ Y b (D ∧ ∀ k', k' < k → dCl Γ Y0 p v k') → wX12_findDefines_l66 Q E K161 (f + 1) (if b then 1 else 0) (nI p) (nI (hdS Γ p)) (nI v) (nI k) τ := by
  have h30 := hV.2.1
  have h12 := hV.1.1
  have hs : hdS Γ p < Γ.1.1 := (hV.2.2.2 p hp).2.1.2.1 0 (Nat.zero_le _)
  have hvis := (hL.vis _ hs).2
  have hB := plB_le hL hV p (by omega)
  have hN := plN_le hL hV hp
  have e8 : (8 : Int32) * nI Γ.1.1 = nI (8 * Γ.1.1) := by show nI 8 * _ = _; rw [nI_mulE]
  intro f
  induction f with
  | zero =>
    intro k τ Y b hf hk hM
    have e : k = 8 * Γ.1.1 := by omega
    subst e
    have X1 := hX.s122 hV hM.1
    show wX12_findDefines_l66_b _ _ _ _ _ _ _ _ _ _
    unfold wX12_findDefines_l66_b
    rw [X1.1.1.1, e8]
    exact yes (by simp (disch := omega) only [nI_lit, nI_add, nI_mulE, nI_clampE, nI_eqE, nI_leE, nI_ltE, vp_nIE, true_and, and_true]; omega) (h τ Y b hM)
  | succ f ih =>
    intro k τ Y b hf hk hM
    obtain ⟨m1, m2, m3, m4, m5, m6⟩ := hM
    have X1 := hX.s122 hV m1
    have P1 := (hP p hp).s122 m1
    have q1 : 8 * Γ.1.1 - (k + 1) = f := by omega
    have q2 : k + 1 ≤ 8 * Γ.1.1 := by omega
    have qi : 104 * (6 * hdS Γ p + v) + k < 8112 := by omega
    show wX12_findDefines_l66_b Q E K161 (wX12_findDefines_l66 Q E K161 (f + 1)) _ (nI p) (nI (hdS Γ p)) (nI v) (nI k) τ
    unfold wX12_findDefines_l66_b
    have e104 : (104 : Int32) * (6 * nI (hdS Γ p) + nI v) + nI k = nI (104 * (6 * hdS Γ p + v) + k) := by
      show nI 104 * (nI 6 * _ + _) + _ = _
      rw [nI_mulE, nI_add, nI_mulE, nI_add]
    have e6 : (6 : Int32) * nI p + nI v = nI (6 * p + v) := by show nI 6 * _ + _ = _; rw [nI_mulE, nI_add]
    rw [X1.1.1.1, e8, e104, e6, nI_clampE (show 6 * p + v < 2147483648 by omega), (P1.1 v h1 hv).1, (P1.1 v h1 hv).2, i_mod8 k (by omega), i_div8 k (by omega)]
    refine no (by simp (disch := omega) only [nI_lit, nI_add, nI_mulE, nI_clampE, nI_eqE, nI_leE, nI_ltE, vp_nIE, true_and, and_true]; omega) (fe ?_)
    rw [nI_clampE (show 104 * (6 * hdS Γ p + v) + k < 2147483648 by omega), m2 _ qi]
    have evi : vp_in (nI (104 * (6 * hdS Γ p + v) + k)) 8112 := by simp (disch := omega) only [nI_lit, nI_add, nI_mulE, nI_clampE, nI_eqE, nI_leE, nI_ltE, vp_nIE, true_and, and_true]; omega
    have ev6 : vp_in (nI (6 * p + v)) 187 := by simp (disch := omega) only [nI_lit, nI_add, nI_mulE, nI_clampE, nI_eqE, nI_leE, nI_ltE, vp_nIE, true_and, and_true]; omega
    refine ⟨evi, ?_⟩
    have next : (b = false → dCl Γ Y0 p v k) → wX12_findDefines_j155 Q E K161 (wX12_findDefines_l66 Q E K161 (f + 1)) (if b then 1 else 0) (nI p) (nI (hdS Γ p)) (nI v) (nI k) τ := by
      intro hcl
      unfold wX12_findDefines_j155
      rw [nI_1]
      refine fe (ih (k + 1) τ Y b q1 q2 ⟨m1, m2, m3, m4, m5, fun hb => ⟨(m6 hb).1, (m6 hb).2.1, fun k' hk' => ?_⟩⟩)
      by_cases e : k' = k
      · rw [e]; exact hcl hb
      · exact (m6 hb).2.2 k' (by omega)
    cases hy : Y (104 * (6 * hdS Γ p + v) + k)
    · refine no (fun z => z rfl) ⟨ev6, ev6, ?_⟩
      have hlo : plF Γ p v ≤ 47 := by
        have := plF_le (Γ := Γ) (p := p) (u := v - 1) (by omega)
        rw [show v - 1 + 1 = v by omega] at this; omega
      refine m_any X1 hV hL hp P1 m2 hlo (plF_le hv) (by omega) (by omega) (fun hex => no (by decide) ⟨evi, fe ?_⟩) (fun hnex => yes rfl (next ?_))
      · have en : vp_nar .boolean (1 : Int32) = 1 := by decide
        rw [en]
        unfold wX12_findDefines_j155
        rw [nI_1]
        obtain ⟨i, i1, i2, i3⟩ := hex
        have hin : i < plN Γ p := Nat.lt_of_lt_of_le i2 (plF_le hv)
        have hvi := (plF_v hV hL hp h1 hv hin).mp ⟨i1, i2⟩
        have hdf := dfE_so hV hL hp m3 hin i3
        rw [hvi] at hdf
        have hc0 : cnt Y0 8112 ≤ cnt Y 8112 := by
          cases b
          · rw [(m6 rfl).1]; exact Nat.le_refl _
          · exact Nat.le_of_lt (m5 rfl)
        refine fe (ih (k + 1) _ (uf Y (104 * (6 * hdS Γ p + v) + k) true) true q1 q2 ⟨m1.I (decide_eq_true rfl), fun j hj => ?_, fun s' v' t' a' g1 g2 g3 g4 g5 => ?_, fun j hj => ?_, fun _ => ?_, fun z => absurd z (by decide)⟩)
        · rw [gI_I, if_pos rfl]
          by_cases ej : j = 104 * (6 * hdS Γ p + v) + k
          · rw [if_pos ej, ej, uf_s]; rfl
          · rw [if_neg ej, uf_o _ _ ej]; exact m2 j hj
        · by_cases ej : 104 * (6 * s' + v') + (8 * t' + a') = 104 * (6 * hdS Γ p + v) + k
          · have z1 : s' = hdS Γ p := by omega
            have z2 : v' = v := by omega
            have z3 : t' = k / 8 := by omega
            have z4 : a' = k % 8 := by omega
            rw [z1, z2, z3, z4]; exact hdf
          · rw [uf_o _ _ ej] at g5; exact m3 s' v' t' a' g1 g2 g3 g4 g5
        · by_cases ej : j = 104 * (6 * hdS Γ p + v) + k
          · rw [ej, uf_s]
          · rw [uf_o _ _ ej]; exact m4 j hj
        · rw [cnt_uf hy, if_pos qi]; omega
      · intro hb hex
        rw [(m6 hb).1] at hnex
        exact absurd hex hnex
    · refine yes (by decide) (next (fun hb _ => ?_))
      rw [← (m6 hb).1]; exact hy
end MD
