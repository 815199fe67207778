/-! ===== what visits define, the model's: all ===== -/
/-- what visits define, found -/
def MDf (σ : ab_S) (Γ : GRT) : Prop := ∃ Y, YM σ Y ∧ ∀ s v t a, s < 13 → v < 6 → t < Γ.1.1 → a < 8 → (Y (104 * (6 * s + v) + (8 * t + a)) = true ↔ dF Γ s v t a)
section MD
variable {σ : ab_S} {p v : Nat} {Γ : GRT} {Y0 : Nat → Bool} {E : String → ab_S → Prop}
theorem m_d52 (hX : MXg σ Γ) (hV : GRV Γ) (hL : LVF Γ) (hP : ∀ p, p < Γ.2.1 → MPf σ Γ p) (hp : p < Γ.2.1) {D : Prop} {Q : ab_S → Prop} {K167 : Int32 → Int32 → ab_S → Prop} (h : ∀ τ Y (b : Bool), MDs σ Γ Y0 τ Y b (D ∧ ∀ v, 1 ≤ v → v ≤ svs Γ (hdS Γ p) → ∀ k, k < 8 * Γ.1.1 → dCl Γ Y0 p v k) → K167 (if b then 1 else 0) (nI p) τ) : ∀ f u τ Y (b : Bool), svs Γ (hdS Γ p) - u = f → u ≤ svs Γ (hdS Γ p) → MDs σ Γ Y0 τ Y b (D ∧ ∀ v, 1 ≤ v → v ≤ u → ∀ k, k < 8 * Γ.1.1 → dCl Γ Y0 p v k) → wX12_findDefines_l52 Q E K167 (f + 1) (if b then 1 else 0) (nI p) (nI (hdS Γ p)) (nI (u + 1)) τ := by
  have h30 := hV.2.1
  have h12 := hV.1.1
  have hs : hdS Γ p < Γ.1.1 := (hV.2.2.2 p hp).2.1.2.1 0 (Nat.zero_le _)
  have hvis := (hL.vis _ hs).2
  have ecs : (nI (hdS Γ p)).toNatClampNeg = hdS Γ p := nI_clampE (by omega)
  have evs : vp_in (nI (hdS Γ p)) 13 := by simp (disch := omega) only [nI_lit, nI_add, nI_mulE, nI_clampE, nI_eqE, nI_leE, nI_ltE, vp_nIE, true_and, and_true]; omega
  intro f
  induction f with
  | zero =>
    intro u τ Y b hf hu hM
    have e : u = svs Γ (hdS Γ p) := by omega
    have X1 := hX.s122 hV hM.1
    show wX12_findDefines_l52_b _ _ _ _ _ _ _ _ _
    unfold wX12_findDefines_l52_b
    rw [ecs, (X1.2.1 _ hs).2]
    rw [e] at hM
    exact ⟨evs, yes (by simp (disch := omega) only [nI_lit, nI_add, nI_mulE, nI_clampE, nI_eqE, nI_leE, nI_ltE, vp_nIE, true_and, and_true]; omega) (h τ Y b hM)⟩
  | succ f ih =>
    intro u τ Y b hf hu hM
    have X1 := hX.s122 hV hM.1
    show wX12_findDefines_l52_b Q E K167 (wX12_findDefines_l52 Q E K167 (f + 1)) _ (nI p) (nI (hdS Γ p)) (nI (u + 1)) τ
    unfold wX12_findDefines_l52_b
    rw [ecs, (X1.2.1 _ hs).2]
    refine ⟨evs, no (by simp (disch := omega) only [nI_lit, nI_add, nI_mulE, nI_clampE, nI_eqE, nI_leE, nI_ltE, vp_nIE, true_and, and_true]; omega) ⟨8 * Γ.1.1 + 1, ?_⟩⟩
    have q1 : svs Γ (hdS Γ p) - (u + 1) = f := by omega
    have q2 : u + 1 ≤ svs Γ (hdS Γ p) := by omega
    refine m_d66 hX hV hL hP hp (v := u + 1) (by omega) q2 (D := D ∧ ∀ v, 1 ≤ v → v ≤ u → ∀ k, k < 8 * Γ.1.1 → dCl Γ Y0 p v k) (fun τ' Y' b' hM' => ?_) _ 0 τ Y b rfl (Nat.zero_le _) ⟨hM.1, hM.2.1, hM.2.2.1, hM.2.2.2.1, hM.2.2.2.2.1, fun hb => ⟨(hM.2.2.2.2.2 hb).1, (hM.2.2.2.2.2 hb).2, fun k' hk' => absurd hk' (Nat.not_lt_zero _)⟩⟩
    unfold wX12_findDefines_j161
    rw [nI_1]
    refine fe (ih (u + 1) τ' Y' b' q1 q2 ⟨hM'.1, hM'.2.1, hM'.2.2.1, hM'.2.2.2.1, hM'.2.2.2.2.1, fun hb => ⟨(hM'.2.2.2.2.2 hb).1, (hM'.2.2.2.2.2 hb).2.1.1, fun v v1 v2 k hk => ?_⟩⟩)
    by_cases e : v = u + 1
    · rw [e]; exact (hM'.2.2.2.2.2 hb).2.2 k hk
    · exact (hM'.2.2.2.2.2 hb).2.1.2 v v1 (by omega) k hk
theorem m_d32 (hX : MXg σ Γ) (hV : GRV Γ) (hL : LVF Γ) (hP : ∀ p, p < Γ.2.1 → MPf σ Γ p) {Q : ab_S → Prop} {K173 : Int32 → ab_S → Prop} (h : ∀ τ Y (b : Bool), MDs σ Γ Y0 τ Y b (∀ p, p < Γ.2.1 → ∀ v, 1 ≤ v → v ≤ svs Γ (hdS Γ p) → ∀ k, k < 8 * Γ.1.1 → dCl Γ Y0 p v k) → K173 (if b then 1 else 0) τ) : ∀ f p τ Y (b : Bool), Γ.2.1 - p = f → p ≤ Γ.2.1 → MDs σ Γ Y0 τ Y b (∀ p', p' < p → ∀ v, 1 ≤ v → v ≤ svs Γ (hdS Γ p') → ∀ k, k < 8 * Γ.1.1 → dCl Γ Y0 p' v k) → wX12_findDefines_l32 Q E K173 (f + 1) (if b then 1 else 0) (nI p) τ := by
  have h30 := hV.2.1
  have h12 := hV.1.1
  intro f
  induction f with
  | zero =>
    intro p τ Y b hf hp hM
    have e : p = Γ.2.1 := by omega
    have X1 := hX.s122 hV hM.1
    show wX12_findDefines_l32_b _ _ _ _ _ _ _
    unfold wX12_findDefines_l32_b
    rw [X1.1.2.1]
    rw [e] at hM
    exact yes (by simp (disch := omega) only [nI_lit, nI_add, nI_mulE, nI_clampE, nI_eqE, nI_leE, nI_ltE, vp_nIE, true_and, and_true]; omega) (h τ Y b hM)
  | succ f ih =>
    intro p τ Y b hf hp hM
    have X1 := hX.s122 hV hM.1
    have hp1 : p < Γ.2.1 := by omega
    have q1 : Γ.2.1 - (p + 1) = f := by omega
    have hoc : τ.2.1 104 (4 * p) = nI (hdS Γ p) := (X1.1.2.2.2 p hp1).2.2.1 0 (by omega)
    have e4 : (4 : Int32) * nI p = nI (4 * p) := by show nI 4 * nI p = _; rw [nI_mulE]
    show wX12_findDefines_l32_b Q E K173 (wX12_findDefines_l32 Q E K173 (f + 1)) _ (nI p) τ
    unfold wX12_findDefines_l32_b
    rw [X1.1.2.1, e4, nI_clampE (show 4 * p < 2147483648 by omega), hoc]
    refine no (by simp (disch := omega) only [nI_lit, nI_add, nI_mulE, nI_clampE, nI_eqE, nI_leE, nI_ltE, vp_nIE, true_and, and_true]; omega) ⟨by simp (disch := omega) only [nI_lit, nI_add, nI_mulE, nI_clampE, nI_eqE, nI_leE, nI_ltE, vp_nIE, true_and, and_true]; omega, fe ⟨svs Γ (hdS Γ p) + 1, ?_⟩⟩
    refine m_d52 hX hV hL hP hp1 (D := ∀ p', p' < p → ∀ v, 1 ≤ v → v ≤ svs Γ (hdS Γ p') → ∀ k, k < 8 * Γ.1.1 → dCl Γ Y0 p' v k) (fun τ' Y' b' hM' => ?_) _ 0 τ Y b rfl (Nat.zero_le _) ⟨hM.1, hM.2.1, hM.2.2.1, hM.2.2.2.1, hM.2.2.2.2.1, fun hb => ⟨(hM.2.2.2.2.2 hb).1, (hM.2.2.2.2.2 hb).2, fun v v1 v2 => by omega⟩⟩
    unfold wX12_findDefines_j167
    rw [nI_1]
    refine fe (ih (p + 1) τ' Y' b' q1 hp1 ⟨hM'.1, hM'.2.1, hM'.2.2.1, hM'.2.2.2.1, hM'.2.2.2.2.1, fun hb => ⟨(hM'.2.2.2.2.2 hb).1, fun p' hp' => ?_⟩⟩)
    by_cases e : p' = p
    · rw [e]; exact (hM'.2.2.2.2.2 hb).2.2
    · exact (hM'.2.2.2.2.2 hb).2.1 p' (by omega)
/-- a round that finds nothing new: all is found -/
theorem dCl_all (hV : GRV Γ) (hL : LVF Γ) {Y : Nat → Bool} (hS : dSo Γ Y) (hC : ∀ p, p < Γ.2.1 → ∀ v, 1 ≤ v → v ≤ svs Γ (hdS Γ p) → ∀ k, k < 8 * Γ.1.1 → dCl Γ Y p v k) : ∀ s v t a, s < 13 → v < 6 → t < Γ.1.1 → a < 8 → (Y (104 * (6 * s + v) + (8 * t + a)) = true ↔ dF Γ s v t a) := by
  have h12 := hV.1.1
  intro s v t a hs hv ht ha
  refine ⟨hS s v t a hs hv (by omega) ha, fun hd => ?_⟩
  refine (hd (XY Γ Y) (fun p hp i hi t a hdf => ?_)).2
  have hpv := (hV.2.2.2 p hp).2.1
  have hhs : hdS Γ p < Γ.1.1 := hpv.2.1 0 (Nat.zero_le _)
  have hvis := hL.vis _ hhs
  have hJ : plJ (plP Γ p) := plJ_A _ hvis.2
  have hv1 := (hJ i hi).1
  have hv2 : (gE (plP Γ p) i).2.1 ≤ svs Γ (hdS Γ p) := (plO_A hV hL hp (svs Γ (hdS Γ p))).1.1 i hi
  have hta : t < Γ.1.1 ∧ a < 8 := by
    rcases hdf with ⟨d1, d2, d3⟩ | ⟨d1, d2, d3⟩
    · rcases en_cs hV hL hp hi with ⟨z, x, x1, x2, x3, x4, x5, x6⟩ | ⟨w0, w1, w2, w3, w4, w5, w6⟩
      · obtain ⟨b1, b2, b3, b4, b5⟩ := enc_b x1
        rw [x4, b3] at d2
        rw [x4, b5] at d3
        have : oSy Γ p (x / 8) < Γ.1.1 := hpv.2.1 _ x5
        exact ⟨by omega, by omega⟩
      · omega
    · exact d2
  have := hC p hp _ hv1 hv2 (8 * t + a) (by omega)
  refine ⟨hta, this ⟨i, ?_⟩⟩
  rw [show (8 * t + a) / 8 = t by omega, show (8 * t + a) % 8 = a by omega]
  have hf := (plF_v hV hL hp hv1 hv2 hi).mpr rfl
  exact ⟨hf.1, hf.2, hdf⟩
theorem m_fD (hX : MXg σ Γ) (hV : GRV Γ) (hL : LVF Γ) (hP : ∀ p, p < Γ.2.1 → MPf σ Γ p) {Q : ab_S → Prop} (h : ∀ τ, FM S122 σ τ → MDf τ Γ → Q τ) : wX12_findDefines Q E σ := by
  have loop : ∀ f τ Y, 8112 - cnt Y 8112 ≤ f → FM S122 σ τ → YM τ Y → dSo Γ Y → wX12_findDefines_l24 Q E (f + 2) 1 τ := by
    intro f
    induction f with
    | zero =>
      intro τ Y hf hF hY hS
      have X1 := hX.s122 hV hF
      show wX12_findDefines_l24_b Q E (wX12_findDefines_l24 Q E 1) 1 τ
      unfold wX12_findDefines_l24_b
      refine no (by decide) ⟨Γ.2.1 + 1, ?_⟩
      refine m_d32 (Y0 := Y) X1 hV hL (fun p hp => (hP p hp).s122 hF) (fun τ' Y' b' hM' => ?_) _ 0 τ Y false rfl (Nat.zero_le _) ⟨FM.rf _ _, hY, hS, fun _ z => z, fun z => absurd z (by decide), fun _ => ⟨rfl, fun p' hp' => absurd hp' (Nat.not_lt_zero _)⟩⟩
      unfold wX12_findDefines_j173
      cases b'
      · obtain ⟨e, hD⟩ := hM'.2.2.2.2.2 rfl
        show wX12_findDefines_l24_b Q E (wX12_findDefines_l24 Q E 0) 0 τ'
        unfold wX12_findDefines_l24_b
        rw [← e] at hD
        exact yes rfl (h τ' (hF.tr hM'.1) ⟨Y', hM'.2.1, dCl_all hV hL hM'.2.2.1 hD⟩)
      · have := hM'.2.2.2.2.1 rfl
        have := cnt_le Y' 8112
        omega
    | succ f ih =>
      intro τ Y hf hF hY hS
      have X1 := hX.s122 hV hF
      show wX12_findDefines_l24_b Q E (wX12_findDefines_l24 Q E (f + 2)) 1 τ
      unfold wX12_findDefines_l24_b
      refine no (by decide) ⟨Γ.2.1 + 1, ?_⟩
      refine m_d32 (Y0 := Y) X1 hV hL (fun p hp => (hP p hp).s122 hF) (fun τ' Y' b' hM' => ?_) _ 0 τ Y false rfl (Nat.zero_le _) ⟨FM.rf _ _, hY, hS, fun _ z => z, fun z => absurd z (by decide), fun _ => ⟨rfl, fun p' hp' => absurd hp' (Nat.not_lt_zero _)⟩⟩
      unfold wX12_findDefines_j173
      cases b'
      · obtain ⟨e, hD⟩ := hM'.2.2.2.2.2 rfl
        show wX12_findDefines_l24_b Q E (wX12_findDefines_l24 Q E (f + 1)) 0 τ'
        unfold wX12_findDefines_l24_b
        rw [← e] at hD
        exact yes rfl (h τ' (hF.tr hM'.1) ⟨Y', hM'.2.1, dCl_all hV hL hM'.2.2.1 hD⟩)
      · have := hM'.2.2.2.2.1 rfl
        exact ih τ' Y' (by omega) (hF.tr hM'.1) hM'.2.1 hM'.2.2.1
  unfold wX12_findDefines
  refine ⟨8113, ?_⟩
  have en : vp_nar .boolean (0 : Int32) = 0 := by decide
  suffices H : ∀ f k τ, 8112 - k = f → k ≤ 8112 → FM S122 σ τ → (∀ j, j < k → τ.2.1 122 j = 0) → wX12_findDefines_l2 Q E (wX12_findDefines_j22 Q E) (f + 1) (nI k) τ from H 8112 0 σ rfl (Nat.zero_le _) (FM.rf _ _) (fun j hj => absurd hj (Nat.not_lt_zero _))
  intro f
  induction f with
  | zero =>
    intro k τ hf hk hF hZ
    show wX12_findDefines_l2_b _ _ _ _ _ _
    unfold wX12_findDefines_l2_b
    refine yes (by simp (disch := omega) only [nI_lit, nI_add, nI_mulE, nI_clampE, nI_eqE, nI_leE, nI_ltE, vp_nIE, true_and, and_true]; omega) ?_
    unfold wX12_findDefines_j22
    exact ⟨8112 + 2, loop 8112 τ (fun _ => false) (by omega) hF (fun j hj => by rw [hZ j (by omega)]; rfl) (fun s v t a _ _ _ _ z => absurd z Bool.false_ne_true)⟩
  | succ f ih =>
    intro k τ hf hk hF hZ
    show wX12_findDefines_l2_b Q E (wX12_findDefines_j22 Q E) (wX12_findDefines_l2 Q E (wX12_findDefines_j22 Q E) (f + 1)) (nI k) τ
    unfold wX12_findDefines_l2_b
    rw [nI_clampE (show k < 2147483648 by omega), nI_1, en]
    refine no (by simp (disch := omega) only [nI_lit, nI_add, nI_mulE, nI_clampE, nI_eqE, nI_leE, nI_ltE, vp_nIE, true_and, and_true]; omega) ⟨by simp (disch := omega) only [nI_lit, nI_add, nI_mulE, nI_clampE, nI_eqE, nI_leE, nI_ltE, vp_nIE, true_and, and_true]; omega, fe (fe (ih (k + 1) _ (by omega) (by omega) (hF.I (decide_eq_true rfl)) (fun j hj => ?_)))⟩
    rw [gI_I, if_pos rfl]
    by_cases e : j = k
    · rw [if_pos e]
    · rw [if_neg e]; exact hZ j (by omega)
end MD
