/-! ===== what visits define, the class's: found ===== -/
def CDf (σ : ab_S) (Γ : GRT) : Prop := ∃ Y, YC σ Y ∧ ∀ s v t a, s < 12 → v < 7 → t < Γ.1.1 → a < 8 → (Y (8 * ((s * 7 + v) * 12 + t) + a) = true ↔ dF Γ s v t a)
section CD
variable {σ τ : ab_S} {g p i : Nat} {Γ : GRT} {Y Y0 : Nat → Bool} {b : Bool} {D : Prop} {E : String → ab_S → Prop}
theorem c_d32 (hZ : CZ σ g Γ) (hV : GRV Γ) (hL : LVF Γ) {Q : ab_S → Prop} {K57 : Int32 → Int32 → ab_S → Prop} {x2 : Int32} (h : ∀ τ' Y' (b' : Bool), CDs σ Γ Y0 τ' Y' b' (∀ p, p < Γ.2.1 → ∀ i, i < plN Γ p → dCe Γ Y0 p i) → K57 (if b' then 1 else 0) x2 τ') : ∀ f p τ Y (b : Bool), Γ.2.1 - p = f → p ≤ Γ.2.1 → CDs σ Γ Y0 τ Y b (∀ p', p' < p → ∀ i, i < plN Γ p' → dCe Γ Y0 p' i) → wX7_findDefined_l32 Q E K57 (f + 1) (if b then 1 else 0) x2 (nI p) τ := by
  have h30 := hV.2.1
  intro f
  induction f with
  | zero =>
    intro p τ Y b hf hp hM
    have e : p = Γ.2.1 := by omega
    have Z1 := hZ.s20 hV hM.1
    show wX7_findDefined_l32_b _ _ _ _ _ _ _ _
    unfold wX7_findDefined_l32_b
    refine ⟨g, Z1.2.1, Z1.1.1, ?_⟩
    rw [Z1.1.2.2.1.2.1]
    rw [e] at hM
    exact yes (by simp (disch := omega) only [nI_lit, nI_add, nI_mulE, nI_clampE, nI_eqE, nI_leE, nI_ltE, vp_nIE, true_and, and_true]; omega) (h τ Y b hM)
  | succ f ih =>
    intro p τ Y b hf hp hM
    have hp1 : p < Γ.2.1 := by omega
    have q1 : Γ.2.1 - (p + 1) = f := by omega
    have Z1 := hZ.s20 hV hM.1
    show wX7_findDefined_l32_b Q E K57 (wX7_findDefined_l32 Q E K57 (f + 1)) _ x2 (nI p) τ
    unfold wX7_findDefined_l32_b
    refine ⟨g, Z1.2.1, Z1.1.1, ?_⟩
    rw [Z1.1.2.2.1.2.1]
    refine no (by simp (disch := omega) only [nI_lit, nI_add, nI_mulE, nI_clampE, nI_eqE, nI_leE, nI_ltE, vp_nIE, true_and, and_true]; omega) ?_
    obtain ⟨m1, m2, m3, m4, m5, m6⟩ := hM
    refine c_coll Z1 hV hL hp1 m2 m3 (fun τ' Y' c hM' => ?_)
    obtain ⟨k1, k2, k3, k4, k5, k6⟩ := hM'
    rw [or_01, nI_1]
    refine fe (fe (ih (p + 1) τ' Y' (b || c) q1 hp1 ⟨m1.tr k1, k2, k3, fun j hj => k4 j (m4 j hj), fun hbc => ?_, fun hbc => ?_⟩))
    · have a1 := cnt_mo m4 8064
      have a2 := cnt_mo k4 8064
      rw [Bool.or_eq_true] at hbc
      rcases hbc with hbc | hbc
      · have := m5 hbc; omega
      · have := k5 hbc; omega
    · rw [Bool.or_eq_false_iff] at hbc
      obtain ⟨e1, d1⟩ := m6 hbc.1
      obtain ⟨e2, d2⟩ := k6 hbc.2
      rw [e1] at e2 d2
      refine ⟨e2, fun p' hp' => ?_⟩
      by_cases e : p' = p
      · rw [e]; exact d2
      · exact d1 p' (by omega)
theorem dCe_all (hV : GRV Γ) (hL : LVF Γ) (hS : dSc Γ Y) (hC : ∀ p, p < Γ.2.1 → ∀ i, i < plN Γ p → dCe Γ Y p i) : ∀ s v t a, s < 12 → v < 7 → t < Γ.1.1 → a < 8 → (Y (8 * ((s * 7 + v) * 12 + t) + a) = true ↔ dF Γ s v t a) := by
  have h12 := hV.1.1
  intro s v t a hs hv ht ha
  refine ⟨hS s v t a hs hv (by omega) ha, fun hd => ?_⟩
  refine (hd (XC Γ Y) (fun p hp i hi t a hdf => ⟨?_, hC p hp i hi t a hdf⟩)).2
  have hpv := (hV.2.2.2 p hp).2.1
  rcases hdf with ⟨d1, d2, d3⟩ | ⟨d1, d2, d3⟩
  · rcases en_cs hV hL hp hi with ⟨z, x, x1, x2, x3, x4, x5, x6⟩ | ⟨w0, w1, w2, w3, w4, w5, w6⟩
    · obtain ⟨b1, b2, b3, b4, b5⟩ := enc_b x1
      rw [x4, b3] at d2
      rw [x4, b5] at d3
      have : oSy Γ p (x / 8) < Γ.1.1 := hpv.2.1 _ x5
      exact ⟨by omega, by omega⟩
    · omega
  · exact d2
theorem c_fD (hZ : CZ σ g Γ) (hV : GRV Γ) (hL : LVF Γ) {Q : ab_S → Prop} (h : ∀ τ, FM S20 σ τ → CDf τ Γ → Q τ) : wX7_findDefined Q E σ := by
  have e84 : (nI 1008) * (8 : Int32) = nI 8064 := by decide
  have loop : ∀ f r τ Y, 8064 - cnt Y 8064 ≤ f → r ≤ cnt Y 8064 → FM S20 σ τ → YC τ Y → dSc Γ Y → wX7_findDefined_l12 Q E (f + 2) 1 (nI r) τ := by
    have rnd : ∀ f r τ Y, r ≤ cnt Y 8064 → FM S20 σ τ → YC τ Y → dSc Γ Y → (∀ τ' Y', cnt Y 8064 < cnt Y' 8064 → FM S20 σ τ' → YC τ' Y' → dSc Γ Y' → wX7_findDefined_l12 Q E (f + 1) 1 (nI (r + 1)) τ') → wX7_findDefined_l12 Q E (f + 2) 1 (nI r) τ := by
      intro f r τ Y hr hF hY hS hgo
      have hc := cnt_le Y 8064
      show wX7_findDefined_l12_b Q E (wX7_findDefined_l12 Q E (f + 1)) 1 (nI r) τ
      unfold wX7_findDefined_l12_b
      rw [e84]
      refine no (by decide) (no (by simp (disch := omega) only [nI_lit, nI_add, nI_mulE, nI_clampE, nI_eqE, nI_leE, nI_ltE, vp_nIE, true_and, and_true]; omega) ⟨Γ.2.1 + 1, ?_⟩)
      refine c_d32 (Y0 := Y) (hZ.s20 hV hF) hV hL (fun τ' Y' b' hM' => ?_) _ 0 τ Y false rfl (Nat.zero_le _) ⟨FM.rf _ _, hY, hS, fun _ z => z, fun z => absurd z (by decide), fun _ => ⟨rfl, fun p' hp' => absurd hp' (Nat.not_lt_zero _)⟩⟩
      unfold wX7_findDefined_j57
      rw [nI_1]
      refine fe ?_
      cases b'
      · obtain ⟨e, hD⟩ := hM'.2.2.2.2.2 rfl
        show wX7_findDefined_l12_b Q E (wX7_findDefined_l12 Q E f) 0 (nI (r + 1)) τ'
        unfold wX7_findDefined_l12_b
        rw [← e] at hD
        exact yes rfl (h τ' (hF.tr hM'.1) ⟨Y', hM'.2.1, dCe_all hV hL hM'.2.2.1 hD⟩)
      · exact hgo τ' Y' (hM'.2.2.2.2.1 rfl) (hF.tr hM'.1) hM'.2.1 hM'.2.2.1
    intro f
    induction f with
    | zero =>
      intro r τ Y hf hr hF hY hS
      refine rnd 0 r τ Y hr hF hY hS (fun τ' Y' hlt _ _ _ => ?_)
      have := cnt_le Y' 8064
      omega
    | succ f ih =>
      intro r τ Y hf hr hF hY hS
      exact rnd (f + 1) r τ Y hr hF hY hS (fun τ' Y' hlt F' hY' hS' => ih (r + 1) τ' Y' (by omega) (by omega) F' hY' hS')
  unfold wX7_findDefined
  refine c_fl2 (by omega) (fun τ F1 z1 => ⟨8064 + 2, ?_⟩)
  refine loop 8064 0 τ (fun _ => false) (by omega) (Nat.zero_le _) (F1.mono (fun a i y => ?_)) (fun j hj => ?_) (fun s v t a _ _ _ _ z => absurd z Bool.false_ne_true)
  · have y := of_decide_eq_false y
    exact decide_eq_false (fun z => y (by omega))
  · rw [z1 j hj]
    exact B32.z.cg (fun a _ => by rw [Bool.and_false])
end CD
