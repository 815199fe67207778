/-! ===== plans, the class's: visits, all ===== -/
section CL
variable {σ : ab_S} {g p B v : Nat} {Γ : GRT} {T : PLT} {E : String → ab_S → Prop}
theorem cvi_i {o w : Nat} {th : Nat → Bool} : cvi Γ p o w th = true ↔ w ≤ svs Γ ((Γ.2.2.1 p).2.2.1 o) ∧ ∀ a, a < 8 → inV Γ ((Γ.2.2.1 p).2.2.1 o) w a = true → Γ.1.2.2.2.1 ((Γ.2.2.1 p).2.2.1 o) a = true → th (8 * o + a) = true := by
  unfold cvi
  rw [Bool.and_eq_true, decide_eq_true_eq, List.all_eq_true]
  constructor
  · rintro ⟨h1, h2⟩
    refine ⟨h1, fun a ha hi hd => ?_⟩
    have := h2 a (List.mem_range.mpr ha)
    rw [hi, hd] at this
    exact this
  · rintro ⟨h1, h2⟩
    refine ⟨h1, fun a ha => ?_⟩
    have ha := List.mem_range.mp ha
    cases hi : inV Γ ((Γ.2.2.1 p).2.2.1 o) w a
    · rfl
    · cases hd : Γ.1.2.2.2.1 ((Γ.2.2.1 p).2.2.1 o) a
      · rfl
      · rw [h2 a ha hi hd]; rfl
theorem c_viR (hV : GRV Γ) (hL : LVF Γ) (hp : p < Γ.2.1) (hX : CX σ g Γ) (hBp : B ≤ 47 * p) (hI : plI Γ p T) (hC : CPl σ B p T) {Q : ab_S → Prop} (h : ∀ τ, FM (Spe p B) σ τ → CPl τ B p (plVs Γ p v (Γ.2.2.1 p).2.1 T) → Q τ) : wX4_visitReady (nI p) (nI v) Q E σ := by
  have h30 := hV.2.1
  have h12 := hV.1.1
  have hgb := isG_b hX.1
  have hpv := (hV.2.2.2 p hp).2.1
  have h3 := hpv.1
  refine ⟨(Γ.2.2.1 p).2.1 + 1, ?_⟩
  suffices H : ∀ f k τ, (Γ.2.2.1 p).2.1 - k = f → k ≤ (Γ.2.2.1 p).2.1 → FM (Spe p B) σ τ → CPl τ B p (plVs Γ p v k T) → wX4_visitReady_l2 (nI p) (nI v) Q E (f + 1) (nI (k + 1)) τ from H _ 0 σ rfl (Nat.zero_le _) (FM.rf _ _) hC
  intro f
  induction f with
  | zero =>
    intro k τ hf hk hF hc
    have e : k = (Γ.2.2.1 p).2.1 := by omega
    subst e
    have X1 := hX.pe hV hF
    have O1 := X1.2.2.1.of hV X1.1 hp
    show wX4_visitReady_l2_b _ _ _ _ _ _ _
    unfold wX4_visitReady_l2_b
    refine ⟨g, X1.2.1, X1.1, ?_⟩
    rw [nI_clampE (by omega), O1.2.2.2.2.1]
    exact ⟨by simp (disch := omega) only [nI_lit, nI_add, nI_mulE, nI_clampE, nI_eqE, nI_leE, nI_ltE, vp_nIE, true_and, and_true]; omega, yes (by simp (disch := omega) only [nI_lit, nI_add, nI_mulE, nI_clampE, nI_eqE, nI_leE, nI_ltE, vp_nIE, true_and, and_true]; omega) (h τ hF hc)⟩
  | succ f ih =>
    intro k τ hf hk hF hc
    have X1 := hX.pe hV hF
    have O1 := X1.2.2.1.of hV X1.1 hp
    have I1 : plI Γ p (plVs Γ p v k T) := plI_Vs hL hV hp k hk hI
    have I2 : plI Γ p (plVs Γ p v (k + 1) T) := plI_Vs hL hV hp (k + 1) (by omega) hI
    have h47 := plI_47 I1
    have h47b := plI_47 I2
    obtain ⟨o1, o2⟩ := O1.2.2.2.2.2.1 (k + 1) (by omega)
    have c8 := (O1.2.2.2.2.2.2 _ o2).2
    have hvis := hL.vis _ o2
    have eT : plVs Γ p v (k + 1) T = plV Γ p v (k + 1) (plVs Γ p v k T) := rfl
    rw [eT] at h47b
    generalize hT1 : plVs Γ p v k T = T1 at hc I1 h47 h47b eT
    have hcc := hc
    obtain ⟨c1, c2, c3, c4, c5, c6, c7⟩ := hc
    have hvs5 := (I1.2.1 (k + 1)).1
    have evp : vp_in (nI p) 30 := by simp (disch := omega) only [nI_lit, nI_add, nI_mulE, nI_clampE, nI_eqE, nI_leE, nI_ltE, vp_nIE, true_and, and_true]; omega
    have ecp : (nI p).toNatClampNeg = p := nI_clampE (by omega)
    have e4 : nI p * 4 + nI (k + 1) = nI (p * 4 + (k + 1)) := by show nI p * nI 4 + _ = _; rw [nI_mulE, nI_add]
    have ek : (nI (k + 1)).toNatClampNeg = k + 1 := nI_clampE (by omega)
    have evk : vp_in (nI (k + 1)) 4 := by simp (disch := omega) only [nI_lit, nI_add, nI_mulE, nI_clampE, nI_eqE, nI_leE, nI_ltE, vp_nIE, true_and, and_true]; omega
    show wX4_visitReady_l2_b (nI p) (nI v) Q E (wX4_visitReady_l2 (nI p) (nI v) Q E (f + 1)) (nI (k + 1)) τ
    unfold wX4_visitReady_l2_b
    refine ⟨g, X1.2.1, X1.1, ?_⟩
    rw [ecp, O1.2.2.2.2.1]
    refine ⟨evp, no (by simp (disch := omega) only [nI_lit, nI_add, nI_mulE, nI_clampE, nI_eqE, nI_leE, nI_ltE, vp_nIE, true_and, and_true]; omega) ⟨g, X1.2.1, X1.1, ?_⟩⟩
    unfold wX0_symbolAt
    rw [e4, nI_clampE (show p * 4 + (k + 1) < 2147483648 by omega), o1]
    refine ⟨by simp (disch := omega) only [nI_lit, nI_add, nI_mulE, nI_clampE, nI_eqE, nI_leE, nI_ltE, vp_nIE, true_and, and_true]; omega, ?_⟩
    dsimp only
    rw [ek, c4 (k + 1) (by omega), nI_1]
    refine ⟨evk, fe (fe ⟨g, X1.2.1, X1.1, ?_⟩)⟩
    have es : (nI ((Γ.2.2.1 p).2.2.1 (k + 1))).toNatClampNeg = (Γ.2.2.1 p).2.2.1 (k + 1) := nI_clampE (by omega)
    have e8 : nI (k + 1) * 8 = nI (8 * (k + 1)) := by show nI (k + 1) * nI 8 = _; rw [nI_mulE, Nat.mul_comm]
    rw [es, (X1.2.2.2 _ o2).2, e8]
    refine ⟨by simp (disch := omega) only [nI_lit, nI_add, nI_mulE, nI_clampE, nI_eqE, nI_leE, nI_ltE, vp_nIE, true_and, and_true]; omega, ?_⟩
    have skip : ∀ τ', τ' = τ → cvi Γ p (k + 1) (T1.vs (k + 1) + 1) T1.th = false → wX4_visitReady_j140 (nI p) (nI v) Q E (wX4_visitReady_l2 (nI p) (nI v) Q E (f + 1)) (nI (k + 1)) τ' := by
      intro τ' hτ hno
      subst hτ
      unfold wX4_visitReady_j140
      rw [nI_1]
      have e : plV Γ p v (k + 1) T1 = T1 := by unfold plV; rw [if_neg (by rw [hno]; decide)]
      exact fe (ih (k + 1) τ' (by omega) (by omega) hF (by rw [eT, e]; exact hcc))
    by_cases hw : T1.vs (k + 1) + 1 ≤ svs Γ ((Γ.2.2.1 p).2.2.1 (k + 1))
    · refine no (by simp (disch := omega) only [nI_lit, nI_add, nI_mulE, nI_clampE, nI_eqE, nI_leE, nI_ltE, vp_nIE, true_and, and_true]; omega) ⟨g, X1.2.1, X1.1, ?_⟩
      refine c_dns X1 hV hL o2 (by omega) (fun x hx => ?_)
      have hnew := (hx.shl (o := k + 1) (by omega)).new c2
      have hcv := cvi_i (Γ := Γ) (p := p) (o := k + 1) (w := T1.vs (k + 1) + 1) (th := T1.th)
      have heq : (∀ i, i < 32 → (decide (8 * (k + 1) ≤ i) && (inV Γ ((Γ.2.2.1 p).2.2.1 (k + 1)) (T1.vs (k + 1) + 1) (i - 8 * (k + 1)) && (Γ.1.2.2.2.1 ((Γ.2.2.1 p).2.2.1 (k + 1)) (i - 8 * (k + 1)) == true))) = true → T1.th i = true) ↔ cvi Γ p (k + 1) (T1.vs (k + 1) + 1) T1.th = true := by
        rw [hcv]
        constructor
        · intro q
          refine ⟨hw, fun a ha hi hd => q (8 * (k + 1) + a) (by omega) ?_⟩
          rw [decide_eq_true (show 8 * (k + 1) ≤ 8 * (k + 1) + a by omega), show 8 * (k + 1) + a - 8 * (k + 1) = a by omega, hi, hd]; rfl
        · rintro ⟨_, q⟩ i hi hh
          simp only [Bool.and_eq_true, decide_eq_true_eq] at hh
          have ha : i - 8 * (k + 1) < Γ.1.2.2.1 ((Γ.2.2.1 p).2.2.1 (k + 1)) := by have := hh.2.1; unfold inV at this; exact (of_decide_eq_true this).1
          have := q (i - 8 * (k + 1)) (by omega) hh.2.1 (eq_of_beq hh.2.2)
          rw [show 8 * (k + 1) + (i - 8 * (k + 1)) = i by omega] at this
          exact this
      cases hcb : cvi Γ p (k + 1) (T1.vs (k + 1) + 1) T1.th
      · refine yes (fun z => ?_) (skip τ rfl hcb)
        have := heq.mp (hnew.mp z)
        rw [hcb] at this; exact absurd this Bool.false_ne_true
      · refine no (fun z => z (hnew.mpr (heq.mpr hcb))) ⟨evk, fe ?_⟩
        have eV : plV Γ p v (k + 1) T1 = (addV Γ p (k + 1) (T1.vs (k + 1) + 1) false T1.th, T1.ev, uf T1.vs (k + 1) (T1.vs (k + 1) + 1), T1.es ++ [(k + 1, v, T1.vs (k + 1) + 1)], T1.ea, uf T1.va (k + 1) (uf (T1.va (k + 1)) (T1.vs (k + 1) + 1) T1.es.length)) := by unfold plV; rw [if_pos hcb]
        rw [eV] at h47b
        have h46 : T1.es.length ≤ 46 := by
          have h47b : (T1.es ++ [(k + 1, v, T1.vs (k + 1) + 1)]).length ≤ 47 := h47b
          rw [List.length_append, List.length_singleton] at h47b; omega
        generalize hτ1 : ab_I τ 18 (k + 1) (nI (T1.vs (k + 1) + 1)) = τ1
        have F1 : FM (fun a i => decide (a = 18 ∧ i = k + 1)) τ τ1 := by rw [← hτ1]; exact (FM.rf _ τ).I (by simp)
        have v18 : τ1.2.1 18 (k + 1) = nI (T1.vs (k + 1) + 1) := by rw [← hτ1]; simp [gI_I]
        have X2 : CX τ1 g Γ := X1.fm hV F1 (fun k i hk => decide_eq_false (by omega)) (decide_eq_false (by omega))
        refine ⟨g, X2.2.1, X2.1, ?_⟩
        refine c_ups X2 hV hL o2 (by omega) (fun y hy => ?_)
        refine fe ?_
        have e47 : nI (p * 4 + (k + 1)) * 7 + nI (T1.vs (k + 1) + 1) = nI ((p * 4 + (k + 1)) * 7 + (T1.vs (k + 1) + 1)) := by show nI _ * nI 7 + _ = _; rw [nI_mulE, nI_add]
        rw [e47, nI_clampE (show (p * 4 + (k + 1)) * 7 + (T1.vs (k + 1) + 1) < 2147483648 by omega), F1.1 11 9 (decide_eq_false (by omega))]
        refine ⟨by simp (disch := omega) only [nI_lit, nI_add, nI_mulE, nI_clampE, nI_eqE, nI_leE, nI_ltE, vp_nIE, true_and, and_true]; omega, fe ?_⟩
        generalize hτ2 : ab_I (ab_I τ1 11 9 (τ.2.1 11 9 ||| y <<< (nI (8 * (k + 1)) &&& 31))) 17 ((p * 4 + (k + 1)) * 7 + (T1.vs (k + 1) + 1)) ((ab_I τ1 11 9 (τ.2.1 11 9 ||| y <<< (nI (8 * (k + 1)) &&& 31))).2.1 11 8) = τ2
        have F2 : FM (fun a i => decide ((a = 11 ∧ i = 9) ∨ (a = 17 ∧ i = (p * 4 + (k + 1)) * 7 + (T1.vs (k + 1) + 1)))) τ1 τ2 := by rw [← hτ2]; exact ((FM.rf _ τ1).I (by simp)).I (by simp)
        have w9 : τ2.2.1 11 9 = τ.2.1 11 9 ||| y <<< (nI (8 * (k + 1)) &&& 31) := by rw [← hτ2]; simp [gI_I]
        have w8 : τ2.2.1 11 8 = nI (B + T1.es.length) := by rw [F2.1 _ _ (decide_eq_false (by omega)), F1.1 _ _ (decide_eq_false (by omega))]; exact c1
        have w17 : τ2.2.1 17 ((p * 4 + (k + 1)) * 7 + (T1.vs (k + 1) + 1)) = nI (B + T1.es.length) := by
          rw [← hτ2, gI_I, if_pos rfl, if_pos rfl, gI_I, if_pos rfl, if_neg (by omega), F1.1 _ _ (decide_eq_false (by omega))]; exact c1
        refine c_padd (T := T1) (v := v) (a := k + 1) (w := T1.vs (k + 1) + 1) (by omega) w8 (fun τ3 F3 v8 v12 v13 v14 => ?_)
        unfold wX4_visitReady_j140
        rw [nI_1]
        have F13 : FM (Spe p B) τ τ3 := ((F1.mono (fun a i y => by have y := of_decide_eq_false y; exact decide_eq_false (by omega))).tr (F2.mono (fun a i y => by have y := of_decide_eq_false y; exact decide_eq_false (by omega)))).tr (F3.mono (fun a i y => by have y := of_decide_eq_false y; exact decide_eq_false (by omega)))
        refine fe (ih (k + 1) τ3 (by omega) (by omega) (hF.tr F13) ?_)
        rw [eT, eV]
        refine ⟨?_, ?_, ?_, fun o ho => ?_, fun i hi => ?_, fun y hy hey => ?_, fun o w ho w1 w2 => ?_⟩
        · rw [v8]; show _ = nI (B + (T1.es ++ [(k + 1, v, T1.vs (k + 1) + 1)]).length); rw [List.length_append]; rfl
        · rw [F3.1 _ _ (decide_eq_false (by omega)), w9]
          exact addV_b (t8 := 0) (by omega) c8 c2 hy
        · rw [F3.1 _ _ (decide_eq_false (by omega)), F2.1 _ _ (decide_eq_false (by omega)), F1.1 _ _ (decide_eq_false (by omega))]; exact c3
        · show _ = nI (uf T1.vs (k + 1) (T1.vs (k + 1) + 1) o)
          rw [F3.1 _ _ (decide_eq_false (by omega)), F2.1 _ _ (decide_eq_false (by omega))]
          by_cases eo : o = k + 1
          · rw [eo, uf_s]; exact v18
          · rw [uf_o _ _ eo, F1.1 _ _ (decide_eq_false (by omega))]; exact c4 o ho
        · have hi : i < (T1.es ++ [(k + 1, v, T1.vs (k + 1) + 1)]).length := hi
          rw [List.length_append, List.length_singleton] at hi
          show _ = nI ((T1.es ++ [(k + 1, v, T1.vs (k + 1) + 1)]).getD i (0, 0, 0)).1 ∧ _ = nI ((T1.es ++ [(k + 1, v, T1.vs (k + 1) + 1)]).getD i (0, 0, 0)).2.1 ∧ _ = nI ((T1.es ++ [(k + 1, v, T1.vs (k + 1) + 1)]).getD i (0, 0, 0)).2.2
          by_cases ei : i = T1.es.length
          · subst ei
            rw [ge_e]; exact ⟨v12, v13, v14⟩
          · have q : ∀ a, 12 ≤ a → a ≤ 14 → τ3.2.1 a (B + i) = τ.2.1 a (B + i) := fun a a1 a2 => by rw [F3.1 _ _ (decide_eq_false (by omega)), F2.1 _ _ (decide_eq_false (by omega)), F1.1 _ _ (decide_eq_false (by omega))]
            rw [ge_l (by omega), q 12 (by omega) (by omega), q 13 (by omega) (by omega), q 14 (by omega) (by omega)]
            exact c5 i (by omega)
        · rw [F3.1 _ _ (decide_eq_false (by omega)), F2.1 _ _ (decide_eq_false (by omega)), F1.1 _ _ (decide_eq_false (by omega))]; exact c6 y hy hey
        · have w2 : w ≤ uf T1.vs (k + 1) (T1.vs (k + 1) + 1) o := w2
          show _ = nI (B + uf T1.va (k + 1) (uf (T1.va (k + 1)) (T1.vs (k + 1) + 1) T1.es.length) o w)
          rw [F3.1 _ _ (decide_eq_false (by omega))]
          have hvso := (I1.2.1 o).1
          by_cases eo : o = k + 1
          · subst eo
            rw [uf_s] at w2 ⊢
            by_cases ew : w = T1.vs (k + 1) + 1
            · subst ew; rw [uf_s]; exact w17
            · rw [uf_o _ _ ew, F2.1 _ _ (decide_eq_false (by omega)), F1.1 _ _ (decide_eq_false (by omega))]; exact c7 (k + 1) w ho w1 (by omega)
          · rw [uf_o _ _ eo] at w2 ⊢
            rw [F2.1 _ _ (decide_eq_false (by omega)), F1.1 _ _ (decide_eq_false (by omega))]; exact c7 o w ho w1 w2
    · refine yes (by simp (disch := omega) only [nI_lit, nI_add, nI_mulE, nI_clampE, nI_eqE, nI_leE, nI_ltE, vp_nIE, true_and, and_true]; omega) (skip τ rfl ?_)
      cases hcb : cvi Γ p (k + 1) (T1.vs (k + 1) + 1) T1.th
      · rfl
      · exact absurd (cvi_i.mp hcb).1 hw
end CL
