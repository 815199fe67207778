/-! ===== plans, the model's: a round, whole ===== -/
section ML
variable {σ τ τ' : ab_S} {p B v x o : Nat} {Γ : GRT} {T : PLT} {E : String → ab_S → Prop}
theorem m_l154 (hX : MXg σ Γ) (hV : GRV Γ) (hL : LVF Γ) (hp : p < Γ.2.1) (hB : B ≤ 47 * p) (h1 : 1 ≤ v) (h5 : v ≤ 5) (hI : plI Γ p T) {n0 : Nat} (hn : n0 ≤ T.es.length) {Q : Int32 → ab_S → Prop} (h : ∀ τ', FM (Spm p B) σ τ' → MPl τ' B p (plVs Γ p v (Γ.2.2.1 p).2.1 T) → Q (dd n0 (plVs Γ p v (Γ.2.2.1 p).2.1 T)) τ') : ∀ f k τ, (Γ.2.2.1 p).2.1 - k = f → k ≤ (Γ.2.2.1 p).2.1 → FM (Spm p B) σ τ → MPl τ B p (plVs Γ p v k T) → wX12_round_l154 (nI p) (nI v) Q E (f + 1) (dd n0 (plVs Γ p v k T)) (nI (k + 1)) τ := by
  have h30 := hV.2.1
  have h12 := hV.1.1
  have hpv := (hV.2.2.2 p hp).2.1
  have h3 := hpv.1
  have ecp : (nI p).toNatClampNeg = p := nI_clampE (by omega)
  have evp : vp_in (nI p) 31 := by simp (disch := omega) only [nI_lit, nI_add, nI_mulE, nI_clampE, nI_eqE, nI_leE, nI_ltE, vp_nIE, true_and, and_true]; omega
  intro f
  induction f with
  | zero =>
    intro k τ hf hk hF hC
    have e : k = (Γ.2.2.1 p).2.1 := by omega
    have X1 := hX.pm hV hF
    show wX12_round_l154_b _ _ _ _ _ _ _ _
    unfold wX12_round_l154_b
    rw [ecp, (X1.1.2.2.2 p hp).2.1]
    refine ⟨evp, yes (by simp (disch := omega) only [nI_lit, nI_add, nI_mulE, nI_clampE, nI_eqE, nI_leE, nI_ltE, vp_nIE, true_and, and_true]; omega) ⟨?_, ?_⟩⟩
    · unfold dd; split
      · exact Or.inr rfl
      · exact Or.inl rfl
    · rw [e] at hC ⊢; exact h τ hF hC
  | succ f ih =>
    intro k τ hf hk hF hC
    have X1 := hX.pm hV hF
    have hs := hpv.2.1 (k + 1) (by omega)
    have hvis := hL.vis _ hs
    have I1 : plI Γ p (plVs Γ p v k T) := plI_Vs hL hV hp k hk hI
    have I2 : plI Γ p (plVs Γ p v (k + 1) T) := plI_Vs hL hV hp (k + 1) (by omega) hI
    have hmono : T.es.length ≤ (plVs Γ p v k T).es.length := plVs_len _
    have eT : plVs Γ p v (k + 1) T = plV Γ p v (k + 1) (plVs Γ p v k T) := rfl
    have IH := ih (k + 1)
    rw [eT] at IH I2
    generalize plVs Γ p v k T = T1 at hC I1 I2 hmono IH ⊢
    have hvs5 := (I1.2.1 (k + 1)).1
    have ek : (nI (k + 1)).toNatClampNeg = k + 1 := nI_clampE (by omega)
    have evk : vp_in (nI (k + 1)) 4 := by simp (disch := omega) only [nI_lit, nI_add, nI_mulE, nI_clampE, nI_eqE, nI_leE, nI_ltE, vp_nIE, true_and, and_true]; omega
    show wX12_round_l154_b (nI p) (nI v) Q E (wX12_round_l154 (nI p) (nI v) Q E (f + 1)) _ (nI (k + 1)) τ
    unfold wX12_round_l154_b
    rw [ecp, (X1.1.2.2.2 p hp).2.1, ek, hC.2.2.1 (k + 1) (by omega), nI_1]
    refine ⟨evp, no (by simp (disch := omega) only [nI_lit, nI_add, nI_mulE, nI_clampE, nI_eqE, nI_leE, nI_ltE, vp_nIE, true_and, and_true]; omega) ⟨evk, fe ?_⟩⟩
    refine m_cV X1 hV hL hp (by omega) (by omega) hC.2.1 ?_
    cases hc : cvi Γ p (k + 1) (T1.vs (k + 1) + 1) T1.th
    · refine yes rfl ?_
      have e : plV Γ p v (k + 1) T1 = T1 := by unfold plV; rw [if_neg (by rw [hc]; decide)]
      rw [e] at IH
      unfold wX12_round_j271
      rw [nI_1]
      exact fe (IH τ (by omega) (by omega) hF hC)
    · refine no (by decide) ⟨evk, ?_⟩
      have hw : T1.vs (k + 1) + 1 ≤ svs Γ ((Γ.2.2.1 p).2.2.1 (k + 1)) := (cvi_i.mp hc).1
      have eV : plV Γ p v (k + 1) T1 = (addV Γ p (k + 1) (T1.vs (k + 1) + 1) false T1.th, T1.ev, uf T1.vs (k + 1) (T1.vs (k + 1) + 1), T1.es ++ [(k + 1, v, T1.vs (k + 1) + 1)], T1.ea, uf T1.va (k + 1) (uf (T1.va (k + 1)) (T1.vs (k + 1) + 1) T1.es.length)) := by unfold plV; rw [if_pos hc]
      have h46 : T1.es.length ≤ 46 := by
        have := plI_47 I2
        rw [eV] at this
        have this : (T1.es ++ [(k + 1, v, T1.vs (k + 1) + 1)]).length ≤ 47 := this
        rw [List.length_append, List.length_singleton] at this; omega
      have e24 : (24 : Int32) * nI p + 6 * nI (k + 1) + nI (T1.vs (k + 1) + 1) = nI (24 * p + 6 * (k + 1) + (T1.vs (k + 1) + 1)) := by
        show nI 24 * nI p + nI 6 * nI (k + 1) + _ = _
        rw [nI_mulE, nI_mulE, nI_add, nI_add]
      have ec24 : (nI (24 * p + 6 * (k + 1) + (T1.vs (k + 1) + 1))).toNatClampNeg = 24 * p + 6 * (k + 1) + (T1.vs (k + 1) + 1) := nI_clampE (by omega)
      have ev24 : vp_in (nI (24 * p + 6 * (k + 1) + (T1.vs (k + 1) + 1))) 744 := by simp (disch := omega) only [nI_lit, nI_add, nI_mulE, nI_clampE, nI_eqE, nI_leE, nI_ltE, vp_nIE, true_and, and_true]; omega
      rw [e24, ec24]
      refine fe ⟨ev24, fe ⟨ev24, ?_⟩⟩
      generalize hτ1 : ab_I (ab_I τ 121 (k + 1) (nI (T1.vs (k + 1) + 1))) 118 (24 * p + 6 * (k + 1) + (T1.vs (k + 1) + 1)) (nI v) = τ1
      have w1 : τ1.2.1 92 28 = nI (B + T1.es.length) := by rw [← hτ1, gI_I, if_neg (by omega), gI_I, if_neg (by omega)]; exact hC.1
      rw [w1]
      refine fe ?_
      generalize hτ2 : ab_I τ1 119 (24 * p + 6 * (k + 1) + (T1.vs (k + 1) + 1)) (nI (B + T1.es.length)) = τ2
      have w2 : τ2.2.1 92 28 = nI (B + T1.es.length) := by rw [← hτ2, gI_I, if_neg (by omega)]; exact w1
      rw [w2, nI_clampE (show B + T1.es.length < 2147483648 by omega)]
      refine ⟨by simp (disch := omega) only [nI_lit, nI_add, nI_mulE, nI_clampE, nI_eqE, nI_leE, nI_ltE, vp_nIE, true_and, and_true]; omega, fe ?_⟩
      generalize hτ3 : ab_I τ2 113 (B + T1.es.length) (nI (k + 1)) = τ3
      have w3 : τ3.2.1 92 28 = nI (B + T1.es.length) := by rw [← hτ3, gI_I, if_neg (by omega)]; exact w2
      rw [w3, nI_1]
      refine fe ?_
      generalize hτ4 : ab_I τ3 92 28 (nI (B + T1.es.length + 1)) = τ4
      have F4 : FM (fun a' i => decide ((a' = 92 ∧ i = 28) ∨ (a' = 113 ∧ i = B + T1.es.length) ∨ ((a' = 118 ∨ a' = 119) ∧ i = 24 * p + 6 * (k + 1) + (T1.vs (k + 1) + 1)) ∨ (a' = 121 ∧ i = k + 1) ∨ a' = 120)) τ τ4 := by
        rw [← hτ4, ← hτ3, ← hτ2, ← hτ1]
        exact (((((FM.rf _ τ).I (by simp)).I (by simp)).I (by simp)).I (by simp)).I (by simp)
      have u1 : τ4.2.1 92 28 = nI (B + T1.es.length + 1) := by rw [← hτ4]; simp [gI_I]
      have u2 : τ4.2.1 113 (B + T1.es.length) = nI (k + 1) := by rw [← hτ4, ← hτ3]; simp [gI_I]
      have u3 : τ4.2.1 118 (24 * p + 6 * (k + 1) + (T1.vs (k + 1) + 1)) = nI v := by rw [← hτ4, ← hτ3, ← hτ2, ← hτ1]; simp [gI_I]
      have u4 : τ4.2.1 119 (24 * p + 6 * (k + 1) + (T1.vs (k + 1) + 1)) = nI (B + T1.es.length) := by rw [← hτ4, ← hτ3, ← hτ2]; simp [gI_I]
      have u5 : τ4.2.1 121 (k + 1) = nI (T1.vs (k + 1) + 1) := by rw [← hτ4, ← hτ3, ← hτ2, ← hτ1]; simp [gI_I]
      have u6 : MTh τ4 T1.th := fun x hx => by
        rw [← hτ4, ← hτ3, ← hτ2, ← hτ1]
        rw [gI_I, if_neg (by omega), gI_I, if_neg (by omega), gI_I, if_neg (by omega), gI_I, if_neg (by omega), gI_I, if_neg (by omega)]
        exact hC.2.1 x hx
      have X4 : MXg τ4 Γ := X1.fm hV F4 ⟨decide_eq_false (by omega), decide_eq_false (by omega), decide_eq_false (by omega)⟩ (fun a i h1 h2 => decide_eq_false (by omega))
      refine m_come X4 hV hL hp (k := k + 1) (by omega) (w := T1.vs (k + 1) + 1) (by omega) false u6 (fun τ5 F5 t5 => ?_)
      have F45 := F4.tr (F5.mono (fun a i y => by have y := of_decide_eq_false y; exact decide_eq_false (by omega)))
      have C5 := mpl_V (v := v) (o := k + 1) hC I1 (by omega) (by omega) F45 (by rw [F5.1 _ _ (decide_eq_false (by omega))]; exact u1) (by rw [F5.1 _ _ (decide_eq_false (by omega))]; exact u2) (by rw [F5.1 _ _ (decide_eq_false (by omega))]; exact u3) (by rw [F5.1 _ _ (decide_eq_false (by omega))]; exact u4) (by rw [F5.1 _ _ (decide_eq_false (by omega))]; exact u5) t5
      rw [← eV] at C5
      have ed : (1 : Int32) = dd n0 (plV Γ p v (k + 1) T1) := by
        unfold dd
        rw [if_pos]
        rw [eV]
        show n0 < (T1.es ++ [(k + 1, v, T1.vs (k + 1) + 1)]).length
        rw [List.length_append, List.length_singleton]; omega
      unfold wX12_round_j271
      rw [nI_1]
      have := IH τ5 (by omega) (by omega) (hF.tr (F45.mono (fun a' i y => by have y := of_decide_eq_false y; exact decide_eq_false (by omega)))) C5
      rw [← ed] at this
      exact fe this
theorem m_round (hX : MXg σ Γ) (hV : GRV Γ) (hL : LVF Γ) (hp : p < Γ.2.1) (hB : B ≤ 47 * p) (h1 : 1 ≤ v) (h5 : v ≤ 5) (hI : plI Γ p T) (hJ : plJ T) (hC : MPl σ B p T) {Q : Int32 → ab_S → Prop} (h : ∀ τ, FM (Spm p B) σ τ → MPl τ B p (plR Γ p v T) → Q (dd T.es.length (plR Γ p v T)) τ) : wX12_round (nI p) (nI v) Q E σ := by
  have h30 := hV.2.1
  have hpv := (hV.2.2.2 p hp).2.1
  have h3 := hpv.1
  have ecp : (nI p).toNatClampNeg = p := nI_clampE (by omega)
  have evp : vp_in (nI p) 31 := by simp (disch := omega) only [nI_lit, nI_add, nI_mulE, nI_clampE, nI_eqE, nI_leE, nI_ltE, vp_nIE, true_and, and_true]; omega
  have e0 : dd T.es.length T = 0 := by unfold dd; rw [if_neg (by omega)]
  unfold wX12_round
  refine ⟨(Γ.2.2.1 p).2.1 + 2, ?_⟩
  suffices H : ∀ f k τ, (Γ.2.2.1 p).2.1 + 1 - k = f → k ≤ (Γ.2.2.1 p).2.1 + 1 → FM (Spm p B) σ τ → MPl τ B p (plEs Γ p v (8 * k) T) → wX12_round_l5 (nI p) (nI v) Q E (wX12_round_j151 (nI p) (nI v) Q E) (f + 1) (dd T.es.length (plEs Γ p v (8 * k) T)) (nI k) τ by
    have := H ((Γ.2.2.1 p).2.1 + 1) 0 σ rfl (Nat.zero_le _) (FM.rf _ _) hC
    have e00 : plEs Γ p v (8 * 0) T = T := rfl
    rw [e00, e0] at this
    exact this
  intro f
  induction f with
  | zero =>
    intro k τ hf hk hF hC
    have e : k = (Γ.2.2.1 p).2.1 + 1 := by omega
    have X1 := hX.pm hV hF
    have eE : plEs Γ p v 32 T = plEs Γ p v (8 * k) T := by
      refine plEs_skip (by omega) (fun x hx1 hx2 => ?_)
      rw [df_dfn hV hp (by omega)]
      unfold dfn
      rw [decide_eq_false (show ¬ x / 8 ≤ (Γ.2.2.1 p).2.1 by omega), Bool.false_and]
    show wX12_round_l5_b _ _ _ _ _ _ _ _ _
    unfold wX12_round_l5_b
    rw [ecp, (X1.1.2.2.2 p hp).2.1]
    refine ⟨evp, yes (by simp (disch := omega) only [nI_lit, nI_add, nI_mulE, nI_clampE, nI_eqE, nI_leE, nI_ltE, vp_nIE, true_and, and_true]; omega) ?_⟩
    unfold wX12_round_j151
    rw [← eE] at hC ⊢
    refine ⟨(Γ.2.2.1 p).2.1 + 1, ?_⟩
    exact m_l154 hX hV hL hp hB h1 h5 (T := plEs Γ p v 32 T) (plI_Es hV hp 32 hI) (plEs_len 32) (fun τ' F' C' => h τ' F' C') _ 0 τ rfl (Nat.zero_le _) hF hC
  | succ f ih =>
    intro k τ hf hk hF hC
    have X1 := hX.pm hV hF
    show wX12_round_l5_b (nI p) (nI v) Q E (wX12_round_j151 (nI p) (nI v) Q E) (wX12_round_l5 (nI p) (nI v) Q E (wX12_round_j151 (nI p) (nI v) Q E) (f + 1)) _ (nI k) τ
    unfold wX12_round_l5_b
    rw [ecp, (X1.1.2.2.2 p hp).2.1]
    refine ⟨evp, no (by simp (disch := omega) only [nI_lit, nI_add, nI_mulE, nI_clampE, nI_eqE, nI_leE, nI_ltE, vp_nIE, true_and, and_true]; omega) ⟨Γ.1.2.2.1 ((Γ.2.2.1 p).2.2.1 k) + 1, ?_⟩⟩
    refine m_l19 hX hV hp hB h1 h5 hI hJ (k := k) (by omega) (fun τ' F' C' => ?_) _ 0 τ rfl (Nat.zero_le _) hF hC
    unfold wX12_round_j145
    rw [nI_1]
    exact fe (ih (k + 1) τ' (by omega) (by omega) F' C')
end ML
