/-! ===== plans, the model's: a round, made ===== -/
section ML
variable {σ τ τ' : ab_S} {p B v x o : Nat} {Γ : GRT} {T : PLT} {E : String → ab_S → Prop}
theorem mpl_E (hC : MPl τ B p T) (hI : plI Γ p T) (hx : x < 32) (F : FM (fun a i => decide ((a = 92 ∧ i = 28) ∨ (a = 113 ∧ i = B + T.es.length) ∨ ((a = 116 ∨ a = 117) ∧ i = 32 * p + x) ∨ (a = 120 ∧ i = x))) τ τ') (w1 : τ'.2.1 92 28 = nI (B + T.es.length + 1)) (w2 : τ'.2.1 113 (B + T.es.length) = nI (enc x)) (w3 : τ'.2.1 116 (32 * p + x) = nI v) (w4 : τ'.2.1 117 (32 * p + x) = nI (B + T.es.length)) (w5 : τ'.2.1 120 x = 1) : MPl τ' B p (uf T.th x true, uf T.ev x true, T.vs, T.es ++ [(enc x, v, 0)], uf T.ea x T.es.length, T.va) := by
  obtain ⟨c1, c2, c3, c4, c5, c6, c7, c8⟩ := hC
  refine ⟨?_, fun y hy => ?_, fun o ho => ?_, fun i hi => ?_, fun y hy => ?_, fun y hy hey => ?_, fun o w ho hw => ?_, fun o w ho h1 h2 => ?_⟩
  · show _ = nI (B + (T.es ++ [(enc x, v, 0)]).length)
    rw [w1, List.length_append]; rfl
  · show _ = if uf T.th x true y then 1 else 0
    by_cases e : y = x
    · rw [e, uf_s, w5]; rfl
    · rw [uf_o _ _ e, F.1 _ _ (decide_eq_false (by omega))]; exact c2 y hy
  · rw [F.1 _ _ (decide_eq_false (by omega))]; exact c3 o ho
  · have hi : i < (T.es ++ [(enc x, v, 0)]).length := hi
    rw [List.length_append, List.length_singleton] at hi
    show _ = nI ((T.es ++ [(enc x, v, 0)]).getD i (0, 0, 0)).1
    by_cases e : i = T.es.length
    · rw [e, ge_e, w2]
    · rw [ge_l (by omega), F.1 _ _ (decide_eq_false (by omega))]; exact c4 i (by omega)
  · show _ = nI (if uf T.ev x true y then ((T.es ++ [(enc x, v, 0)]).getD (uf T.ea x T.es.length y) (0, 0, 0)).2.1 else 0)
    by_cases e : y = x
    · rw [e, uf_s, uf_s, ge_e, w3]; rfl
    · rw [uf_o _ _ e, uf_o _ _ e, F.1 _ _ (decide_eq_false (by omega)), c5 y hy]
      cases hey : T.ev y
      · rfl
      · rw [ge_l (hI.2.2.2.1 y hey).1]
  · have hey : uf T.ev x true y = true := hey
    show _ = nI (B + uf T.ea x T.es.length y)
    by_cases e : y = x
    · rw [e, uf_s, w4]
    · rw [uf_o _ _ e] at hey ⊢
      rw [F.1 _ _ (decide_eq_false (by omega))]; exact c6 y hy hey
  · show _ = nI (if 1 ≤ w ∧ w ≤ T.vs o then ((T.es ++ [(enc x, v, 0)]).getD (T.va o w) (0, 0, 0)).2.1 else 0)
    rw [F.1 _ _ (decide_eq_false (by omega)), c7 o w ho hw]
    by_cases hh : 1 ≤ w ∧ w ≤ T.vs o
    · rw [if_pos hh, if_pos hh, ge_l (hI.2.2.2.2 o w hh.1 hh.2).1]
    · rw [if_neg hh, if_neg hh]
  · rw [F.1 _ _ (decide_eq_false (by omega))]; exact c8 o w ho h1 h2
theorem mpl_V (hC : MPl τ B p T) (hI : plI Γ p T) {th' : Nat → Bool} (ho4 : o < 4) (hv5 : T.vs o + 1 < 6) (F : FM (fun a i => decide ((a = 92 ∧ i = 28) ∨ (a = 113 ∧ i = B + T.es.length) ∨ ((a = 118 ∨ a = 119) ∧ i = 24 * p + 6 * o + (T.vs o + 1)) ∨ (a = 121 ∧ i = o) ∨ a = 120)) τ τ') (w1 : τ'.2.1 92 28 = nI (B + T.es.length + 1)) (w2 : τ'.2.1 113 (B + T.es.length) = nI o) (w3 : τ'.2.1 118 (24 * p + 6 * o + (T.vs o + 1)) = nI v) (w4 : τ'.2.1 119 (24 * p + 6 * o + (T.vs o + 1)) = nI (B + T.es.length)) (w5 : τ'.2.1 121 o = nI (T.vs o + 1)) (w6 : MTh τ' th') : MPl τ' B p (th', T.ev, uf T.vs o (T.vs o + 1), T.es ++ [(o, v, T.vs o + 1)], T.ea, uf T.va o (uf (T.va o) (T.vs o + 1) T.es.length)) := by
  obtain ⟨c1, c2, c3, c4, c5, c6, c7, c8⟩ := hC
  refine ⟨?_, w6, fun o' ho => ?_, fun i hi => ?_, fun y hy => ?_, fun y hy hey => ?_, fun o' w ho hw => ?_, fun o' w ho h1 h2 => ?_⟩
  · show _ = nI (B + (T.es ++ [(o, v, T.vs o + 1)]).length)
    rw [w1, List.length_append]; rfl
  · show _ = nI (uf T.vs o (T.vs o + 1) o')
    by_cases e : o' = o
    · rw [e, uf_s, w5]
    · rw [uf_o _ _ e, F.1 _ _ (decide_eq_false (by omega))]; exact c3 o' ho
  · have hi : i < (T.es ++ [(o, v, T.vs o + 1)]).length := hi
    rw [List.length_append, List.length_singleton] at hi
    show _ = nI ((T.es ++ [(o, v, T.vs o + 1)]).getD i (0, 0, 0)).1
    by_cases e : i = T.es.length
    · rw [e, ge_e, w2]
    · rw [ge_l (by omega), F.1 _ _ (decide_eq_false (by omega))]; exact c4 i (by omega)
  · show _ = nI (if T.ev y then ((T.es ++ [(o, v, T.vs o + 1)]).getD (T.ea y) (0, 0, 0)).2.1 else 0)
    rw [F.1 _ _ (decide_eq_false (by omega)), c5 y hy]
    cases hey : T.ev y
    · rfl
    · rw [ge_l (hI.2.2.2.1 y hey).1]
  · rw [F.1 _ _ (decide_eq_false (by omega))]; exact c6 y hy hey
  · show _ = nI (if 1 ≤ w ∧ w ≤ uf T.vs o (T.vs o + 1) o' then ((T.es ++ [(o, v, T.vs o + 1)]).getD (uf T.va o (uf (T.va o) (T.vs o + 1) T.es.length) o' w) (0, 0, 0)).2.1 else 0)
    by_cases e : o' = o
    · rw [e, uf_s, uf_s]
      by_cases ew : w = T.vs o + 1
      · rw [ew, uf_s, ge_e, w3, if_pos ⟨by omega, by omega⟩]
      · rw [uf_o _ _ ew, F.1 _ _ (decide_eq_false (by omega)), c7 o w ho4 hw]
        by_cases hh : 1 ≤ w ∧ w ≤ T.vs o
        · rw [if_pos hh, if_pos ⟨hh.1, by omega⟩, ge_l (hI.2.2.2.2 o w hh.1 hh.2).1]
        · rw [if_neg hh, if_neg (by omega)]
    · rw [uf_o _ _ e, uf_o _ _ e, F.1 _ _ (decide_eq_false (by omega)), c7 o' w ho hw]
      by_cases hh : 1 ≤ w ∧ w ≤ T.vs o'
      · rw [if_pos hh, if_pos hh, ge_l (hI.2.2.2.2 o' w hh.1 hh.2).1]
      · rw [if_neg hh, if_neg hh]
  · have h2 : w ≤ uf T.vs o (T.vs o + 1) o' := h2
    show _ = nI (B + uf T.va o (uf (T.va o) (T.vs o + 1) T.es.length) o' w)
    by_cases e : o' = o
    · rw [e, uf_s] at h2
      rw [e, uf_s]
      by_cases ew : w = T.vs o + 1
      · rw [ew, uf_s, w4]
      · rw [uf_o _ _ ew, F.1 _ _ (decide_eq_false (by omega))]; exact c8 o w ho4 h1 (by omega)
    · rw [uf_o _ _ e] at h2 ⊢
      have := (hI.2.1 o').1
      rw [F.1 _ _ (decide_eq_false (by omega))]; exact c8 o' w ho h1 h2
def dd (n : Nat) (T : PLT) : Int32 := if n < T.es.length then 1 else 0
theorem MPl.z (hC : MPl τ B p T) (hI : plI Γ p T) (hJ : plJ T) (hx : x < 32) : τ.2.1 116 (32 * p + x) = 0 ↔ T.ev x = false := by
  rw [hC.2.2.2.2.1 x hx]
  cases he : T.ev x
  · exact ⟨fun _ => rfl, fun _ => rfl⟩
  · have := hJ _ (hI.2.2.2.1 x he).1
    rw [if_pos rfl]
    refine ⟨fun z => ?_, fun z => absurd z (by decide)⟩
    have z : nI _ = nI 0 := z
    rw [nI_eqE (by omega) (by omega)] at z
    omega
theorem m_l19 (hX : MXg σ Γ) (hV : GRV Γ) (hp : p < Γ.2.1) (hB : B ≤ 47 * p) (h1 : 1 ≤ v) (h5 : v ≤ 5) (hI : plI Γ p T) (hJ : plJ T) {k : Nat} (hk : k ≤ (Γ.2.2.1 p).2.1) {Q : Int32 → ab_S → Prop} {K145 : Int32 → Int32 → ab_S → Prop} (h : ∀ τ', FM (Spm p B) σ τ' → MPl τ' B p (plEs Γ p v (8 * (k + 1)) T) → K145 (dd T.es.length (plEs Γ p v (8 * (k + 1)) T)) (nI k) τ') : ∀ f a τ, Γ.1.2.2.1 ((Γ.2.2.1 p).2.2.1 k) - a = f → a ≤ Γ.1.2.2.1 ((Γ.2.2.1 p).2.2.1 k) → FM (Spm p B) σ τ → MPl τ B p (plEs Γ p v (8 * k + a) T) → wX12_round_l19 (nI p) (nI v) Q E K145 (f + 1) (dd T.es.length (plEs Γ p v (8 * k + a) T)) (nI k) (nI a) τ := by
  have h30 := hV.2.1
  have h12 := hV.1.1
  have hpv := (hV.2.2.2 p hp).2.1
  have h3 := hpv.1
  have hs := hpv.2.1 k hk
  have c8 := (hV.1.2.2 _ hs).2.1
  have e4 : (4 : Int32) * nI p + nI k = nI (4 * p + k) := by show nI 4 * nI p + _ = _; rw [nI_mulE, nI_add]
  have ec4 : (nI (4 * p + k)).toNatClampNeg = 4 * p + k := nI_clampE (by omega)
  have ecs : (nI ((Γ.2.2.1 p).2.2.1 k)).toNatClampNeg = (Γ.2.2.1 p).2.2.1 k := nI_clampE (by omega)
  have evs : vp_in (nI ((Γ.2.2.1 p).2.2.1 k)) 13 := by simp (disch := omega) only [nI_lit, nI_add, nI_mulE, nI_clampE, nI_eqE, nI_leE, nI_ltE, vp_nIE, true_and, and_true]; omega
  have ev4 : vp_in (nI (4 * p + k)) 124 := by simp (disch := omega) only [nI_lit, nI_add, nI_mulE, nI_clampE, nI_eqE, nI_leE, nI_ltE, vp_nIE, true_and, and_true]; omega
  intro f
  induction f with
  | zero =>
    intro a τ hf ha hF hC
    have X1 := hX.pm hV hF
    have hoc := (X1.1.2.2.2 p hp).2.2.1 k (by omega)
    show wX12_round_l19_b _ _ _ _ _ _ _ _ _ _
    unfold wX12_round_l19_b
    rw [e4, ec4, hoc, ecs, (X1.1.1.2 _ hs).2.1]
    refine ⟨ev4, evs, yes (by simp (disch := omega) only [nI_lit, nI_add, nI_mulE, nI_clampE, nI_eqE, nI_leE, nI_ltE, vp_nIE, true_and, and_true]; omega) ?_⟩
    have e : plEs Γ p v (8 * (k + 1)) T = plEs Γ p v (8 * k + a) T := by
      refine plEs_skip (by omega) (fun x hx1 hx2 => ?_)
      rw [df_dfn hV hp (by omega)]
      unfold dfn
      rw [show x / 8 = k by omega, decide_eq_false (show ¬ x % 8 < Γ.1.2.2.1 ((Γ.2.2.1 p).2.2.1 k) by omega), Bool.false_and, Bool.and_false]
    rw [← e] at hC ⊢
    exact h τ hF hC
  | succ f ih =>
    intro a τ hf ha hF hC
    have X1 := hX.pm hV hF
    have hoc := (X1.1.2.2.2 p hp).2.2.1 k (by omega)
    have hal : a < Γ.1.2.2.1 ((Γ.2.2.1 p).2.2.1 k) := by omega
    have I1 : plI Γ p (plEs Γ p v (8 * k + a) T) := plI_Es hV hp _ hI
    have J1 : plJ (plEs Γ p v (8 * k + a) T) := plJ_Es h1 h5 _ hJ
    have I2 : plI Γ p (plEs Γ p v (8 * k + a + 1) T) := plI_Es hV hp _ hI
    have hmono : T.es.length ≤ (plEs Γ p v (8 * k + a) T).es.length := plEs_len _
    have eT : plEs Γ p v (8 * k + a + 1) T = plE Γ p v (8 * k + a) (plEs Γ p v (8 * k + a) T) := rfl
    have IH := ih (a + 1)
    rw [← Nat.add_assoc, eT] at IH
    rw [eT] at I2
    generalize plEs Γ p v (8 * k + a) T = T1 at hC I1 J1 I2 hmono IH ⊢
    have h47 := plI_47 I1
    show wX12_round_l19_b (nI p) (nI v) Q E K145 (wX12_round_l19 (nI p) (nI v) Q E K145 (f + 1)) _ (nI k) (nI a) τ
    unfold wX12_round_l19_b
    have e8 : (8 : Int32) * nI k + nI a = nI (8 * k + a) := by show nI 8 * nI k + _ = _; rw [nI_mulE, nI_add]
    have e32 : (32 : Int32) * nI p + 8 * nI k + nI a = nI (32 * p + (8 * k + a)) := by
      show nI 32 * nI p + nI 8 * nI k + _ = _
      rw [nI_mulE, nI_mulE, nI_add, nI_add]; congr 1; omega
    have e10 : (10 : Int32) + 10 * nI k + nI a = nI (enc (8 * k + a)) := by
      show nI 10 + nI 10 * nI k + _ = _
      rw [nI_mulE, nI_add, nI_add]; unfold enc; congr 1; omega
    rw [e4, ec4, hoc, ecs, (X1.1.1.2 _ hs).2.1, e8, e32, e10]
    refine ⟨ev4, evs, no (by simp (disch := omega) only [nI_lit, nI_add, nI_mulE, nI_clampE, nI_eqE, nI_leE, nI_ltE, vp_nIE, true_and, and_true]; omega) ?_⟩
    refine m_cE X1 hV hp hk hal hC.2.1 (hC.z I1 J1 (by omega)) (fun hr => no (by decide) ?_) (fun hno => yes rfl ?_)
    · have eE : plE Γ p v (8 * k + a) T1 = (uf T1.th (8 * k + a) true, uf T1.ev (8 * k + a) true, T1.vs, T1.es ++ [(enc (8 * k + a), v, 0)], uf T1.ea (8 * k + a) T1.es.length, T1.va) := by unfold plE; rw [if_pos hr]
      have h46 : T1.es.length ≤ 46 := by
        have := plI_47 I2
        rw [eE] at this
        have this : (T1.es ++ [(enc (8 * k + a), v, 0)]).length ≤ 47 := this
        rw [List.length_append, List.length_singleton] at this; omega
      have en : vp_nar .boolean (1 : Int32) = 1 := by decide
      have ec8 : (nI (8 * k + a)).toNatClampNeg = 8 * k + a := nI_clampE (by omega)
      have ec32 : (nI (32 * p + (8 * k + a))).toNatClampNeg = 32 * p + (8 * k + a) := nI_clampE (by omega)
      have ev32 : vp_in (nI (32 * p + (8 * k + a))) 992 := by simp (disch := omega) only [nI_lit, nI_add, nI_mulE, nI_clampE, nI_eqE, nI_leE, nI_ltE, vp_nIE, true_and, and_true]; omega
      rw [ec8, ec32, en]
      refine ⟨by simp (disch := omega) only [nI_lit, nI_add, nI_mulE, nI_clampE, nI_eqE, nI_leE, nI_ltE, vp_nIE, true_and, and_true]; omega, fe ⟨ev32, fe ⟨ev32, ?_⟩⟩⟩
      generalize hτ1 : ab_I (ab_I τ 120 (8 * k + a) 1) 116 (32 * p + (8 * k + a)) (nI v) = τ1
      have w1 : τ1.2.1 92 28 = nI (B + T1.es.length) := by rw [← hτ1, gI_I, if_neg (by omega), gI_I, if_neg (by omega)]; exact hC.1
      rw [w1]
      refine fe ?_
      generalize hτ2 : ab_I τ1 117 (32 * p + (8 * k + a)) (nI (B + T1.es.length)) = τ2
      have w2 : τ2.2.1 92 28 = nI (B + T1.es.length) := by rw [← hτ2, gI_I, if_neg (by omega)]; exact w1
      rw [w2, nI_clampE (show B + T1.es.length < 2147483648 by omega)]
      refine ⟨by simp (disch := omega) only [nI_lit, nI_add, nI_mulE, nI_clampE, nI_eqE, nI_leE, nI_ltE, vp_nIE, true_and, and_true]; omega, fe ?_⟩
      generalize hτ3 : ab_I τ2 113 (B + T1.es.length) (nI (enc (8 * k + a))) = τ3
      have w3 : τ3.2.1 92 28 = nI (B + T1.es.length) := by rw [← hτ3, gI_I, if_neg (by omega)]; exact w2
      rw [w3, nI_1]
      refine fe ?_
      generalize hτ4 : ab_I τ3 92 28 (nI (B + T1.es.length + 1)) = τ4
      have F4 : FM (fun a' i => decide ((a' = 92 ∧ i = 28) ∨ (a' = 113 ∧ i = B + T1.es.length) ∨ ((a' = 116 ∨ a' = 117) ∧ i = 32 * p + (8 * k + a)) ∨ (a' = 120 ∧ i = 8 * k + a))) τ τ4 := by
        rw [← hτ4, ← hτ3, ← hτ2, ← hτ1]
        exact (((((FM.rf _ τ).I (by simp)).I (by simp)).I (by simp)).I (by simp)).I (by simp)
      have C4 := mpl_E (v := v) hC I1 (x := 8 * k + a) (by omega) F4 (by rw [← hτ4]; simp [gI_I]) (by rw [← hτ4, ← hτ3]; simp [gI_I]) (by rw [← hτ4, ← hτ3, ← hτ2, ← hτ1]; simp [gI_I]) (by rw [← hτ4, ← hτ3, ← hτ2]; simp [gI_I]) (by rw [← hτ4, ← hτ3, ← hτ2, ← hτ1]; simp [gI_I])
      rw [← eE] at C4
      have ed : (1 : Int32) = dd T.es.length (plE Γ p v (8 * k + a) T1) := by
        unfold dd
        rw [if_pos]
        rw [eE]
        show T.es.length < (T1.es ++ [(enc (8 * k + a), v, 0)]).length
        rw [List.length_append, List.length_singleton]; omega
      unfold wX12_round_j139
      rw [nI_1]
      have := IH τ4 (by omega) (by omega) (hF.tr (F4.mono (fun a' i y => by have y := of_decide_eq_false y; exact decide_eq_false (by omega)))) C4
      rw [← ed] at this
      exact fe this
    · have eE : plE Γ p v (8 * k + a) T1 = T1 := by unfold plE; rw [if_neg hno]
      rw [eE] at IH
      unfold wX12_round_j139
      rw [nI_1]
      exact fe (IH τ (by omega) (by omega) hF hC)
end ML
