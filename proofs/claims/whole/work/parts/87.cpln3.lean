/-! ===== plans, the class's: all productions ===== -/
section CL
variable {σ : ab_S} {g p B v : Nat} {Γ : GRT} {T : PLT} {E : String → ab_S → Prop}
theorem c_bsy (hV : GRV Γ) (hL : LVF Γ) (hp : p < Γ.2.1) (hX : CX σ g Γ) (hBp : B ≤ 47 * p) {Q : ab_S → Prop} {K134 : Int32 → Int32 → ab_S → Prop} {x2 : Int32} : ∀ f T τ, f ≤ 48 → plI Γ p T → FM (Spe p B) σ τ → CPl τ B p T → (∀ τ', FM (Spe p B) σ τ' → CPl τ' B p (plL Γ p v f T) → K134 x2 (nI v) τ') → wX4_makeAll_l82 (nI p) Q E K134 (f + 2) x2 (nI v) 1 (nI (48 - f)) τ := by
  intro f
  induction f with
  | zero =>
    intro T τ hf hI hF hC h
    exact no (by decide) (yes (by simp (disch := omega) only [nI_lit, nI_add, nI_mulE, nI_clampE, nI_eqE, nI_leE, nI_ltE, vp_nIE, true_and, and_true]; omega) (h τ hF hC))
  | succ f ih =>
    intro T τ hf hI hF hC h
    have X1 := hX.pe hV hF
    show wX4_makeAll_l82_b (nI p) Q E K134 (wX4_makeAll_l82 (nI p) Q E K134 (f + 2)) x2 (nI v) 1 (nI (48 - (f + 1))) τ
    unfold wX4_makeAll_l82_b
    refine no (by decide) (no (by simp (disch := omega) only [nI_lit, nI_add, nI_mulE, nI_clampE, nI_eqE, nI_leE, nI_ltE, vp_nIE, true_and, and_true]; omega) ?_)
    rw [hC.1]
    refine fe ?_
    refine c_evR (v := v) hV hL hp X1 hBp hI hC (fun τ1 F1 C1 => ?_)
    have I1 := plI_Es (v := v) hV hp 32 hI
    refine c_viR (v := v) hV hL hp (X1.pe hV F1) hBp I1 C1 (fun τ2 F2 C2 => ?_)
    have F12 := (hF.tr F1).tr F2
    have IR := plI_R (v := v) hL hV hp hI
    have C2 : CPl τ2 B p (plR Γ p v T) := C2
    have l1 := plI_47 hI
    have l2 := plI_47 IR
    have hp30 := hV.2.1
    rw [C2.1]
    rw [plL] at h
    by_cases hb : T.es.length < (plR Γ p v T).es.length
    · rw [if_pos hb] at h
      refine no (by simp (disch := omega) only [nI_lit, nI_add, nI_mulE, nI_clampE, nI_eqE, nI_leE, nI_ltE, vp_nIE, true_and, and_true]; omega) ?_
      unfold wX4_makeAll_j126
      rw [nI_1, show 48 - (f + 1) + 1 = 48 - f by omega]
      exact fe (ih _ τ2 (by omega) IR F12 C2 h)
    · rw [if_neg hb] at h
      refine yes (by simp (disch := omega) only [nI_lit, nI_add, nI_mulE, nI_clampE, nI_eqE, nI_leE, nI_ltE, vp_nIE, true_and, and_true]; omega) ?_
      unfold wX4_makeAll_j126
      rw [nI_1]
      refine fe ?_
      show wX4_makeAll_l82_b (nI p) Q E K134 (wX4_makeAll_l82 (nI p) Q E K134 (f + 1)) x2 (nI v) 0 _ τ2
      unfold wX4_makeAll_l82_b
      exact yes rfl (h τ2 F12 C2)
/-- the plan of p, made -/
def CPf (σ : ab_S) (Γ : GRT) (p : Nat) : Prop := (∀ v, 1 ≤ v → v ≤ svs Γ (hdS Γ p) + 1 → σ.2.1 15 (p * 7 + v) = nI (plB Γ p + plF Γ p v)) ∧ (∀ i, i < plN Γ p → σ.2.1 12 (plB Γ p + i) = nI ((plP Γ p).es.getD i (0, 0, 0)).1 ∧ σ.2.1 13 (plB Γ p + i) = nI ((plP Γ p).es.getD i (0, 0, 0)).2.1 ∧ σ.2.1 14 (plB Γ p + i) = nI ((plP Γ p).es.getD i (0, 0, 0)).2.2) ∧ (∀ x, x < 32 → (plP Γ p).ev x = true → σ.2.1 16 (p * 32 + x) = nI (plB Γ p + (plP Γ p).ea x)) ∧ ∀ o w, o < 4 → 1 ≤ w → w ≤ (plP Γ p).vs o → σ.2.1 17 ((p * 4 + o) * 7 + w) = nI (plB Γ p + (plP Γ p).va o w)
theorem c_mkA (hV : GRV Γ) (hL : LVF Γ) (hp : p < Γ.2.1) (hX : CX σ g Γ) (h8 : σ.2.1 11 8 = nI (plB Γ p)) {Q : ab_S → Prop} (h : ∀ τ, FM (Spl p (plB Γ p)) σ τ → CPf τ Γ p → τ.2.1 11 8 = nI (plB Γ (p + 1)) → Q τ) : wX4_makeAll (nI p) Q E σ := by
  have h30 := hV.2.1
  have h12 := hV.1.1
  have hgb := isG_b hX.1
  have hpv := (hV.2.2.2 p hp).2.1
  have hB := plB_le hL hV p (by omega)
  have O1 := hX.2.2.1.of hV hX.1 hp
  obtain ⟨o1, o2⟩ := O1.2.2.2.2.2.1 0 (by omega)
  have hvis := hL.vis _ o2
  have c8 := (O1.2.2.2.2.2.2 _ o2).2
  unfold wX4_makeAll
  refine ⟨g, hX.2.1, hX.1, ?_⟩
  unfold wX0_symbolAt
  have e4 : nI p * 4 + 0 = nI (p * 4 + 0) := by show nI p * nI 4 + nI 0 = _; rw [nI_mulE, nI_add]
  rw [e4, nI_clampE (by omega), o1]
  refine ⟨by simp (disch := omega) only [nI_lit, nI_add, nI_mulE, nI_clampE, nI_eqE, nI_leE, nI_ltE, vp_nIE, true_and, and_true]; omega, fe (fe ?_)⟩
  refine c_fl2 (by omega) (fun τ0 F0 v0 => ⟨svs Γ (hdS Γ p) + 1, ?_⟩)
  have G0 : FM (fun a i => decide ((a = 11 ∧ (i = 9 ∨ i = 10)) ∨ a = 18)) σ τ0 := (((FM.rf _ σ).I (by simp)).I (by simp)).tr (F0.mono (fun a i y => by have y := of_decide_eq_false y; exact decide_eq_false (by omega)))
  have w9 : τ0.2.1 11 9 = 0 := by rw [F0.1 _ _ (decide_eq_false (by omega))]; simp [gI_I]
  have w10 : τ0.2.1 11 10 = 0 := by rw [F0.1 _ _ (decide_eq_false (by omega))]; simp [gI_I]
  have F00 : FM (Spl p (plB Γ p)) σ τ0 := G0.mono (fun a i y => by have y := of_decide_eq_false y; exact decide_eq_false (by omega))
  have C0 : CPl τ0 (plB Γ p) p pl0 := by
    refine ⟨by rw [G0.1 _ _ (decide_eq_false (by omega))]; exact h8, ?_, ?_, fun o ho => ?_, fun i hi => absurd hi (Nat.not_lt_zero _), fun x _ hx => absurd hx Bool.false_ne_true, fun o w _ w1 w2 => by have w2 : w ≤ 0 := w2; omega⟩
    · rw [w9]; exact B32.z
    · rw [w10]; exact B32.z
    · rw [v0 o (by omega)]; rfl
  have hs0 : (Γ.2.2.1 p).2.2.1 0 = hdS Γ p := rfl
  rw [hs0] at o1 o2 hvis c8 ⊢
  suffices H : ∀ f k τ, svs Γ (hdS Γ p) - k = f → k ≤ svs Γ (hdS Γ p) → FM (Spl p (plB Γ p)) σ τ → CPl τ (plB Γ p) p (plA Γ p k pl0) → (∀ v, 1 ≤ v → v ≤ k → τ.2.1 15 (p * 7 + v) = nI (plB Γ p + plF Γ p v)) → wX4_makeAll_l30 (nI p) Q E (wX4_makeAll_j140 (nI p) Q E) (f + 1) (nI (hdS Γ p)) (nI (k + 1)) τ from H _ 0 τ0 rfl (Nat.zero_le _) F00 C0 (fun v v1 v2 => by omega)
  intro f
  induction f with
  | zero =>
    intro k τ hf hk hF hC hv
    have e : k = svs Γ (hdS Γ p) := by omega
    have X1 := hX.pl hV hF
    show wX4_makeAll_l30_b _ _ _ _ _ _ _ _
    unfold wX4_makeAll_l30_b
    refine ⟨g, X1.2.1, X1.1, ?_⟩
    have evs : vp_in (nI (hdS Γ p)) 12 := by simp (disch := omega) only [nI_lit, nI_add, nI_mulE, nI_clampE, nI_eqE, nI_leE, nI_ltE, vp_nIE, true_and, and_true]; omega
    rw [nI_clampE (by omega), (X1.2.2.2 _ o2).2]
    refine ⟨evs, yes (by simp (disch := omega) only [nI_lit, nI_add, nI_mulE, nI_clampE, nI_eqE, nI_leE, nI_ltE, vp_nIE, true_and, and_true]; omega) ?_⟩
    unfold wX4_makeAll_j140
    refine ⟨g, X1.2.1, X1.1, ?_⟩
    rw [nI_clampE (show hdS Γ p < 2147483648 by omega), (X1.2.2.2 _ o2).2]
    have e7 : nI p * 7 + nI (svs Γ (hdS Γ p)) + 1 = nI (p * 7 + (svs Γ (hdS Γ p) + 1)) := by show nI p * nI 7 + _ + nI 1 = _; rw [nI_mulE, nI_add, nI_add]; congr 1
    rw [e7, nI_clampE (by omega)]
    refine ⟨evs, by simp (disch := omega) only [nI_lit, nI_add, nI_mulE, nI_clampE, nI_eqE, nI_leE, nI_ltE, vp_nIE, true_and, and_true]; omega, fe ?_⟩
    subst e
    have eN : plB Γ p + (plA Γ p (svs Γ (hdS Γ p)) pl0).es.length = plB Γ (p + 1) := rfl
    refine h _ (hF.I (decide_eq_true (by omega))) ⟨fun v v1 v2 => ?_, fun i hi => ?_, fun x hx hex => ?_, fun o w ho w1 w2 => ?_⟩ ?_
    · rw [gI_I, if_pos rfl]
      by_cases ev : v = svs Γ (hdS Γ p) + 1
      · rw [if_pos (by omega), hC.1, ev]; rfl
      · rw [if_neg (by omega)]; exact hv v v1 (by omega)
    · rw [gI_I, if_neg (by omega), gI_I, if_neg (by omega), gI_I, if_neg (by omega)]; exact hC.2.2.2.2.1 i hi
    · rw [gI_I, if_neg (by omega)]; exact hC.2.2.2.2.2.1 x hx hex
    · rw [gI_I, if_neg (by omega)]; exact hC.2.2.2.2.2.2 o w ho w1 w2
    · rw [gI_I, if_neg (by omega), ← eN]; exact hC.1
  | succ f ih =>
    intro k τ hf hk hF hC hv
    have X1 := hX.pl hV hF
    have evs : vp_in (nI (hdS Γ p)) 12 := by simp (disch := omega) only [nI_lit, nI_add, nI_mulE, nI_clampE, nI_eqE, nI_leE, nI_ltE, vp_nIE, true_and, and_true]; omega
    have IA := plI_A hL hV hp k
    show wX4_makeAll_l30_b (nI p) Q E (wX4_makeAll_j140 (nI p) Q E) (wX4_makeAll_l30 (nI p) Q E (wX4_makeAll_j140 (nI p) Q E) (f + 1)) (nI (hdS Γ p)) (nI (k + 1)) τ
    unfold wX4_makeAll_l30_b
    refine ⟨g, X1.2.1, X1.1, ?_⟩
    have e7 : nI p * 7 + nI (k + 1) = nI (p * 7 + (k + 1)) := by show nI p * nI 7 + _ = _; rw [nI_mulE, nI_add]
    rw [e7, nI_clampE (show hdS Γ p < 2147483648 by omega), nI_clampE (show p * 7 + (k + 1) < 2147483648 by omega), (X1.2.2.2 _ o2).2, hC.1]
    refine ⟨evs, no (by simp (disch := omega) only [nI_lit, nI_add, nI_mulE, nI_clampE, nI_eqE, nI_leE, nI_ltE, vp_nIE, true_and, and_true]; omega) ⟨by simp (disch := omega) only [nI_lit, nI_add, nI_mulE, nI_clampE, nI_eqE, nI_leE, nI_ltE, vp_nIE, true_and, and_true]; omega, fe ?_⟩⟩
    generalize hτ1 : ab_I τ 15 (p * 7 + (k + 1)) (nI (plB Γ p + (plA Γ p k pl0).es.length)) = τ1
    have F1 : FM (fun a i => decide (a = 15 ∧ i = p * 7 + (k + 1))) τ τ1 := by rw [← hτ1]; exact (FM.rf _ τ).I (by simp)
    have v15 : τ1.2.1 15 (p * 7 + (k + 1)) = nI (plB Γ p + plF Γ p (k + 1)) := by rw [← hτ1, gI_I, if_pos rfl, if_pos rfl]; rfl
    have F01 : FM (Spl p (plB Γ p)) σ τ1 := hF.tr (F1.mono (fun a i y => by have y := of_decide_eq_false y; exact decide_eq_false (by omega)))
    have X2 := hX.pl hV F01
    refine ⟨g, X2.2.1, X2.1, ?_⟩
    refine c_dns X2 hV hL o2 (by omega) (fun x hx => fe ⟨50, ?_⟩)
    generalize hτ2 : ab_I τ1 11 9 (τ1.2.1 11 9 ||| x) = τ2
    have F2 : FM (fun a i => decide (a = 11 ∧ i = 9)) τ1 τ2 := by rw [← hτ2]; exact (FM.rf _ τ1).I (by simp)
    have w9 : τ2.2.1 11 9 = τ.2.1 11 9 ||| x := by rw [← hτ2, gI_I, if_pos rfl, if_pos rfl, F1.1 _ _ (decide_eq_false (by omega))]
    have F02 : FM (Spl p (plB Γ p)) σ τ2 := F01.tr (F2.mono (fun a i y => by have y := of_decide_eq_false y; exact decide_eq_false (by omega)))
    have q : ∀ a i, ¬ (a = 15 ∧ i = p * 7 + (k + 1)) → ¬ (a = 11 ∧ i = 9) → τ2.2.1 a i = τ.2.1 a i := fun a i y1 y2 => by rw [F2.1 _ _ (decide_eq_false y2), F1.1 _ _ (decide_eq_false y1)]
    obtain ⟨d1, d2, d3, d4, d5, d6, d7⟩ := hC
    have C2 : CPl τ2 (plB Γ p) p (plD Γ p (k + 1) (plA Γ p k pl0)) := by
      refine ⟨by rw [q _ _ (by omega) (by omega)]; exact d1, ?_, by rw [q _ _ (by omega) (by omega)]; exact d3, fun o ho => by rw [q _ _ (by omega) (by omega)]; exact d4 o ho, fun i hi => by rw [q _ _ (by omega) (by omega), q _ _ (by omega) (by omega), q _ _ (by omega) (by omega)]; exact d5 i hi, fun y hy hey => by rw [q _ _ (by omega) (by omega)]; exact d6 y hy hey, fun o w ho w1 w2 => by rw [q _ _ (by omega) (by omega)]; exact d7 o w ho w1 w2⟩
      rw [w9]
      have hb := addV_b (p := p) (t8 := 0) (o := 0) (w := k + 1) (d := true) (by omega) c8 d2 hx
      have ez : x <<< (nI (8 * 0) &&& 31) = x := by
        apply b_ext
        intro i hi
        rw [show (8 * 0 : Nat) = 0 from rfl, b_shl 0 (by omega) _ hi, Nat.sub_zero]; simp
      rw [ez] at hb
      exact hb
    have ID : plI Γ p (plD Γ p (k + 1) (plA Γ p k pl0)) := IA
    refine c_bsy (σ := τ2) (v := k + 1) hV hL hp (hX.pl hV F02) hB 48 _ τ2 (Nat.le_refl _) ID (FM.rf _ _) C2 (fun τ3 F3 C3 => ?_)
    unfold wX4_makeAll_j134
    rw [nI_1]
    refine fe (ih (k + 1) τ3 (by omega) (by omega) (F02.tr (F3.mono Spe_Spl)) C3 (fun v v1 v2 => ?_))
    rw [F3.1 _ _ (decide_eq_false (by omega)), F2.1 _ _ (decide_eq_false (by omega))]
    by_cases ev : v = k + 1
    · rw [ev]; exact v15
    · rw [F1.1 _ _ (decide_eq_false (by omega))]; exact hv v v1 (by omega)
/-- all plans -/
theorem c_mk (hV : GRV Γ) (hL : LVF Γ) (hg : isG g) (hC : CGr σ g Γ) (hCl : CLs σ g Γ) {Q : ab_S → Prop} (h : ∀ τ, FM (fun a i => decide ((a = 11 ∧ 7 ≤ i ∧ i ≤ 10) ∨ (12 ≤ a ∧ a ≤ 18))) σ τ → CX τ g Γ → (∀ p, p < Γ.2.1 → CPf τ Γ p) → Q τ) : wX4_make g Q E σ := by
  have h30 := hV.2.1
  have hgb := isG_b hg
  unfold wX4_make
  refine fe (fe ⟨Γ.2.1 + 1, ?_⟩)
  generalize hσ1 : ab_I (ab_R σ 11 7 (some g)) 11 8 0 = σ1
  have F1 : FM (fun a i => decide ((a = 11 ∧ 7 ≤ i ∧ i ≤ 10) ∨ (12 ≤ a ∧ a ≤ 18))) σ σ1 := by
    rw [← hσ1]
    have F0 : FM (fun a i => decide ((a = 11 ∧ 7 ≤ i ∧ i ≤ 10) ∨ (12 ≤ a ∧ a ≤ 18))) σ (ab_R σ 11 7 (some g)) := by
      refine ⟨fun a i _ => rfl, fun a i _ => rfl, fun a i z => ?_⟩
      have z := of_decide_eq_false z
      rw [gR_R]
      by_cases e : a = 11
      · rw [if_pos e, if_neg (by omega), e]
      · rw [if_neg e]
    exact F0.I (decide_eq_true (by omega))
  have X1 : CX σ1 g Γ := ⟨hg, by rw [← hσ1, gR_I, gR_R, if_pos rfl, if_pos rfl], hC.fm hV F1 (fun k i hk => decide_eq_false (by omega)), fun s hs => ⟨fun a ha => by rw [F1.1 _ _ (decide_eq_false (by omega))]; exact (hCl s hs).1 a ha, by rw [F1.1 _ _ (decide_eq_false (by omega))]; exact (hCl s hs).2⟩⟩
  have w8 : σ1.2.1 11 8 = nI (plB Γ 0) := by rw [← hσ1]; simp [gI_I]; rfl
  suffices H : ∀ f p τ, Γ.2.1 - p = f → p ≤ Γ.2.1 → FM (fun a i => decide ((a = 11 ∧ 7 ≤ i ∧ i ≤ 10) ∨ (12 ≤ a ∧ a ≤ 18))) σ τ → CX τ g Γ → τ.2.1 11 8 = nI (plB Γ p) → (∀ p', p' < p → CPf τ Γ p') → wX4_make_l12 g Q E (f + 1) (nI p) τ from H Γ.2.1 0 σ1 rfl (Nat.zero_le _) F1 X1 w8 (fun p' hp' => absurd hp' (by omega))
  intro f
  induction f with
  | zero =>
    intro p τ hf hp hF hX h8 hP
    show wX4_make_l12_b _ _ _ _ _ _
    unfold wX4_make_l12_b
    rw [hX.2.2.1.2.1]
    exact yes (by simp (disch := omega) only [nI_lit, nI_add, nI_mulE, nI_clampE, nI_eqE, nI_leE, nI_ltE, vp_nIE, true_and, and_true]; omega) (h τ hF hX (fun p' hp' => hP p' (by omega)))
  | succ f ih =>
    intro p τ hf hp hF hX h8 hP
    show wX4_make_l12_b g Q E (wX4_make_l12 g Q E (f + 1)) (nI p) τ
    unfold wX4_make_l12_b
    rw [hX.2.2.1.2.1, nI_1]
    refine no (by simp (disch := omega) only [nI_lit, nI_add, nI_mulE, nI_clampE, nI_eqE, nI_leE, nI_ltE, vp_nIE, true_and, and_true]; omega) ?_
    refine c_mkA hV hL (by omega) hX h8 (fun τ2 F2 C2 w2 => fe ?_)
    refine ih (p + 1) τ2 (by omega) (by omega) (hF.tr (F2.mono (fun a i y => by have y := of_decide_eq_false y; exact decide_eq_false (by omega)))) (hX.pl hV F2) w2 (fun p' hp' => ?_)
    by_cases e : p' = p
    · rw [e]; exact C2
    · obtain ⟨a1, a2, a3, a4⟩ := hP p' (by omega)
      have hmono : ∀ j, p' + 1 + j ≤ p → plB Γ (p' + 1) ≤ plB Γ (p' + 1 + j) := by
        intro j
        induction j with
        | zero => intro _; exact Nat.le_refl _
        | succ j ihj => intro hj; have := ihj (by omega); have e2 : plB Γ (p' + 1 + (j + 1)) = plB Γ (p' + 1 + j) + plN Γ (p' + 1 + j) := rfl; omega
      have hmn := hmono (p - (p' + 1)) (by omega)
      rw [show p' + 1 + (p - (p' + 1)) = p by omega] at hmn
      have eN : plB Γ (p' + 1) = plB Γ p' + plN Γ p' := rfl
      have hp'v := (hL.vis _ ((hV.2.2.2 p' (by omega)).2.1.2.1 0 (Nat.zero_le _))).2
      have hp'v : svs Γ (hdS Γ p') ≤ 5 := hp'v
      have hI' := plI_A hL hV (p := p') (by omega) (svs Γ (hdS Γ p'))
      refine ⟨fun v v1 v2 => ?_, fun i hi => ?_, fun x hx hex => ?_, fun o w ho w1 w2 => ?_⟩
      · rw [F2.1 _ _ (decide_eq_false (by omega))]; exact a1 v v1 v2
      · rw [F2.1 _ _ (decide_eq_false (by omega)), F2.1 _ _ (decide_eq_false (by omega)), F2.1 _ _ (decide_eq_false (by omega))]; exact a2 i hi
      · rw [F2.1 _ _ (decide_eq_false (by omega))]; exact a3 x hx hex
      · have h5 : w ≤ 5 := Nat.le_trans w2 (hI'.2.1 o).1
        rw [F2.1 _ _ (decide_eq_false (by omega))]; exact a4 o w ho w1 w2
end CL
