/-! ===== plans, the model's: all productions ===== -/
def Zs (p : Nat) : Nat → Nat → Bool := fun a i => decide (a = 120 ∨ a = 121 ∨ (a = 116 ∧ 32 * p ≤ i ∧ i < 32 * p + 32) ∨ (a = 118 ∧ 24 * p ≤ i ∧ i < 24 * p + 24))
def Sq (p B : Nat) : Nat → Nat → Bool := fun a i => decide ((a = 92 ∧ i = 28) ∨ (a = 113 ∧ B ≤ i) ∨ ((a = 114 ∨ a = 115) ∧ 6 * p ≤ i ∧ i < 6 * p + 6) ∨ ((a = 116 ∨ a = 117) ∧ 32 * p ≤ i ∧ i < 32 * p + 32) ∨ ((a = 118 ∨ a = 119) ∧ 24 * p ≤ i ∧ i < 24 * p + 24) ∨ a = 120 ∨ a = 121)
theorem MXg.pq {σ σ' : ab_S} {Γ : GRT} {p B : Nat} (h : MXg σ Γ) (hV : GRV Γ) (f : FM (Sq p B) σ σ') : MXg σ' Γ := h.fm hV f ⟨decide_eq_false (by omega), decide_eq_false (by omega), decide_eq_false (by omega)⟩ (fun a i h1 h2 => decide_eq_false (by omega))
theorem Spm_Sq {p B a i : Nat} (h : Sq p B a i = false) : Spm p B a i = false := by have h := of_decide_eq_false h; exact decide_eq_false (by omega)
section ML
variable {σ τ τ' : ab_S} {p B v x o : Nat} {Γ : GRT} {T : PLT} {E : String → ab_S → Prop}
theorem m_l138 (hX : MXg σ Γ) (hV : GRV Γ) (hL : LVF Γ) (hp : p < Γ.2.1) (hB : B ≤ 47 * p) (h1 : 1 ≤ v) (h5 : v ≤ 5) {Q : ab_S → Prop} {K152 : Int32 → Int32 → ab_S → Prop} : ∀ f T τ, 48 ≤ T.es.length + f → plI Γ p T → plJ T → FM (Spm p B) σ τ → MPl τ B p T → (∀ τ', FM (Spm p B) σ τ' → MPl τ' B p (plL Γ p v f T) → K152 (nI p) (nI v) τ') → wX12_makePlans_l138 Q E K152 (f + 2) (nI p) (nI v) 1 τ := by
  intro f
  induction f with
  | zero =>
    intro T τ hf hI hJ hF hC h
    have := plI_47 hI
    omega
  | succ f ih =>
    intro T τ hf hI hJ hF hC h
    have X1 := hX.pm hV hF
    show wX12_makePlans_l138_b Q E K152 (wX12_makePlans_l138 Q E K152 (f + 2)) (nI p) (nI v) 1 τ
    unfold wX12_makePlans_l138_b
    refine no (by decide) ?_
    refine m_round X1 hV hL hp hB h1 h5 hI hJ hC (fun τ1 F1 C1 => ?_)
    have IR := plI_R (v := v) hL hV hp hI
    have JR : plJ (plR Γ p v T) := plJ_Vs h1 h5 _ (plJ_Es h1 h5 32 hJ)
    rw [plL] at h
    unfold dd
    by_cases hb : T.es.length < (plR Γ p v T).es.length
    · rw [if_pos hb] at h ⊢
      exact ih _ τ1 (by omega) IR JR (hF.tr F1) C1 h
    · rw [if_neg hb] at h ⊢
      show wX12_makePlans_l138_b Q E K152 (wX12_makePlans_l138 Q E K152 (f + 1)) (nI p) (nI v) 0 τ1
      unfold wX12_makePlans_l138_b
      exact yes rfl (h τ1 (hF.tr F1) C1)
theorem m_z70 (hp : p < 30) {Q : ab_S → Prop} {K94 : Int32 → ab_S → Prop} (h : ∀ τ, FM (Zs p) σ τ → (∀ a i, ¬ a = 118 → τ.2.1 a i = σ.2.1 a i) → (∀ j, j < 24 → τ.2.1 118 (24 * p + j) = 0) → K94 (nI p) τ) : ∃ n, wX12_makePlans_l70 Q E K94 n (nI p) 0 σ := by
  refine ⟨25, ?_⟩
  suffices H : ∀ f j τ, 24 - j = f → j ≤ 24 → FM (Zs p) σ τ → (∀ a i, ¬ a = 118 → τ.2.1 a i = σ.2.1 a i) → (∀ i, i < j → τ.2.1 118 (24 * p + i) = 0) → wX12_makePlans_l70 Q E K94 (f + 1) (nI p) (nI j) τ from H 24 0 σ rfl (Nat.zero_le _) (FM.rf _ _) (fun _ _ _ => rfl) (fun i hi => absurd hi (Nat.not_lt_zero _))
  intro f
  induction f with
  | zero =>
    intro j τ hf hj hF hS hZ
    show wX12_makePlans_l70_b _ _ _ _ _ _ _
    unfold wX12_makePlans_l70_b
    exact yes (by simp (disch := omega) only [nI_lit, nI_add, nI_mulE, nI_clampE, nI_eqE, nI_leE, nI_ltE, vp_nIE, true_and, and_true]; omega) (h τ hF hS (fun i hi => hZ i (by omega)))
  | succ f ih =>
    intro j τ hf hj hF hS hZ
    show wX12_makePlans_l70_b Q E K94 (wX12_makePlans_l70 Q E K94 (f + 1)) (nI p) (nI j) τ
    unfold wX12_makePlans_l70_b
    have e : (24 : Int32) * nI p + nI j = nI (24 * p + j) := by show nI 24 * nI p + _ = _; rw [nI_mulE, nI_add]
    rw [e, nI_clampE (show 24 * p + j < 2147483648 by omega), nI_1]
    refine no (by simp (disch := omega) only [nI_lit, nI_add, nI_mulE, nI_clampE, nI_eqE, nI_leE, nI_ltE, vp_nIE, true_and, and_true]; omega) ⟨by simp (disch := omega) only [nI_lit, nI_add, nI_mulE, nI_clampE, nI_eqE, nI_leE, nI_ltE, vp_nIE, true_and, and_true]; omega, fe (fe (ih (j + 1) _ (by omega) (by omega) (hF.I (decide_eq_true (by omega))) (fun a i ha => ?_) (fun i hi => ?_)))⟩
    · rw [gI_I, if_neg ha]; exact hS a i ha
    · rw [gI_I, if_pos rfl]
      by_cases ei : i = j
      · rw [if_pos (by omega)]
      · rw [if_neg (by omega)]; exact hZ i (by omega)
theorem m_z50 (hp : p < 30) {Q : ab_S → Prop} {K68 : Int32 → ab_S → Prop} (h : ∀ τ, FM (Zs p) σ τ → (∀ a i, ¬ a = 121 → τ.2.1 a i = σ.2.1 a i) → (∀ j, j < 4 → τ.2.1 121 j = 0) → K68 (nI p) τ) : ∃ n, wX12_makePlans_l50 Q E K68 n (nI p) 0 σ := by
  refine ⟨5, ?_⟩
  suffices H : ∀ f j τ, 4 - j = f → j ≤ 4 → FM (Zs p) σ τ → (∀ a i, ¬ a = 121 → τ.2.1 a i = σ.2.1 a i) → (∀ i, i < j → τ.2.1 121 i = 0) → wX12_makePlans_l50 Q E K68 (f + 1) (nI p) (nI j) τ from H 4 0 σ rfl (Nat.zero_le _) (FM.rf _ _) (fun _ _ _ => rfl) (fun i hi => absurd hi (Nat.not_lt_zero _))
  intro f
  induction f with
  | zero =>
    intro j τ hf hj hF hS hZ
    show wX12_makePlans_l50_b _ _ _ _ _ _ _
    unfold wX12_makePlans_l50_b
    exact yes (by simp (disch := omega) only [nI_lit, nI_add, nI_mulE, nI_clampE, nI_eqE, nI_leE, nI_ltE, vp_nIE, true_and, and_true]; omega) (h τ hF hS (fun i hi => hZ i (by omega)))
  | succ f ih =>
    intro j τ hf hj hF hS hZ
    show wX12_makePlans_l50_b Q E K68 (wX12_makePlans_l50 Q E K68 (f + 1)) (nI p) (nI j) τ
    unfold wX12_makePlans_l50_b
    rw [nI_clampE (show j < 2147483648 by omega), nI_1]
    refine no (by simp (disch := omega) only [nI_lit, nI_add, nI_mulE, nI_clampE, nI_eqE, nI_leE, nI_ltE, vp_nIE, true_and, and_true]; omega) ⟨by simp (disch := omega) only [nI_lit, nI_add, nI_mulE, nI_clampE, nI_eqE, nI_leE, nI_ltE, vp_nIE, true_and, and_true]; omega, fe (fe (ih (j + 1) _ (by omega) (by omega) (hF.I (decide_eq_true (by omega))) (fun a i ha => ?_) (fun i hi => ?_)))⟩
    · rw [gI_I, if_neg ha]; exact hS a i ha
    · rw [gI_I, if_pos rfl]
      by_cases ei : i = j
      · rw [if_pos (by omega)]
      · rw [if_neg (by omega)]; exact hZ i (by omega)
theorem m_z17 (hp : p < 30) {Q : ab_S → Prop} {K48 : Int32 → ab_S → Prop} (h : ∀ τ, FM (Zs p) σ τ → (∀ j, j < 32 → τ.2.1 120 j = 0 ∧ τ.2.1 116 (32 * p + j) = 0) → K48 (nI p) τ) : ∃ n, wX12_makePlans_l17 Q E K48 n (nI p) 0 σ := by
  refine ⟨33, ?_⟩
  suffices H : ∀ f j τ, 32 - j = f → j ≤ 32 → FM (Zs p) σ τ → (∀ i, i < j → τ.2.1 120 i = 0 ∧ τ.2.1 116 (32 * p + i) = 0) → wX12_makePlans_l17 Q E K48 (f + 1) (nI p) (nI j) τ from H 32 0 σ rfl (Nat.zero_le _) (FM.rf _ _) (fun i hi => absurd hi (Nat.not_lt_zero _))
  have en : vp_nar .boolean (0 : Int32) = 0 := by decide
  intro f
  induction f with
  | zero =>
    intro j τ hf hj hF hZ
    show wX12_makePlans_l17_b _ _ _ _ _ _ _
    unfold wX12_makePlans_l17_b
    exact yes (by simp (disch := omega) only [nI_lit, nI_add, nI_mulE, nI_clampE, nI_eqE, nI_leE, nI_ltE, vp_nIE, true_and, and_true]; omega) (h τ hF (fun i hi => hZ i (by omega)))
  | succ f ih =>
    intro j τ hf hj hF hZ
    show wX12_makePlans_l17_b Q E K48 (wX12_makePlans_l17 Q E K48 (f + 1)) (nI p) (nI j) τ
    unfold wX12_makePlans_l17_b
    have e : (32 : Int32) * nI p + nI j = nI (32 * p + j) := by show nI 32 * nI p + _ = _; rw [nI_mulE, nI_add]
    rw [e, nI_clampE (show j < 2147483648 by omega), nI_clampE (show 32 * p + j < 2147483648 by omega), nI_1, en]
    refine no (by simp (disch := omega) only [nI_lit, nI_add, nI_mulE, nI_clampE, nI_eqE, nI_leE, nI_ltE, vp_nIE, true_and, and_true]; omega) ⟨by simp (disch := omega) only [nI_lit, nI_add, nI_mulE, nI_clampE, nI_eqE, nI_leE, nI_ltE, vp_nIE, true_and, and_true]; omega, fe ⟨by simp (disch := omega) only [nI_lit, nI_add, nI_mulE, nI_clampE, nI_eqE, nI_leE, nI_ltE, vp_nIE, true_and, and_true]; omega, fe (fe (ih (j + 1) _ (by omega) (by omega) ((hF.I (decide_eq_true (by omega))).I (decide_eq_true (by omega))) (fun i hi => ⟨?_, ?_⟩)))⟩⟩
    · rw [gI_I, if_neg (by omega), gI_I, if_pos rfl]
      by_cases ei : i = j
      · rw [if_pos (by omega)]
      · rw [if_neg (by omega)]; exact (hZ i (by omega)).1
    · rw [gI_I, if_pos rfl]
      by_cases ei : i = j
      · rw [if_pos (by omega)]
      · rw [if_neg (by omega), gI_I, if_neg (by omega)]; exact (hZ i (by omega)).2
/-- the plan of p, made -/
def MPf (σ : ab_S) (Γ : GRT) (p : Nat) : Prop := (∀ v, 1 ≤ v → v ≤ svs Γ (hdS Γ p) → σ.2.1 114 (6 * p + v) = nI (plB Γ p + plF Γ p v) ∧ σ.2.1 115 (6 * p + v) = nI (plB Γ p + plF Γ p (v + 1))) ∧ (∀ i, i < plN Γ p → σ.2.1 113 (plB Γ p + i) = nI ((plP Γ p).es.getD i (0, 0, 0)).1) ∧ (∀ x, x < 32 → σ.2.1 116 (32 * p + x) = nI (if (plP Γ p).ev x then ((plP Γ p).es.getD ((plP Γ p).ea x) (0, 0, 0)).2.1 else 0)) ∧ (∀ x, x < 32 → (plP Γ p).ev x = true → σ.2.1 117 (32 * p + x) = nI (plB Γ p + (plP Γ p).ea x)) ∧ (∀ o w, o < 4 → w < 6 → σ.2.1 118 (24 * p + 6 * o + w) = nI (if 1 ≤ w ∧ w ≤ (plP Γ p).vs o then ((plP Γ p).es.getD ((plP Γ p).va o w) (0, 0, 0)).2.1 else 0)) ∧ ∀ o w, o < 4 → 1 ≤ w → w ≤ (plP Γ p).vs o → σ.2.1 119 (24 * p + 6 * o + w) = nI (plB Γ p + (plP Γ p).va o w)
theorem m_mkA (hX : MXg σ Γ) (hV : GRV Γ) (hL : LVF Γ) (hp : p < Γ.2.1) (h28 : σ.2.1 92 28 = nI (plB Γ p)) {Q : ab_S → Prop} {Bk : Int32 → ab_S → Prop} (h : ∀ τ, FM (Sq p (plB Γ p)) σ τ → MPf τ Γ p → τ.2.1 92 28 = nI (plB Γ (p + 1)) → Bk (nI (p + 1)) τ) : ∃ n, wX12_makePlans_l17 Q E (wX12_makePlans_j48 Q E Bk) n (nI p) 0 σ := by
  have h30 := hV.2.1
  have h12 := hV.1.1
  have hpv := (hV.2.2.2 p hp).2.1
  have h3 := hpv.1
  have hB := plB_le hL hV p (by omega)
  have hs : hdS Γ p < Γ.1.1 := hpv.2.1 0 (Nat.zero_le _)
  have c8 := (hV.1.2.2 _ hs).2.1
  have hvis := hL.vis _ hs
  refine m_z17 (by omega) (fun τ1 F1 z1 => ?_)
  unfold wX12_makePlans_j48
  refine m_z50 (by omega) (fun τ2 F2 s2 z2 => ?_)
  unfold wX12_makePlans_j68
  refine m_z70 (by omega) (fun τ0 F3 s3 z3 => ?_)
  unfold wX12_makePlans_j94
  have F00 : FM (Sq p (plB Γ p)) σ τ0 := ((F1.tr F2).tr F3).mono (fun a i y => by have y := of_decide_eq_false y; exact decide_eq_false (by omega))
  have w28 : τ0.2.1 92 28 = nI (plB Γ p) := by rw [((F1.tr F2).tr F3).1 _ _ (decide_eq_false (by omega))]; exact h28
  have C0 : MPl τ0 (plB Γ p) p pl0 := by
    refine ⟨w28, fun x hx => ?_, fun o ho => ?_, fun i hi => absurd hi (Nat.not_lt_zero _), fun x hx => ?_, fun x _ hx => absurd hx Bool.false_ne_true, fun o w ho hw => ?_, fun o w _ w1 w2 => by have w2 : w ≤ 0 := w2; omega⟩
    · rw [s3 _ _ (by omega), s2 _ _ (by omega), (z1 x hx).1]; rfl
    · rw [s3 _ _ (by omega), z2 o ho]; rfl
    · rw [s3 _ _ (by omega), s2 _ _ (by omega), (z1 x hx).2]; rfl
    · rw [Nat.add_assoc, z3 _ (by omega), if_neg (fun z => by have : w ≤ 0 := z.2; omega)]; rfl
  refine ⟨svs Γ (hdS Γ p) + 1, ?_⟩
  have e4 : (4 : Int32) * nI p = nI (4 * p) := by show nI 4 * nI p = _; rw [nI_mulE]
  have ec4 : (nI (4 * p)).toNatClampNeg = 4 * p := nI_clampE (by omega)
  have ev4 : vp_in (nI (4 * p)) 124 := by simp (disch := omega) only [nI_lit, nI_add, nI_mulE, nI_clampE, nI_eqE, nI_leE, nI_ltE, vp_nIE, true_and, and_true]; omega
  have ecs : (nI (hdS Γ p)).toNatClampNeg = hdS Γ p := nI_clampE (by omega)
  have evs : vp_in (nI (hdS Γ p)) 13 := by simp (disch := omega) only [nI_lit, nI_add, nI_mulE, nI_clampE, nI_eqE, nI_leE, nI_ltE, vp_nIE, true_and, and_true]; omega
  suffices H : ∀ f k τ, svs Γ (hdS Γ p) - k = f → k ≤ svs Γ (hdS Γ p) → FM (Sq p (plB Γ p)) σ τ → MPl τ (plB Γ p) p (plA Γ p k pl0) → (∀ v, 1 ≤ v → v ≤ k → τ.2.1 114 (6 * p + v) = nI (plB Γ p + plF Γ p v) ∧ τ.2.1 115 (6 * p + v) = nI (plB Γ p + plF Γ p (v + 1))) → wX12_makePlans_l96 Q E (wX12_makePlans_j173 Q E Bk) (f + 1) (nI p) (nI (k + 1)) τ from H _ 0 τ0 rfl (Nat.zero_le _) F00 C0 (fun v v1 v2 => by omega)
  intro f
  induction f with
  | zero =>
    intro k τ hf hk hF hC hv
    have e : k = svs Γ (hdS Γ p) := by omega
    have X1 := hX.pq hV hF
    have hoc : τ.2.1 104 (4 * p) = nI (hdS Γ p) := (X1.1.2.2.2 p hp).2.2.1 0 (by omega)
    show wX12_makePlans_l96_b _ _ _ _ _ _ _
    unfold wX12_makePlans_l96_b
    rw [e4, ec4, hoc, ecs, (X1.2.1 _ hs).2]
    refine ⟨ev4, evs, yes (by simp (disch := omega) only [nI_lit, nI_add, nI_mulE, nI_clampE, nI_eqE, nI_leE, nI_ltE, vp_nIE, true_and, and_true]; omega) ?_⟩
    unfold wX12_makePlans_j173
    rw [nI_1]
    rw [e] at hC hv
    obtain ⟨c1, c2, c3, c4, c5, c6, c7, c8⟩ := hC
    exact fe (h τ hF ⟨hv, c4, c5, c6, c7, c8⟩ c1)
  | succ f ih =>
    intro k τ hf hk hF hC hv
    have X1 := hX.pq hV hF
    have hoc : τ.2.1 104 (4 * p) = nI (hdS Γ p) := (X1.1.2.2.2 p hp).2.2.1 0 (by omega)
    have IA := plI_A hL hV hp k
    have JA := plJ_A (Γ := Γ) (p := p) k (by omega)
    have h47 := plI_47 IA
    show wX12_makePlans_l96_b Q E (wX12_makePlans_j173 Q E Bk) (wX12_makePlans_l96 Q E (wX12_makePlans_j173 Q E Bk) (f + 1)) (nI p) (nI (k + 1)) τ
    unfold wX12_makePlans_l96_b
    have e6 : (6 : Int32) * nI p + nI (k + 1) = nI (6 * p + (k + 1)) := by show nI 6 * nI p + _ = _; rw [nI_mulE, nI_add]
    have ec6 : (nI (6 * p + (k + 1))).toNatClampNeg = 6 * p + (k + 1) := nI_clampE (by omega)
    have ev6 : vp_in (nI (6 * p + (k + 1))) 187 := by simp (disch := omega) only [nI_lit, nI_add, nI_mulE, nI_clampE, nI_eqE, nI_leE, nI_ltE, vp_nIE, true_and, and_true]; omega
    rw [e4, ec4, hoc, ecs, (X1.2.1 _ hs).2, e6, ec6, hC.1]
    refine ⟨ev4, evs, no (by simp (disch := omega) only [nI_lit, nI_add, nI_mulE, nI_clampE, nI_eqE, nI_leE, nI_ltE, vp_nIE, true_and, and_true]; omega) ⟨ev6, fe ?_⟩⟩
    generalize hτ1 : ab_I τ 114 (6 * p + (k + 1)) (nI (plB Γ p + (plA Γ p k pl0).es.length)) = τ1
    have F1 : FM (fun a i => decide (a = 114 ∧ i = 6 * p + (k + 1))) τ τ1 := by rw [← hτ1]; exact (FM.rf _ τ).I (by simp)
    have v14 : τ1.2.1 114 (6 * p + (k + 1)) = nI (plB Γ p + plF Γ p (k + 1)) := by rw [← hτ1, gI_I, if_pos rfl, if_pos rfl]; rfl
    have F01 : FM (Sq p (plB Γ p)) σ τ1 := hF.tr (F1.mono (fun a i y => by have y := of_decide_eq_false y; exact decide_eq_false (by omega)))
    have X2 := hX.pq hV F01
    obtain ⟨d1, d2, d3, d4, d5, d6, d7, d8⟩ := hC
    have t1 : MTh τ1 (plA Γ p k pl0).th := fun x hx => by rw [F1.1 _ _ (decide_eq_false (by omega))]; exact d2 x hx
    refine m_come X2 hV hL hp (k := 0) (Nat.zero_le _) (w := k + 1) (by omega) true t1 (fun τ2 F2 t2 => ⟨50, ?_⟩)
    have F02 : FM (Sq p (plB Γ p)) σ τ2 := F01.tr (F2.mono (fun a i y => by have y := of_decide_eq_false y; exact decide_eq_false (by omega)))
    have q : ∀ a i, ¬ (a = 114 ∧ i = 6 * p + (k + 1)) → ¬ a = 120 → τ2.2.1 a i = τ.2.1 a i := fun a i y1 y2 => by rw [F2.1 _ _ (decide_eq_false y2), F1.1 _ _ (decide_eq_false y1)]
    have C2 : MPl τ2 (plB Γ p) p (plD Γ p (k + 1) (plA Γ p k pl0)) := ⟨by rw [q _ _ (by omega) (by omega)]; exact d1, t2, fun o ho => by rw [q _ _ (by omega) (by omega)]; exact d3 o ho, fun i hi => by rw [q _ _ (by omega) (by omega)]; exact d4 i hi, fun y hy => by rw [q _ _ (by omega) (by omega)]; exact d5 y hy, fun y hy hey => by rw [q _ _ (by omega) (by omega)]; exact d6 y hy hey, fun o w ho hw => by rw [q _ _ (by omega) (by omega)]; exact d7 o w ho hw, fun o w ho w1 w2 => by rw [q _ _ (by omega) (by omega)]; exact d8 o w ho w1 w2⟩
    have ID : plI Γ p (plD Γ p (k + 1) (plA Γ p k pl0)) := IA
    have JD : plJ (plD Γ p (k + 1) (plA Γ p k pl0)) := JA
    refine m_l138 (σ := τ2) (v := k + 1) (hX.pq hV F02) hV hL hp hB (by omega) (by omega) 48 _ τ2 (by omega) ID JD (FM.rf _ _) C2 (fun τ3 F3 C3 => ?_)
    unfold wX12_makePlans_j152
    rw [e6, ec6, nI_1, C3.1]
    have C3 : MPl τ3 (plB Γ p) p (plA Γ p (k + 1) pl0) := C3
    have I4 := plI_47 (plI_A hL hV hp (k + 1))
    refine ⟨ev6, fe (fe ?_)⟩
    have e15 : plL Γ p (k + 1) 48 (plD Γ p (k + 1) (plA Γ p k pl0)) = plA Γ p (k + 1) pl0 := rfl
    rw [e15]
    generalize hτ4 : ab_I τ3 115 (6 * p + (k + 1)) (nI (plB Γ p + (plA Γ p (k + 1) pl0).es.length)) = τ4
    have F4 : FM (fun a i => decide (a = 115 ∧ i = 6 * p + (k + 1))) τ3 τ4 := by rw [← hτ4]; exact (FM.rf _ τ3).I (by simp)
    have v15 : τ4.2.1 115 (6 * p + (k + 1)) = nI (plB Γ p + plF Γ p (k + 1 + 1)) := by rw [← hτ4, gI_I, if_pos rfl, if_pos rfl]; rfl
    have F04 : FM (Sq p (plB Γ p)) σ τ4 := (F02.tr (F3.mono (fun a i => Spm_Sq))).tr (F4.mono (fun a i y => by have y := of_decide_eq_false y; exact decide_eq_false (by omega)))
    obtain ⟨g1, g2, g3, g4, g5, g6, g7, g8⟩ := C3
    have q4 : ∀ a i, ¬ a = 115 → τ4.2.1 a i = τ3.2.1 a i := fun a i y => F4.1 _ _ (decide_eq_false (by omega))
    refine ih (k + 1) τ4 (by omega) (by omega) F04 ⟨by rw [q4 _ _ (by omega)]; exact g1, fun x hx => by rw [q4 _ _ (by omega)]; exact g2 x hx, fun o ho => by rw [q4 _ _ (by omega)]; exact g3 o ho, fun i hi => by rw [q4 _ _ (by omega)]; exact g4 i hi, fun y hy => by rw [q4 _ _ (by omega)]; exact g5 y hy, fun y hy hey => by rw [q4 _ _ (by omega)]; exact g6 y hy hey, fun o w ho hw => by rw [q4 _ _ (by omega)]; exact g7 o w ho hw, fun o w ho w1 w2 => by rw [q4 _ _ (by omega)]; exact g8 o w ho w1 w2⟩ (fun v v1 v2 => ?_)
    by_cases ev : v = k + 1
    · rw [ev]
      exact ⟨by rw [q4 _ _ (by omega), F3.1 _ _ (decide_eq_false (by omega)), F2.1 _ _ (decide_eq_false (by omega))]; exact v14, v15⟩
    · have a := hv v v1 (by omega)
      rw [F4.1 114 _ (decide_eq_false (by omega)), F3.1 114 _ (decide_eq_false (by omega)), F2.1 114 _ (decide_eq_false (by omega)), F1.1 114 _ (decide_eq_false (by omega)), F4.1 115 _ (decide_eq_false (by omega)), F3.1 115 _ (decide_eq_false (by omega)), F2.1 115 _ (decide_eq_false (by omega)), F1.1 115 _ (decide_eq_false (by omega))]
      exact a
theorem plB_mono {p' p : Nat} (h : p' < p) : plB Γ p' + plN Γ p' ≤ plB Γ p := by
  obtain ⟨d, rfl⟩ : ∃ d, p = p' + 1 + d := ⟨p - (p' + 1), by omega⟩
  clear h
  induction d with
  | zero => exact Nat.le_refl _
  | succ d ih =>
    have e : plB Γ (p' + 1 + (d + 1)) = plB Γ (p' + 1 + d) + plN Γ (p' + 1 + d) := rfl
    omega
/-- all plans -/
theorem m_mk (hX : MXg σ Γ) (hV : GRV Γ) (hL : LVF Γ) {Q : ab_S → Prop} (h : ∀ τ, FM (fun a i => decide ((a = 92 ∧ i = 28) ∨ (113 ≤ a ∧ a ≤ 121))) σ τ → MXg τ Γ → (∀ p, p < Γ.2.1 → MPf τ Γ p) → τ.2.1 92 28 = nI (plB Γ Γ.2.1) → Q τ) : wX12_makePlans Q E σ := by
  have h30 := hV.2.1
  unfold wX12_makePlans
  refine fe ⟨Γ.2.1 + 1, ?_⟩
  generalize hσ1 : ab_I σ 92 28 0 = σ1
  have F1 : FM (fun a i => decide ((a = 92 ∧ i = 28) ∨ (113 ≤ a ∧ a ≤ 121))) σ σ1 := by rw [← hσ1]; exact (FM.rf _ σ).I (by simp)
  have w1 : σ1.2.1 92 28 = nI (plB Γ 0) := by rw [← hσ1]; simp [gI_I]; rfl
  have hx : ∀ τ, FM (fun a i => decide ((a = 92 ∧ i = 28) ∨ (113 ≤ a ∧ a ≤ 121))) σ τ → MXg τ Γ := fun τ F => hX.fm hV F ⟨decide_eq_false (by omega), decide_eq_false (by omega), decide_eq_false (by omega)⟩ (fun a i h1 h2 => decide_eq_false (by omega))
  suffices H : ∀ f p τ, Γ.2.1 - p = f → p ≤ Γ.2.1 → FM (fun a i => decide ((a = 92 ∧ i = 28) ∨ (113 ≤ a ∧ a ≤ 121))) σ τ → τ.2.1 92 28 = nI (plB Γ p) → (∀ p', p' < p → MPf τ Γ p') → wX12_makePlans_l7 Q E (f + 1) (nI p) τ from H Γ.2.1 0 σ1 rfl (Nat.zero_le _) F1 w1 (fun p' hp' => absurd hp' (by omega))
  intro f
  induction f with
  | zero =>
    intro p τ hf hp hF h8 hP
    have e : p = Γ.2.1 := by omega
    show wX12_makePlans_l7_b _ _ _ _ _
    unfold wX12_makePlans_l7_b
    rw [(hx τ hF).1.2.1]
    rw [e] at h8 hP
    exact yes (by simp (disch := omega) only [nI_lit, nI_add, nI_mulE, nI_clampE, nI_eqE, nI_leE, nI_ltE, vp_nIE, true_and, and_true]; omega) (h τ hF (hx τ hF) hP h8)
  | succ f ih =>
    intro p τ hf hp hF h8 hP
    show wX12_makePlans_l7_b Q E (wX12_makePlans_l7 Q E (f + 1)) (nI p) τ
    unfold wX12_makePlans_l7_b
    rw [(hx τ hF).1.2.1]
    refine no (by simp (disch := omega) only [nI_lit, nI_add, nI_mulE, nI_clampE, nI_eqE, nI_leE, nI_ltE, vp_nIE, true_and, and_true]; omega) ?_
    refine m_mkA (hx τ hF) hV hL (by omega) h8 (fun τ2 F2 C2 w2 => ?_)
    refine ih (p + 1) τ2 (by omega) (by omega) (hF.tr (F2.mono (fun a i y => by have y := of_decide_eq_false y; exact decide_eq_false (by omega)))) w2 (fun p' hp' => ?_)
    by_cases e : p' = p
    · rw [e]; exact C2
    · obtain ⟨a1, a2, a3, a4, a5, a6⟩ := hP p' (by omega)
      have hmn := plB_mono (Γ := Γ) (show p' < p by omega)
      have hp'v : svs Γ (hdS Γ p') ≤ 5 := (hL.vis _ ((hV.2.2.2 p' (by omega)).2.1.2.1 0 (Nat.zero_le _))).2
      have hI' := plI_A hL hV (p := p') (by omega) (svs Γ (hdS Γ p'))
      refine ⟨fun v v1 v2 => ?_, fun i hi => ?_, fun x hx => ?_, fun x hx hex => ?_, fun o w ho hw => ?_, fun o w ho w1 w2 => ?_⟩
      · rw [F2.1 114 _ (decide_eq_false (by omega)), F2.1 115 _ (decide_eq_false (by omega))]; exact a1 v v1 v2
      · rw [F2.1 _ _ (decide_eq_false (by omega))]; exact a2 i hi
      · rw [F2.1 _ _ (decide_eq_false (by omega))]; exact a3 x hx
      · rw [F2.1 _ _ (decide_eq_false (by omega))]; exact a4 x hx hex
      · rw [F2.1 _ _ (decide_eq_false (by omega))]; exact a5 o w ho hw
      · have h5 : w ≤ 5 := Nat.le_trans w2 (hI'.2.1 o).1
        rw [F2.1 _ _ (decide_eq_false (by omega))]; exact a6 o w ho w1 w2
end ML
