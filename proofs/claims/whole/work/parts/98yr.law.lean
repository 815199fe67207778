/-! ===== the law ===== -/
def Inv (σ : ab_S) : Prop := ∃ A, AOK A ∧ (∃ g q x y, CIv σ A g q x y) ∧ MIv σ A
def CMP (J : ab_S → Prop) (u3 u5 : Int32) (σ4 : ab_S) : Prop := wX12_thrown (fun u7 σ6 => ((u7 = u3) → ((¬ u3 = 0) → J σ6) ∧ (¬ (¬ u3 = 0) → vp_in (0 : Int32) 1 ∧ ((((lg_cmp (σ6.2.2.1 163 (0 : Int32).toNatClampNeg) u5.toInt64) = 0) → J σ6) ∧ (¬ ((lg_cmp (σ6.2.2.1 163 (0 : Int32).toNatClampNeg) u5.toInt64) = 0) → False)))) ∧ (¬ (u7 = u3) → False)) (fun _ _ => False) σ4
def CMB (J : ab_S → Prop) (K : Int64 → Int64 → ab_S → Prop) (u3 u5 : Int32) (σ4 : ab_S) : Prop := wX12_thrown (fun u7 σ6 => ((u7 = u3) → ((¬ u3 = 0) → J σ6) ∧ (¬ (¬ u3 = 0) → vp_in (0 : Int32) 1 ∧ (((u5 = 0) → K (0 : Int64) (σ6.2.2.1 163 (0 : Int32).toNatClampNeg) σ6) ∧ (¬ (u5 = 0) → K (1 : Int64) (σ6.2.2.1 163 (0 : Int32).toNatClampNeg) σ6)))) ∧ (¬ (u7 = u3) → False)) (fun _ _ => False) σ4
def CME (J : ab_S → Prop) (u3 : Int32) (σ4 : ab_S) : Prop := wX12_thrown (fun u7 σ6 => ((u7 = u3) → J σ6) ∧ (¬ (u7 = u3) → False)) (fun _ _ => False) σ4
section LW
variable {σ τ : ab_S} {A A' : AST} {g q x y c : Nat} {v : Int32} {W X : (Int32 → ab_S → Prop) → ab_S → Prop} {J : ab_S → Prop}
theorem MIv.cl (hM : MIv σ A) (hA : AOK A) (f : FM Cls σ τ) : MIv τ A := hM.fm hA f (fun a i h1 h2 _ => decide_eq_false (by omega))
theorem CIv.md (hC : CIv σ A g q x y) (hA : AOK A) (f : FM Mdl σ τ) : CIv τ A g q x y := hC.fm hA f (fun a i h1 _ => decide_eq_false (by omega))
theorem cq (h : CAns W σ c v) (hC : CIv σ A g q x y) (hA : AOK A) : CDo W σ c v A := ⟨h.1, fun Q k => h.2 Q (fun τ F hv => k τ (F.mono (fun a i y => by have y := of_decide_eq_false y; exact decide_eq_false (by omega))) ⟨g, q, x, y, hC.fm hA F (fun a i h1 h2 => decide_eq_false (by omega))⟩ hv)⟩
theorem mq (h : MAns X σ c v) (hM : MIv σ A) (hA : AOK A) : MDo X σ c v A := fun Q k => h Q (fun τ r F h0 hr => k τ r (F.mono (fun a i y => by have y := of_decide_eq_false y; exact decide_eq_false (by omega))) (hM.fm hA F (fun a i h1 h2 h3 => decide_eq_false (by omega))) h0 hr)
theorem lw_d (J : ab_S → Prop) (hA : AOK A) (hM : MIv σ A) (hA' : AOK A') (hW : CDo W σ c v A') (hX : ∀ σ', MIv σ' A → MDo X σ' c v A') (hJ : ∀ τ, Inv τ → J τ) : ∀ R : Int32 → ab_S → Prop, (∀ u τ, X (fun u5 σ4 => CMP J u u5 σ4) τ → R u τ) → W R σ := by
  intro R hR
  refine hW.2 R (fun τ F1 hC1 hv => hR _ _ (hX τ (hM.cl hA F1) _ (fun τ2 r F2 hM2 h0 hr => ?_)))
  obtain ⟨g, q, x, y, hC1⟩ := hC1
  have hI := hJ τ2 ⟨A', hA', ⟨g, q, x, y, hC1.md hA' F2⟩, hM2⟩
  show (τ2.2.1 92 0 = nI c → _) ∧ (¬ τ2.2.1 92 0 = nI c → False)
  refine yes h0 ⟨fun _ => hI, fun z => ⟨vp_0_1, yes ?_ hI⟩⟩
  have z := Decidable.not_not.mp z
  have hc : c = 0 := by
    have h4 := hW.1
    have z : nI c = nI 0 := z
    rwa [nI_eqE (by omega) (by omega)] at z
  rw [lgc0, show (0 : Int32).toNatClampNeg = 0 by decide, F2.2.1 _ _ (decide_eq_false (by omega)), hv hc, hr hc]
theorem lw_b (J : ab_S → Prop) (K : Int64 → Int64 → ab_S → Prop) {w : Bool} (hA : AOK A) (hM : MIv σ A) (hA' : AOK A') (hW : CDo W σ c (bI w) A') (hX : ∀ σ', MIv σ' A → MDo X σ' c (bI w) A') (hJ : ∀ τ, Inv τ → J τ) (hK : ∀ τ z, Inv τ → K z z τ) : ∀ R : Int32 → ab_S → Prop, (∀ u τ, X (fun u5 σ4 => CMB J K u u5 σ4) τ → R u τ) → W R σ := by
  intro R hR
  refine hW.2 R (fun τ F1 hC1 hv => hR _ _ (hX τ (hM.cl hA F1) _ (fun τ2 r F2 hM2 h0 hr => ?_)))
  obtain ⟨g, q, x, y, hC1⟩ := hC1
  have hI : Inv τ2 := ⟨A', hA', ⟨g, q, x, y, hC1.md hA' F2⟩, hM2⟩
  show (τ2.2.1 92 0 = nI c → _) ∧ (¬ τ2.2.1 92 0 = nI c → False)
  refine yes h0 ⟨fun _ => hJ _ hI, fun z => ⟨vp_0_1, ?_⟩⟩
  have z := Decidable.not_not.mp z
  have hc : c = 0 := by
    have h4 := hW.1
    have z : nI c = nI 0 := z
    rwa [nI_eqE (by omega) (by omega)] at z
  rw [show (0 : Int32).toNatClampNeg = 0 by decide, F2.2.1 _ _ (decide_eq_false (by omega)), hv hc, hr hc]
  cases w
  · rw [show (bI false).toInt64 = 0 by decide]
    exact yes rfl (hK _ _ hI)
  · rw [show (bI true).toInt64 = 1 by decide]
    exact no (by decide) (hK _ _ hI)
theorem lw_e {X : (ab_S → Prop) → ab_S → Prop} (J : ab_S → Prop) (hA : AOK A) (hM : MIv σ A) (hA' : AOK A') (hW : CDe W σ c A') (hX : ∀ σ', MIv σ' A → MDe X σ' c A') (hJ : ∀ τ, Inv τ → J τ) : ∀ R : Int32 → ab_S → Prop, (∀ u τ, X (fun σ4 => CME J u σ4) τ → R u τ) → W R σ := by
  intro R hR
  refine hW.2 R (fun τ F1 hC1 => hR _ _ (hX τ (hM.cl hA F1) _ (fun τ2 F2 hM2 h0 => ?_)))
  obtain ⟨g, q, x, y, hC1⟩ := hC1
  have hI := hJ τ2 ⟨A', hA', ⟨g, q, x, y, hC1.md hA' F2⟩, hM2⟩
  exact yes h0 hI
theorem law_b {L : Nat} {xs : Nat → Int32} {Bk : Int32 → ab_S → Prop} {i : Nat} (hL : L ≤ 2048) (hi : i + 4 ≤ L) (hI : Inv σ) (hB : ∀ τ, Inv τ → Bk (nI (i + 4)) τ) : wL_law_b L xs Bk (nI i) σ := by
  obtain ⟨A, hA, ⟨g, q, x, y, hC⟩, hM⟩ := hI
  have hJ : ∀ τ, Inv τ → wL_law_j1448 L xs Bk (nI i) τ := by
    intro τ h
    unfold wL_law_j1448
    refine fe ?_
    rw [show nI i + (4 : Int32) = nI (i + 4) by show nI i + nI 4 = _; rw [nI_add]]
    exact hB τ h
  have v0 : vp_in (nI i) L := by simp (disch := omega) only [nI_lit, nI_add, nI_mulE, nI_clampE, nI_eqE, nI_leE, nI_ltE, vp_nIE, true_and, and_true]; omega
  have v1 : vp_in (nI i + (1 : Int32)) L := by rw [nI_1]; simp (disch := omega) only [nI_lit, nI_add, nI_mulE, nI_clampE, nI_eqE, nI_leE, nI_ltE, vp_nIE, true_and, and_true]; omega
  have v2 : vp_in (nI i + (2 : Int32)) L := by rw [show nI i + (2 : Int32) = nI (i + 2) by show nI i + nI 2 = _; rw [nI_add]]; simp (disch := omega) only [nI_lit, nI_add, nI_mulE, nI_clampE, nI_eqE, nI_leE, nI_ltE, vp_nIE, true_and, and_true]; omega
  have v3 : vp_in (nI i + (3 : Int32)) L := by rw [show nI i + (3 : Int32) = nI (i + 3) by show nI i + nI 3 = _; rw [nI_add]]; simp (disch := omega) only [nI_lit, nI_add, nI_mulE, nI_clampE, nI_eqE, nI_leE, nI_ltE, vp_nIE, true_and, and_true]; omega
  unfold wL_law_b
  generalize xs (nI i + (1 : Int32)).toNatClampNeg = a1
  generalize xs (nI i + (2 : Int32)).toNatClampNeg = a2
  generalize xs (nI i + (3 : Int32)).toNatClampNeg = a3
  refine no (by rw [show nI L - (4 : Int32) = nI (L - 4) by show _ - nI 4 = _; rw [nI_subE (by omega)]]; simp (disch := omega) only [nI_lit, nI_add, nI_mulE, nI_clampE, nI_eqE, nI_leE, nI_ltE, vp_nIE, true_and, and_true]; omega) ⟨v0, ?_⟩
  refine ⟨fun _ => ?_, fun _ => ?_⟩
  · obtain ⟨A', c, v, hA', h1, h2⟩ := u_put (E := fun _ _ => False) (a := a1) hC hA
    have H := lw_d (wL_law_j1448 L xs Bk (nI i)) hA hM hA' h1 h2 hJ
    exact ⟨v1, H _ (fun u τ h => ⟨v1, h⟩)⟩
  refine ⟨fun _ => ?_, fun _ => ?_⟩
  · obtain ⟨A', c, hA', h1, h2⟩ := u_end (E := fun _ _ => False) (a := a1) hC hA
    have H := lw_e (wL_law_j1448 L xs Bk (nI i)) hA hM hA' h1 h2 hJ
    exact ⟨v1, H _ (fun u τ h => ⟨v1, h⟩)⟩
  refine ⟨fun _ => ?_, fun _ => ?_⟩
  · obtain ⟨A', v, h1, h2⟩ := u_gra (E := fun _ _ => False) hC hA
    refine h1 _ (fun τ hA' F1 hC1 => h2 τ (hM.cl hA F1) _ (fun τ2 F2 hM2 => ?_))
    obtain ⟨g, q, x, y, hC1⟩ := hC1
    exact yes rfl (hJ τ2 ⟨A', hA', ⟨g, q, x, y, hC1.md hA' F2⟩, hM2⟩)
  refine ⟨fun _ => ?_, fun _ => ?_⟩
  · obtain ⟨c, v, h1, h2⟩ := q_size (E := fun _ _ => False) (a := a1) hC hA
    have H := lw_d (wL_law_j1448 L xs Bk (nI i)) hA hM hA (cq h1 hC hA) (fun σ' hM' => mq (h2 σ' hM') hM' hA) hJ
    exact ⟨v1, H _ (fun u τ h => ⟨v1, h⟩)⟩
  refine ⟨fun _ => ?_, fun _ => ?_⟩
  · obtain ⟨c, w, h1, h2⟩ := q_dep (E := fun _ _ => False) (a := a1) (b := a2) (d := a3) hC hA
    have H := lw_b (wL_law_j1448 L xs Bk (nI i)) (wL_law_j379 L xs Bk (nI i)) hA hM hA (cq h1 hC hA) (fun σ' hM' => mq (h2 σ' hM') hM' hA) hJ (fun τ z hI => yes ((lgc0 _ _).mpr rfl) (hJ τ hI))
    exact ⟨v1, v2, v3, H _ (fun u τ h => ⟨v1, v2, v3, h⟩)⟩
  refine ⟨fun _ => ?_, fun _ => ?_⟩
  · obtain ⟨c, v, h1, h2⟩ := q_lev (E := fun _ _ => False) (a := a1) (b := a2) hC hA
    have H := lw_d (wL_law_j1448 L xs Bk (nI i)) hA hM hA (cq h1 hC hA) (fun σ' hM' => mq (h2 σ' hM') hM' hA) hJ
    exact ⟨v1, v2, H _ (fun u τ h => ⟨v1, v2, h⟩)⟩
  refine ⟨fun _ => ?_, fun _ => ?_⟩
  · obtain ⟨c, v, h1, h2⟩ := q_pln (E := fun _ _ => False) (a := a1) (b := a2) (d := a3) hC hA
    have H := lw_d (wL_law_j1448 L xs Bk (nI i)) hA hM hA (cq h1 hC hA) (fun σ' hM' => mq (h2 σ' hM') hM' hA) hJ
    exact ⟨v1, v2, v3, H _ (fun u τ h => ⟨v1, v2, v3, h⟩)⟩
  refine ⟨fun _ => ?_, fun _ => ?_⟩
  · obtain ⟨c, v, h1, h2⟩ := q_sto (E := fun _ _ => False) (a := a1) (b := a2) hC hA
    have H := lw_d (wL_law_j1448 L xs Bk (nI i)) hA hM hA (cq h1 hC hA) (fun σ' hM' => mq (h2 σ' hM') hM' hA) hJ
    exact ⟨v1, v2, H _ (fun u τ h => ⟨v1, v2, h⟩)⟩
  refine ⟨fun _ => ?_, fun _ => ?_⟩
  · obtain ⟨A', c, v, hA', h1, h2⟩ := u_tre (E := fun _ _ => False) hC hA
    have H := lw_d (wL_law_j1448 L xs Bk (nI i)) hA hM hA' h1 h2 hJ
    exact H _ (fun u τ h => h)
  refine ⟨fun _ => ?_, fun _ => ?_⟩
  · obtain ⟨c, v, h1, h2⟩ := q_cnt (E := fun _ _ => False) (a := a1) hC hA
    have H := lw_d (wL_law_j1448 L xs Bk (nI i)) hA hM hA (cq h1 hC hA) (fun σ' hM' => mq (h2 σ' hM') hM' hA) hJ
    exact ⟨v1, H _ (fun u τ h => ⟨v1, h⟩)⟩
  refine ⟨fun _ => ?_, fun _ => ?_⟩
  · obtain ⟨c, v, h1, h2⟩ := q_nod (E := fun _ _ => False) (a := a1) (b := a2) hC hA
    have H := lw_d (wL_law_j1448 L xs Bk (nI i)) hA hM hA (cq h1 hC hA) (fun σ' hM' => mq (h2 σ' hM') hM' hA) hJ
    exact ⟨v1, v2, H _ (fun u τ h => ⟨v1, v2, h⟩)⟩
  refine ⟨fun _ => ?_, fun _ => ?_⟩
  · obtain ⟨c, v, h1, h2⟩ := q_val (E := fun _ _ => False) (a := a1) (b := a2) hC hA
    have H := lw_d (wL_law_j1448 L xs Bk (nI i)) hA hM hA (cq h1 hC hA) (fun σ' hM' => mq (h2 σ' hM') hM' hA) hJ
    exact ⟨v1, v2, H _ (fun u τ h => ⟨v1, v2, h⟩)⟩
  refine ⟨fun _ => ?_, fun _ => ?_⟩
  · obtain ⟨A', c, v, hA', h1, h2⟩ := u_chg (E := fun _ _ => False) (a := a1) (b := a2) hC hA
    have H := lw_d (wL_law_j1448 L xs Bk (nI i)) hA hM hA' h1 h2 hJ
    exact ⟨v1, v2, H _ (fun u τ h => ⟨v1, v2, h⟩)⟩
  refine ⟨fun _ => ?_, fun _ => ?_⟩
  · obtain ⟨c, v, h1, h2⟩ := q_vis (E := fun _ _ => False) (a := a1) (b := a2) hC hA
    have H := lw_d (wL_law_j1448 L xs Bk (nI i)) hA hM hA (cq h1 hC hA) (fun σ' hM' => mq (h2 σ' hM') hM' hA) hJ
    exact ⟨v1, v2, H _ (fun u τ h => ⟨v1, v2, h⟩)⟩
  refine ⟨fun _ => ?_, fun _ => ?_⟩
  · obtain ⟨c, v, h1, h2⟩ := q_cod (E := fun _ _ => False) (a := a1) (b := a2) hC hA
    have H := lw_d (wL_law_j1448 L xs Bk (nI i)) hA hM hA (cq h1 hC hA) (fun σ' hM' => mq (h2 σ' hM') hM' hA) hJ
    exact ⟨v1, v2, H _ (fun u τ h => ⟨v1, v2, h⟩)⟩
  refine ⟨fun _ => ?_, fun _ => ?_⟩
  · obtain ⟨c, v, h1, h2⟩ := q_sta (E := fun _ _ => False) (a := a1) (b := a2) hC hA
    have H := lw_d (wL_law_j1448 L xs Bk (nI i)) hA hM hA (cq h1 hC hA) (fun σ' hM' => mq (h2 σ' hM') hM' hA) hJ
    exact ⟨v1, v2, H _ (fun u τ h => ⟨v1, v2, h⟩)⟩
  refine ⟨fun _ => ?_, fun _ => ?_⟩
  · obtain ⟨A', c, v, hA', h1, h2⟩ := u_beg (E := fun _ _ => False) hC hA
    have H := lw_d (wL_law_j1448 L xs Bk (nI i)) hA hM hA' h1 h2 hJ
    exact H _ (fun u τ h => h)
  refine ⟨fun _ => ?_, fun _ => ?_⟩
  · obtain ⟨A', c, v, hA', h1, h2⟩ := u_ste (E := fun _ _ => False) (a := a1) hC hA
    have H := lw_d (wL_law_j1448 L xs Bk (nI i)) hA hM hA' h1 h2 hJ
    exact ⟨v1, H _ (fun u τ h => ⟨v1, h⟩)⟩
  refine ⟨fun _ => ?_, fun _ => ?_⟩
  · obtain ⟨c, v, h1, h2⟩ := q_mac (E := fun _ _ => False) (a := a1) hC hA
    have H := lw_d (wL_law_j1448 L xs Bk (nI i)) hA hM hA (cq h1 hC hA) (fun σ' hM' => mq (h2 σ' hM') hM' hA) hJ
    exact ⟨v1, H _ (fun u τ h => ⟨v1, h⟩)⟩
  refine ⟨fun _ => ?_, fun _ => ?_⟩
  · obtain ⟨c, v, h1, h2⟩ := q_alo (E := fun _ _ => False) (a := a1) hC hA
    have H := lw_d (wL_law_j1448 L xs Bk (nI i)) hA hM hA (cq h1 hC hA) (fun σ' hM' => mq (h2 σ' hM') hM' hA) hJ
    exact ⟨v1, H _ (fun u τ h => ⟨v1, h⟩)⟩
  refine ⟨fun _ => ?_, fun _ => ?_⟩
  · obtain ⟨c, v, h1, h2⟩ := q_top (E := fun _ _ => False) (a := a1) hC hA
    have H := lw_d (wL_law_j1448 L xs Bk (nI i)) hA hM hA (cq h1 hC hA) (fun σ' hM' => mq (h2 σ' hM') hM' hA) hJ
    exact ⟨v1, H _ (fun u τ h => ⟨v1, h⟩)⟩
  refine ⟨fun _ => ?_, fun _ => ?_⟩
  · obtain ⟨c, v, h1, h2⟩ := q_hel (E := fun _ _ => False) (a := a1) (b := a2) hC hA
    have H := lw_d (wL_law_j1448 L xs Bk (nI i)) hA hM hA (cq h1 hC hA) (fun σ' hM' => mq (h2 σ' hM') hM' hA) hJ
    exact ⟨v1, v2, H _ (fun u τ h => ⟨v1, v2, h⟩)⟩
  exact hJ σ ⟨A, hA, ⟨g, q, x, y, hC⟩, hM⟩
theorem law_all {L : Nat} {xs : Nat → Int32} (hL : L ≤ 2048) : ∀ f i σ, L ≤ i + 4 * f → i ≤ L + 4 → Inv σ → wL_law L xs (f + 1) (nI i) σ := by
  have ex : ∀ {Bk : Int32 → ab_S → Prop} i σ, i ≤ L + 4 → L < i + 4 → wL_law_b L xs Bk (nI i) σ := by
    intro Bk i σ h1 h2
    unfold wL_law_b
    refine yes ?_ trivial
    by_cases h : 4 ≤ L
    · rw [show nI L - (4 : Int32) = nI (L - 4) by show _ - nI 4 = _; rw [nI_subE (by omega)]]
      simp (disch := omega) only [nI_lit, nI_add, nI_mulE, nI_clampE, nI_eqE, nI_leE, nI_ltE, vp_nIE, true_and, and_true]; omega
    · have e : L = 0 ∨ L = 1 ∨ L = 2 ∨ L = 3 := by omega
      have e2 : nI L - 4 < nI 0 := by rcases e with e | e | e | e <;> (rw [e]; decide)
      exact Int32.lt_of_lt_of_le e2 (by simp (disch := omega) only [nI_lit, nI_add, nI_mulE, nI_clampE, nI_eqE, nI_leE, nI_ltE, vp_nIE, true_and, and_true]; omega)
  intro f
  induction f with
  | zero =>
    intro i σ h1 h2 _
    show wL_law_b L xs (wL_law L xs 0) (nI i) σ
    exact ex i σ h2 (by omega)
  | succ f ih =>
    intro i σ h1 h2 hI
    show wL_law_b L xs (wL_law L xs (f + 1)) (nI i) σ
    by_cases h : L < i + 4
    · exact ex i σ h2 h
    · exact law_b hL (by omega) hI (fun τ hI' => ih (i + 4) τ (by omega) (by omega) hI')
end LW
