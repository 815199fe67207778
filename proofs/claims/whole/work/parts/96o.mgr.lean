/-! ===== a grammar taken, the model's ===== -/
def W94 (σ : ab_S) : Prop := ∀ j, j < 6 → σ.2.2.1 94 (j + 1) = ([418461491, 482788, 533, 201, 464148, 183685] : List Int64).getD j 0
/-- the text, the model's -/
def MTx (σ : ab_S) (t : Nat → Nat) (n : Nat) : Prop := n ≤ 2400 ∧ σ.2.1 92 2 = nI n ∧ ∀ i, i < n → σ.2.1 93 i = nI (t i) ∧ t i < 128
/-- the text of the grammar that is taken -/
def MKp (σ : ab_S) (t : Nat → Nat) (n : Nat) : Prop := n ≤ 2400 ∧ σ.2.1 92 6 = nI n ∧ ∀ i, i < n → σ.2.1 95 i = nI (t i) ∧ t i < 128
def MWh (σ : ab_S) (Γ : GRT) : Prop := MW σ Γ ∧ MPg σ Γ ∧ InM σ (oEnd Γ).2
def Smo : Nat → Nat → Bool := fun a i => decide ((a = 92 ∧ (i = 28 ∨ i = 74)) ∨ (109 ≤ a ∧ a ≤ 123) ∨ (146 ≤ a ∧ a ≤ 153))
def Smg : Nat → Nat → Bool := fun a i => decide ((a = 92 ∧ (i = 0 ∨ i = 8 ∨ i = 9 ∨ i = 14 ∨ i = 21 ∨ i = 28 ∨ (40 ≤ i ∧ i ≤ 45) ∨ i = 49 ∨ i = 51 ∨ i = 74)) ∨ (96 ≤ a ∧ a ≤ 127) ∨ (146 ≤ a ∧ a ≤ 153))
def Smh : Nat → Nat → Bool := fun a i => decide ((a = 92 ∧ (i = 8 ∨ i = 9 ∨ i = 14 ∨ i = 21 ∨ i = 28 ∨ (40 ≤ i ∧ i ≤ 45) ∨ i = 49 ∨ i = 51 ∨ i = 74)) ∨ (96 ≤ a ∧ a ≤ 127) ∨ (146 ≤ a ∧ a ≤ 153))
def Smg2 : Nat → Nat → Bool := fun a i => decide ((a = 92 ∧ (i = 0 ∨ i = 4 ∨ i = 6 ∨ i = 8 ∨ i = 9 ∨ i = 14 ∨ i = 21 ∨ i = 28 ∨ (40 ≤ i ∧ i ≤ 45) ∨ i = 49 ∨ i = 51 ∨ i = 52 ∨ i = 74 ∨ i = 83)) ∨ (95 ≤ a ∧ a ≤ 127) ∨ (146 ≤ a ∧ a ≤ 153))
section MG
variable {σ : ab_S} {t tk : Nat → Nat} {n nk : Nat} {Γ : GRT} {E : String → ab_S → Prop}
theorem m_takeL {a0 : Int32} {A : Nat} (hA : (a0 = 0 ∧ A = 93) ∨ (¬ a0 = 0 ∧ A = 95)) (hn : n ≤ 2400) (hs : ∀ i, i < n → σ.2.1 A i = nI (t i)) (hl : σ.2.1 92 8 = nI n) {Q : ab_S → Prop} (h : ∀ τ, FM (fun a _ => decide (a = 96)) σ τ → (∀ i, i < n → τ.2.1 96 i = nI (t i)) → Q τ) : ∃ k, wX12_takeText_l21 a0 Q E k 0 σ := by
  refine ⟨n + 1, ?_⟩
  suffices H : ∀ f i τ, n - i = f → i ≤ n → FM (fun a _ => decide (a = 96)) σ τ → (∀ j, j < i → τ.2.1 96 j = nI (t j)) → wX12_takeText_l21 a0 Q E (f + 1) (nI i) τ from H _ 0 σ rfl (Nat.zero_le _) (FM.rf _ _) (fun j hj => absurd hj (Nat.not_lt_zero _))
  intro f
  induction f with
  | zero =>
    intro i τ hf hi hF hd
    have e : i = n := by omega
    show wX12_takeText_l21_b _ _ _ _ _ _
    unfold wX12_takeText_l21_b
    rw [hF.1 _ _ (decide_eq_false (by omega)), hl]
    rw [e] at hd
    exact yes (by simp (disch := omega) only [nI_lit, nI_add, nI_mulE, nI_clampE, nI_eqE, nI_leE, nI_ltE, vp_nIE, true_and, and_true]; omega) (h τ hF hd)
  | succ f ih =>
    intro i τ hf hi hF hd
    have ec : (nI i).toNatClampNeg = i := nI_clampE (by omega)
    have ev : vp_in (nI i) 2400 := by simp (disch := omega) only [nI_lit, nI_add, nI_mulE, nI_clampE, nI_eqE, nI_leE, nI_ltE, vp_nIE, true_and, and_true]; omega
    have j53 : wX12_takeText_j53 a0 Q E (wX12_takeText_l21 a0 Q E (f + 1)) (nI i) (nI (t i)) (nI i) τ := by
      unfold wX12_takeText_j53
      rw [ec, nI_1]
      refine ⟨ev, fe (fe (ih (i + 1) _ (by omega) (by omega) (hF.I (decide_eq_true rfl)) (fun j hj => ?_)))⟩
      rw [gI_I, if_pos rfl]
      by_cases e : j = i
      · rw [if_pos e, e]
      · rw [if_neg e]; exact hd j (by omega)
    show wX12_takeText_l21_b a0 Q E (wX12_takeText_l21 a0 Q E (f + 1)) (nI i) τ
    unfold wX12_takeText_l21_b
    rw [hF.1 92 _ (decide_eq_false (by omega)), hl, ec]
    refine no (by simp (disch := omega) only [nI_lit, nI_add, nI_mulE, nI_clampE, nI_eqE, nI_leE, nI_ltE, vp_nIE, true_and, and_true]; omega) ?_
    rcases hA with ⟨h0, hA⟩ | ⟨h0, hA⟩
    · refine yes h0 ⟨ev, ?_⟩
      have := hs i (by omega)
      rw [hA] at this
      rw [hF.1 _ _ (decide_eq_false (by omega)), this]
      exact j53
    · refine no h0 ⟨ev, ?_⟩
      have := hs i (by omega)
      rw [hA] at this
      rw [hF.1 _ _ (decide_eq_false (by omega)), this]
      exact j53
theorem m_take0 (hT : MTx σ t n) (hw : W94 σ) {Q : ab_S → Prop} (h : ∀ τ, FM (fun a i => decide ((a = 92 ∧ i = 8) ∨ a = 96)) σ τ → MT τ t n → Q τ) : wX12_takeText 0 Q E σ := by
  unfold wX12_takeText
  refine yes rfl ?_
  unfold wX12_takeText_j16
  rw [hT.2.1]
  refine fe ?_
  have F0 : FM (fun a i => decide ((a = 92 ∧ i = 8) ∨ a = 96)) σ (ab_I σ 92 8 (nI n)) := (FM.rf _ σ).I (decide_eq_true (by omega))
  refine m_takeL (t := t) (n := n) (Or.inl ⟨rfl, rfl⟩) hT.1 (fun i hi => by rw [gI_I, if_neg (by decide)]; exact (hT.2.2 i hi).1) (by rw [gI_I, if_pos rfl, if_pos rfl]) (fun τ F1 h1 => ?_)
  refine h τ (F0.tr (F1.mono (fun a i y => by have y := of_decide_eq_false y; exact decide_eq_false (by omega)))) ⟨hT.1, by rw [F1.1 _ _ (decide_eq_false (by omega)), gI_I, if_pos rfl, if_pos rfl], fun i hi => ⟨h1 i hi, (hT.2.2 i hi).2⟩, fun j hj => ?_⟩
  rw [F1.2.1 _ _ (decide_eq_false (by omega)), gL_I]
  exact hw j hj
theorem m_take1 (hT : MKp σ t n) (hw : W94 σ) {Q : ab_S → Prop} (h : ∀ τ, FM (fun a i => decide ((a = 92 ∧ i = 8) ∨ a = 96)) σ τ → MT τ t n → Q τ) : wX12_takeText 1 Q E σ := by
  unfold wX12_takeText
  refine no (by decide) ?_
  unfold wX12_takeText_j16
  rw [hT.2.1]
  refine fe ?_
  have F0 : FM (fun a i => decide ((a = 92 ∧ i = 8) ∨ a = 96)) σ (ab_I σ 92 8 (nI n)) := (FM.rf _ σ).I (decide_eq_true (by omega))
  refine m_takeL (t := t) (n := n) (Or.inr ⟨by decide, rfl⟩) hT.1 (fun i hi => by rw [gI_I, if_neg (by decide)]; exact (hT.2.2 i hi).1) (by rw [gI_I, if_pos rfl, if_pos rfl]) (fun τ F1 h1 => ?_)
  refine h τ (F0.tr (F1.mono (fun a i y => by have y := of_decide_eq_false y; exact decide_eq_false (by omega)))) ⟨hT.1, by rw [F1.1 _ _ (decide_eq_false (by omega)), gI_I, if_pos rfl, if_pos rfl], fun i hi => ⟨h1 i hi, (hT.2.2 i hi).2⟩, fun j hj => ?_⟩
  rw [F1.2.1 _ _ (decide_eq_false (by omega)), gL_I]
  exact hw j hj
theorem m_order (hV : GRV Γ) (hlm : Γ.2.2.2.1 ≤ 2400) (hC : MGr σ Γ) (hG : ordA Γ = none → GOK Γ) {Q : Int32 → ab_S → Prop} (h1 : ∀ v, ordA Γ = some v → ∀ τ, FM Smo σ τ → Q (nI v) τ) (h0 : ordA Γ = none → ∀ τ, FM Smo σ τ → MWh τ Γ → Q (-1) τ) : wX12_order Q E σ := by
  have h30 := hV.2.1
  unfold wX12_order
  refine m_order0 hV hlm hC (fun v hv τ F => ?_) (fun ho τ F1 I1 L1 => ?_)
  · have hb : v < 5000 := by
      unfold ordA at hv
      split at hv
      · rename_i z; injection hv with hv; omega
      · split at hv
        · rename_i z; injection hv with hv; omega
        · exact absurd hv (by simp)
    exact yes (by show nI 0 ≤ nI v; simp (disch := omega) only [nI_lit, nI_add, nI_mulE, nI_clampE, nI_eqE, nI_leE, nI_ltE, vp_nIE, true_and, and_true]; omega) (h1 v hv τ (F.mono (fun a i y => by have y := of_decide_eq_false y; exact decide_eq_false (by omega))))
  · refine no (by decide) ?_
    obtain ⟨_, hL, hx, hp, _, _⟩ := hG ho
    have C1 : MGr τ Γ := hC.fm hV F1 ⟨decide_eq_false (by omega), decide_eq_false (by omega), decide_eq_false (by omega)⟩ (fun a i q1 q2 => decide_eq_false (by omega))
    refine m_mk ⟨C1, L1, hlm⟩ hV hL (fun τ2 F2 X2 P2 _ => ?_)
    refine m_fD X2 hV hL P2 (fun τ3 F3 D3 => ?_)
    have X3 := X2.s122 hV F3
    have P3 : ∀ p, p < Γ.2.1 → MPf τ3 Γ p := fun p hp => (P2 p hp).s122 F3
    refine m_finS X3 hV hL P3 D3 hx (fun τ4 F4 S4 => ?_)
    have X4 : MXg τ4 Γ := X3.fm hV F4 ⟨decide_eq_false (by omega), decide_eq_false (by omega), decide_eq_false (by omega)⟩ (fun a i q1 q2 => decide_eq_false (by omega))
    have P4 : ∀ p, p < Γ.2.1 → MPf τ4 Γ p := fun p hp => (P3 p hp).fm F4 (fun a i q1 q2 => decide_eq_false (by omega))
    refine m_mkP X4 P4 S4 hV hL hp (fun τ5 F5 W5 P5 => ?_)
    have G1 : FM Smo σ τ := F1.mono (fun a i y => by have y := of_decide_eq_false y; exact decide_eq_false (by omega))
    have G2 : FM (fun a i => decide ((a = 92 ∧ (i = 28 ∨ i = 74)) ∨ (113 ≤ a ∧ a ≤ 123) ∨ (146 ≤ a ∧ a ≤ 153))) τ τ5 := (((F2.mono (fun a i y => by have y := of_decide_eq_false y; exact decide_eq_false (by omega))).tr (F3.mono (fun a i y => by have y := of_decide_eq_false y; exact decide_eq_false (by omega)))).tr (F4.mono (fun a i y => by have y := of_decide_eq_false y; exact decide_eq_false (by omega)))).tr (F5.mono (fun a i y => by have y := of_decide_eq_false y; exact decide_eq_false (by omega)))
    refine h0 ho τ5 (G1.tr (G2.mono (fun a i y => by have y := of_decide_eq_false y; exact decide_eq_false (by omega)))) ⟨W5, P5, fun s hs a ha => ?_⟩
    rw [G2.2.1 _ _ (decide_eq_false (by omega))]
    exact I1 s hs a ha
/-- the grammar that is taken is read anew -/
theorem m_again (hK : MKp σ tk nk) (hw : W94 σ) (hg : (pGr tk nk).1 = true) (ho : ordA (pGr tk nk).2.2 = none) {Q : ab_S → Prop} (h : ∀ τ, FM Smh σ τ → MWh τ (pGr tk nk).2.2 → Q τ) : wX12_takeText 1 (fun σ7 => wX12_readGrammar (fun σ8 => wX12_order (fun _ σ9 => Q σ9) E σ8) E σ7) E σ := by
  refine m_take1 hK hw (fun τ F1 T1 => ?_)
  refine m_read T1 (fun _ τ2 F2 O2 G2 V2 => ?_) (fun hf => by rw [hg] at hf; exact absurd hf (by decide))
  have hb := pGr_w hg
  have hn := hK.1
  refine m_order V2 (by omega) G2 (fun z => gok hn hg V2 z) (fun v hv => by rw [ho] at hv; exact absurd hv (by simp)) (fun _ τ3 F3 W3 => h τ3 ?_ W3)
  exact ((F1.mono (fun a i y => by have y := of_decide_eq_false y; exact decide_eq_false (by omega))).tr (F2.mono (fun a i y => by have y := of_decide_eq_false y; simp [SMr]; omega))).tr (F3.mono (fun a i y => by have y := of_decide_eq_false y; exact decide_eq_false (by omega)))
theorem m_gram (hT : MTx σ t n) (hw : W94 σ) {b : Bool} (h4 : σ.2.1 92 4 = if b then 1 else 0) (hK : b = true → MKp σ tk nk ∧ (pGr tk nk).1 = true ∧ ordA (pGr tk nk).2.2 = none) {Q : Int32 → ab_S → Prop} (kf : ∀ v τ, ((pGr t n).1 = false ∧ v = (pGr t n).2.1) ∨ ((pGr t n).1 = true ∧ ordA (pGr t n).2.2 = some v) → FM Smg σ τ → τ.2.1 92 0 = 0 → (b = true → MWh τ (pGr tk nk).2.2) → Q (nI v) τ) (kt : (pGr t n).1 = true → ordA (pGr t n).2.2 = none → ∀ τ, FM Smg2 σ τ → τ.2.1 92 0 = 0 → τ.2.1 92 4 = 1 → τ.2.1 92 52 = 0 → τ.2.1 92 83 = 0 → MKp τ t n → MWh τ (pGr t n).2.2 → Q (-1) τ) : wX12_grammar Q E σ := by
  have hn := hT.1
  unfold wX12_grammar
  refine fe ?_
  generalize hσ1 : ab_I σ 92 0 0 = σ1
  have f1 : FM (fun a i => decide (a = 92 ∧ i = 0)) σ σ1 := by rw [← hσ1]; exact (FM.rf _ σ).I (decide_eq_true (by omega))
  have z1 : σ1.2.1 92 0 = 0 := by rw [← hσ1, gI_I, if_pos rfl, if_pos rfl]
  clear hσ1
  have T1 : MTx σ1 t n := ⟨hn, by rw [f1.1 _ _ (decide_eq_false (by omega))]; exact hT.2.1, fun i hi => by rw [f1.1 _ _ (decide_eq_false (by omega))]; exact hT.2.2 i hi⟩
  have w1 : W94 σ1 := fun j hj => by rw [f1.2.1 _ _ (decide_eq_false (by omega))]; exact hw j hj
  refine m_take0 T1 w1 (fun τ F1 T2 => ?_)
  -- a fault
  have mh : ∀ a i, Smg a i = false → Smh a i = false := fun a i y => by have y := of_decide_eq_false y; exact decide_eq_false (by omega)
  have bad : ∀ v τ', v < 5000 → ((pGr t n).1 = false ∧ v = (pGr t n).2.1) ∨ ((pGr t n).1 = true ∧ ordA (pGr t n).2.2 = some v) → FM Smh σ1 τ' → wX12_grammar_j32 Q E (nI v) τ' := by
    intro v τ' hv hc F
    have F' : FM Smg σ τ' := (f1.mono (fun a i y => by have y := of_decide_eq_false y; exact decide_eq_false (by omega))).tr (F.mono mh)
    have z' : τ'.2.1 92 0 = 0 := by rw [F.1 _ _ (decide_eq_false (by omega))]; exact z1
    unfold wX12_grammar_j32
    refine no (nI_pos (by omega)) ?_
    have h4' : τ'.2.1 92 4 = if b then 1 else 0 := by rw [F'.1 _ _ (decide_eq_false (by omega))]; exact h4
    rw [h4']
    cases b
    · exact yes rfl (kf v τ' hc F' z' (fun z => absurd z (by decide)))
    · obtain ⟨k1, k2, k3⟩ := hK rfl
      refine no (by decide) ?_
      have K' : MKp τ' tk nk := ⟨k1.1, by rw [F'.1 _ _ (decide_eq_false (by omega))]; exact k1.2.1, fun i hi => by rw [F'.1 _ _ (decide_eq_false (by omega))]; exact k1.2.2 i hi⟩
      have w' : W94 τ' := fun j hj => by rw [F'.2.1 _ _ (decide_eq_false (by omega))]; exact hw j hj
      exact m_again K' w' k2 k3 (fun τ'' F'' W'' => kf v τ'' hc (F'.tr (F''.mono mh)) (by rw [F''.1 _ _ (decide_eq_false (by omega))]; exact z') (fun _ => W''))
  have H1 : FM Smh σ1 τ := F1.mono (fun a i y => by have y := of_decide_eq_false y; exact decide_eq_false (by omega))
  have smr : ∀ a i, Smh a i = false → SMr a i = false := fun a i y => by have y := of_decide_eq_false y; simp [SMr]; omega
  refine m_read T2 (fun hg τ2 F2 O2 G2 V2 => ?_) (fun hg τ2 F2 B2 => ?_)
  · have H2 : FM Smh σ1 τ2 := H1.tr (F2.mono smr)
    refine m_goodY O2 (no (by decide) ?_)
    have hb := pGr_w hg
    have h30 := V2.2.1
    refine m_order V2 (by omega) G2 (fun z => gok hn hg V2 z) (fun v hv τ3 F3 => ?_) (fun ho τ3 F3 W3 => ?_)
    · have hv5 : v < 5000 := by
        unfold ordA at hv
        split at hv
        · rename_i z; injection hv with hv; omega
        · split at hv
          · rename_i z; injection hv with hv; omega
          · exact absurd hv (by simp)
      exact bad v τ3 hv5 (Or.inr ⟨hg, hv⟩) (H2.tr (F3.mono (fun a i y => by have y := of_decide_eq_false y; exact decide_eq_false (by omega))))
    · have H3 : FM Smh σ1 τ3 := H2.tr (F3.mono (fun a i y => by have y := of_decide_eq_false y; exact decide_eq_false (by omega)))
      have e8 : τ3.2.1 92 8 = nI n := by rw [F3.1 _ _ (decide_eq_false (by omega)), F2.1 _ _ rfl]; exact T2.2.1
      have e96 : ∀ i, i < n → τ3.2.1 96 i = nI (t i) := fun i hi => by rw [F3.1 _ _ (decide_eq_false (by omega)), F2.1 _ _ (by simp [SMr])]; exact (T2.2.2.1 i hi).1
      unfold wX12_grammar_j32
      refine yes (by decide) ?_
      rw [e8]
      refine fe ⟨n + 1, ?_⟩
      generalize hτ4 : ab_I τ3 92 6 (nI n) = τ4
      have f4 : FM (fun a i => decide (a = 92 ∧ i = 6)) τ3 τ4 := by rw [← hτ4]; exact (FM.rf _ τ3).I (decide_eq_true (by omega))
      have e6 : τ4.2.1 92 6 = nI n := by rw [← hτ4, gI_I, if_pos rfl, if_pos rfl]
      clear hτ4
      suffices H : ∀ f i τ, n - i = f → i ≤ n → FM (fun a _ => decide (a = 95)) τ4 τ → (∀ j, j < i → τ.2.1 95 j = nI (t j)) → wX12_grammar_l70 Q E (wX12_grammar_j96 Q E) (f + 1) (nI i) τ from H _ 0 τ4 rfl (Nat.zero_le _) (FM.rf _ _) (fun j hj => absurd hj (Nat.not_lt_zero _))
      intro f
      induction f with
      | zero =>
        intro i τ5 hf hi hF hd
        have e : i = n := by omega
        rw [e] at hd
        show wX12_grammar_l70_b _ _ _ _ _ _
        unfold wX12_grammar_l70_b
        rw [hF.1 92 _ (decide_eq_false (by omega)), e6]
        refine yes (by simp (disch := omega) only [nI_lit, nI_add, nI_mulE, nI_clampE, nI_eqE, nI_leE, nI_ltE, vp_nIE, true_and, and_true]; omega) ?_
        unfold wX12_grammar_j96
        refine fe (fe (fe ?_))
        generalize hτ6 : ab_I (ab_I (ab_I τ5 92 4 1) 92 52 0) 92 83 0 = τ6
        have f6 : FM (fun a i => decide (a = 92 ∧ (i = 4 ∨ i = 52 ∨ i = 83))) τ5 τ6 := by rw [← hτ6]; exact (((FM.rf _ τ5).I (decide_eq_true (by omega))).I (decide_eq_true (by omega))).I (decide_eq_true (by omega))
        have g4 : τ6.2.1 92 4 = 1 := by rw [← hτ6, gI_I, if_pos rfl, if_neg (by decide), gI_I, if_pos rfl, if_neg (by decide), gI_I, if_pos rfl, if_pos rfl]
        have g52 : τ6.2.1 92 52 = 0 := by rw [← hτ6, gI_I, if_pos rfl, if_neg (by decide), gI_I, if_pos rfl, if_pos rfl]
        have g83 : τ6.2.1 92 83 = 0 := by rw [← hτ6, gI_I, if_pos rfl, if_pos rfl]
        clear hτ6
        have F36 : FM (fun a i => decide ((a = 92 ∧ (i = 4 ∨ i = 6 ∨ i = 52 ∨ i = 83)) ∨ a = 95)) τ3 τ6 := ((f4.mono (fun a i y => by have y := of_decide_eq_false y; exact decide_eq_false (by omega))).tr (hF.mono (fun a i y => by have y := of_decide_eq_false y; exact decide_eq_false (by omega)))).tr (f6.mono (fun a i y => by have y := of_decide_eq_false y; exact decide_eq_false (by omega)))
        have F6 : FM Smg2 σ τ6 := ((f1.mono (fun a i y => by have y := of_decide_eq_false y; exact decide_eq_false (by omega))).tr (H3.mono (fun a i y => by have y := of_decide_eq_false y; exact decide_eq_false (by omega)))).tr (F36.mono (fun a i y => by have y := of_decide_eq_false y; exact decide_eq_false (by omega)))
        refine kt hg ho τ6 F6 ?_ g4 g52 g83 ⟨hn, ?_, fun j hj => ⟨?_, (hT.2.2 j hj).2⟩⟩ ⟨W3.1.fm V2 F36 (fun a i q => decide_eq_false (by omega)), ⟨W3.2.1.1.fm F36 (fun a i q => decide_eq_false (by omega)), fun p v q1 q2 q3 => ?_⟩, fun s hs a ha => ?_⟩
        · rw [F36.1 _ _ (decide_eq_false (by omega)), H3.1 _ _ (decide_eq_false (by omega))]; exact z1
        · rw [f6.1 _ _ (decide_eq_false (by omega)), hF.1 _ _ (decide_eq_false (by omega))]; exact e6
        · rw [f6.1 _ _ (decide_eq_false (by omega))]; exact hd j hj
        · rw [F36.1 _ _ (decide_eq_false (by omega))]; exact W3.2.1.2 p v q1 q2 q3
        · rw [F36.2.1 _ _ (decide_eq_false (by omega))]; exact W3.2.2 s hs a ha
      | succ f ih =>
        intro i τ5 hf hi hF hd
        have ec : (nI i).toNatClampNeg = i := nI_clampE (by omega)
        show wX12_grammar_l70_b Q E (wX12_grammar_j96 Q E) (wX12_grammar_l70 Q E (wX12_grammar_j96 Q E) (f + 1)) (nI i) τ5
        unfold wX12_grammar_l70_b
        rw [hF.1 92 _ (decide_eq_false (by omega)), e6, ec, hF.1 96 _ (decide_eq_false (by omega)), f4.1 96 _ (decide_eq_false (by omega)), e96 i (by omega), nI_1]
        refine no (by simp (disch := omega) only [nI_lit, nI_add, nI_mulE, nI_clampE, nI_eqE, nI_leE, nI_ltE, vp_nIE, true_and, and_true]; omega) ⟨by simp (disch := omega) only [nI_lit, nI_add, nI_mulE, nI_clampE, nI_eqE, nI_leE, nI_ltE, vp_nIE, true_and, and_true]; omega, by simp (disch := omega) only [nI_lit, nI_add, nI_mulE, nI_clampE, nI_eqE, nI_leE, nI_ltE, vp_nIE, true_and, and_true]; omega, fe (fe (ih (i + 1) _ (by omega) (by omega) (hF.I (decide_eq_true rfl)) (fun j hj => ?_)))⟩
        rw [gI_I, if_pos rfl]
        by_cases e : j = i
        · rw [if_pos e, e]
        · rw [if_neg e]; exact hd j (by omega)
  · have H2 : FM Smh σ1 τ2 := H1.tr (F2.mono smr)
    unfold wX12_good
    rw [B2.1]
    have hle := B2.2
    refine yes (by show nI 0 ≤ nI _; simp (disch := omega) only [nI_lit, nI_add, nI_mulE, nI_clampE, nI_eqE, nI_leE, nI_ltE, vp_nIE, true_and, and_true]; omega) (yes rfl ?_)
    rw [B2.1]
    exact bad _ τ2 (by omega) (Or.inl ⟨hg, rfl⟩) H2
end MG
