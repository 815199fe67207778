/-! ===== whether a grammar is ordered, the model's ===== -/
section ML
variable {σ : ab_S} {p : Nat} {Γ : GRT} {r : MX2} {E : String → ab_S → Prop}
theorem m_crL (hO : OM σ Γ.1 (Γ.2.2.1 p) p) (hcn : ∀ s, s < Γ.1.1 → σ.2.1 99 s = nI (Γ.1.2.2.1 s)) (hL : MLs σ Γ) {o a : Nat} (ho : o ≤ (Γ.2.2.1 p).2.1) (ha : a < Γ.1.2.2.1 ((Γ.2.2.1 p).2.2.1 o)) {Q : ab_S → Prop} {K177 : Int32 → Int32 → Int32 → Int32 → ab_S → Prop} (h : ∀ τ, FM (Srm p) σ τ → RwM τ p (mixf (8 * o + a + 1) (oAdd (Γ.2.2.1 p) (lvR Γ) r) r) → K177 (nI p) (nI o) (nI ((Γ.2.2.1 p).2.2.1 o)) (nI a) τ) : ∀ f b τ, Γ.1.2.2.1 ((Γ.2.2.1 p).2.2.1 o) - b = f → b ≤ Γ.1.2.2.1 ((Γ.2.2.1 p).2.2.1 o) → FM (Srm p) σ τ → (∀ x, x < 32 → x ≠ 8 * o + a → B64 (τ.2.2.1 109 (32 * p + x)) (mixf (8 * o + a) (oAdd (Γ.2.2.1 p) (lvR Γ) r) r x)) → B64 (τ.2.2.1 109 (32 * p + (8 * o + a))) (fun y => r (8 * o + a) y || (decide (y / 8 = o ∧ y % 8 < b) && lvR Γ ((Γ.2.2.1 p).2.2.1 o) a (y % 8))) → wX12_cross_l55 Q E K177 (f + 1) (nI p) (nI o) (nI ((Γ.2.2.1 p).2.2.1 o)) (nI a) (nI b) τ := by
  obtain ⟨h30, h3, h12, hrt, hoc, hc8⟩ := hO
  obtain ⟨o1, o2⟩ := hoc o ho
  have c8 := hc8 _ o2
  have c1 := hcn _ o2
  intro f
  induction f with
  | zero =>
    intro b τ hf hb hF hR hB
    show wX12_cross_l55_b _ _ _ _ _ _ _ _ _ _
    unfold wX12_cross_l55_b
    rw [nI_clampE (by omega), hF.1 _ _ (decide_eq_false (by omega)), c1]
    refine ⟨by simp (disch := omega) only [nI_lit, nI_add, nI_mulE, nI_clampE, nI_eqE, nI_leE, nI_ltE, vp_nIE, true_and, and_true]; omega, yes (by simp (disch := omega) only [nI_lit, nI_add, nI_mulE, nI_clampE, nI_eqE, nI_leE, nI_ltE, vp_nIE, true_and, and_true]; omega) (h τ hF (fun x hx => ?_))⟩
    by_cases e : x = 8 * o + a
    · subst e
      rw [mixf_l (by omega)]
      refine hB.cg (fun y _ => ?_)
      unfold oAdd
      rw [show (8 * o + a) / 8 = o by omega, show (8 * o + a) % 8 = a by omega, decide_eq_true ho, Bool.true_and]
      congr 1
      by_cases z : y / 8 = o
      · rw [decide_eq_true z.symm]
        by_cases w : y % 8 < b
        · rw [decide_eq_true (show y / 8 = o ∧ y % 8 < b from ⟨z, w⟩)]
        · rw [decide_eq_false (show ¬ (y / 8 = o ∧ y % 8 < b) from fun q => w q.2)]
          cases hl : lvR Γ ((Γ.2.2.1 p).2.2.1 o) a (y % 8)
          · rfl
          · have := (lvR_V Γ _ _ _ hl).2.2; omega
      · rw [decide_eq_false (show ¬ o = y / 8 from fun q => z q.symm), decide_eq_false (show ¬ (y / 8 = o ∧ y % 8 < b) from fun q => z q.1)]
    · have := hR x hx e
      by_cases z : x < 8 * o + a
      · rw [mixf_l z] at this; rw [mixf_l (by omega)]; exact this
      · rw [mixf_r z] at this; rw [mixf_r (by omega)]; exact this
  | succ f ih =>
    intro b τ hf hb hF hR hB
    have e8 : ∀ z : Nat, (8 : Int32) * nI ((Γ.2.2.1 p).2.2.1 o) + nI z = nI (8 * (Γ.2.2.1 p).2.2.1 o + z) := fun z => by show nI 8 * _ + _ = _; rw [nI_mulE, nI_add]
    have e32 : (32 : Int32) * nI p + 8 * nI o + nI a = nI (32 * p + (8 * o + a)) := by
      show nI 32 * nI p + nI 8 * nI o + _ = _
      rw [nI_mulE, nI_mulE, nI_add, nI_add]; congr 1; omega
    have eob : (8 : Int32) * nI o + nI b = nI (8 * o + b) := by show nI 8 * nI o + _ = _; rw [nI_mulE, nI_add]
    have ev : vp_in (nI (32 * p + (8 * o + a))) 992 := by simp (disch := omega) only [nI_lit, nI_add, nI_mulE, nI_clampE, nI_eqE, nI_leE, nI_ltE, vp_nIE, true_and, and_true]; omega
    have ec : (nI (32 * p + (8 * o + a))).toNatClampNeg = 32 * p + (8 * o + a) := nI_clampE (by omega)
    have l1 := (hL _ o2).1 b (by omega)
    have l2 := (hL _ o2).1 a (by omega)
    have t1 := slv_lt Γ ((Γ.2.2.1 p).2.2.1 o) b
    have t2 := slv_lt Γ ((Γ.2.2.1 p).2.2.1 o) a
    show wX12_cross_l55_b Q E K177 (wX12_cross_l55 Q E K177 (f + 1)) (nI p) (nI o) (nI ((Γ.2.2.1 p).2.2.1 o)) (nI a) (nI b) τ
    unfold wX12_cross_l55_b
    rw [e8, e8, nI_clampE (show (Γ.2.2.1 p).2.2.1 o < 2147483648 by omega), nI_clampE (show 8 * (Γ.2.2.1 p).2.2.1 o + b < 2147483648 by omega), nI_clampE (show 8 * (Γ.2.2.1 p).2.2.1 o + a < 2147483648 by omega), hF.1 99 _ (decide_eq_false (by omega)), hF.1 111 _ (decide_eq_false (by omega)), hF.1 111 _ (decide_eq_false (by omega)), c1, l1, l2, nI_1]
    refine ⟨by simp (disch := omega) only [nI_lit, nI_add, nI_mulE, nI_clampE, nI_eqE, nI_leE, nI_ltE, vp_nIE, true_and, and_true]; omega, no (by simp (disch := omega) only [nI_lit, nI_add, nI_mulE, nI_clampE, nI_eqE, nI_leE, nI_ltE, vp_nIE, true_and, and_true]; omega) ⟨by simp (disch := omega) only [nI_lit, nI_add, nI_mulE, nI_clampE, nI_eqE, nI_leE, nI_ltE, vp_nIE, true_and, and_true]; omega, by simp (disch := omega) only [nI_lit, nI_add, nI_mulE, nI_clampE, nI_eqE, nI_leE, nI_ltE, vp_nIE, true_and, and_true]; omega, ?_⟩⟩
    have fin : ∀ v : Int64, B64 v (fun y => r (8 * o + a) y || (decide (y / 8 = o ∧ y % 8 < b + 1) && lvR Γ ((Γ.2.2.1 p).2.2.1 o) a (y % 8))) → wX12_cross_j170 Q E K177 (wX12_cross_l55 Q E K177 (f + 1)) (nI p) (nI o) (nI ((Γ.2.2.1 p).2.2.1 o)) (nI a) (nI b) v (nI (32 * p + (8 * o + a))) τ := by
      intro v hv
      unfold wX12_cross_j170
      rw [ec, nI_1]
      refine ⟨ev, fe (fe (ih (b + 1) _ (by omega) (by omega) (hF.L (decide_eq_true (by omega))) (fun x hx hne => ?_) ?_))⟩
      · rw [gL_L, if_pos rfl, if_neg (by omega)]; exact hR x hx hne
      · rw [gL_L, if_pos rfl, if_pos rfl]; exact hv
    have hlv : lvR Γ ((Γ.2.2.1 p).2.2.1 o) a b = decide (slv Γ ((Γ.2.2.1 p).2.2.1 o) b = slv Γ ((Γ.2.2.1 p).2.2.1 o) a + 1) := by
      unfold lvR
      rw [decide_eq_decide]
      exact ⟨fun z => z.2.2.2, fun z => ⟨o2, ha, by omega, z⟩⟩
    by_cases hn : slv Γ ((Γ.2.2.1 p).2.2.1 o) b = slv Γ ((Γ.2.2.1 p).2.2.1 o) a + 1
    · refine no (fun z => z (by rw [hn])) ?_
      unfold wX12_cross_j100
      rw [e32, ec, eob]
      refine no (by decide) ⟨ev, fin _ ?_⟩
      refine (hB.or (B64.one (s := 8 * o + b) (by omega))).cg (fun y hy => ?_)
      rw [decide_eq_true hn] at hlv
      rw [Bool.or_assoc]
      congr 1
      by_cases z : y = 8 * o + b
      · rw [decide_eq_true z, Bool.or_true, decide_eq_true (show y / 8 = o ∧ y % 8 < b + 1 by omega), show y % 8 = b by omega, hlv]; rfl
      · rw [decide_eq_false z, Bool.or_false]
        by_cases w : y / 8 = o ∧ y % 8 < b
        · rw [decide_eq_true w, decide_eq_true (show y / 8 = o ∧ y % 8 < b + 1 by omega)]
        · rw [decide_eq_false w, decide_eq_false (show ¬ (y / 8 = o ∧ y % 8 < b + 1) by omega)]
    · refine yes (by simp (disch := omega) only [nI_lit, nI_add, nI_mulE, nI_clampE, nI_eqE, nI_leE, nI_ltE, vp_nIE, true_and, and_true]; exact hn) ?_
      unfold wX12_cross_j100
      rw [e32, ec]
      refine yes rfl ⟨ev, fin _ ?_⟩
      refine hB.cg (fun y hy => ?_)
      rw [decide_eq_false hn] at hlv
      congr 1
      by_cases z : y = 8 * o + b
      · rw [decide_eq_true (show y / 8 = o ∧ y % 8 < b + 1 by omega), show y % 8 = b by omega, hlv]; simp
      · by_cases w : y / 8 = o ∧ y % 8 < b
        · rw [decide_eq_true w, decide_eq_true (show y / 8 = o ∧ y % 8 < b + 1 by omega)]
        · rw [decide_eq_false w, decide_eq_false (show ¬ (y / 8 = o ∧ y % 8 < b + 1) by omega)]
theorem m_crA (hO : OM σ Γ.1 (Γ.2.2.1 p) p) (hcn : ∀ s, s < Γ.1.1 → σ.2.1 99 s = nI (Γ.1.2.2.1 s)) (hL : MLs σ Γ) (hR : RwM σ p r) {Q : ab_S → Prop} {K189 : Int32 → ab_S → Prop} (h : ∀ τ, FM (Srm p) σ τ → RwM τ p (oAdd (Γ.2.2.1 p) (lvR Γ) r) → K189 (nI p) τ) : ∃ n, wX12_cross_l17 Q E K189 n (nI p) 0 σ := by
  have hO0 := hO
  obtain ⟨h30, h3, h12, hrt, hoc, hc8⟩ := hO
  refine ⟨(Γ.2.2.1 p).2.1 + 2, ?_⟩
  suffices H : ∀ f o τ, (Γ.2.2.1 p).2.1 + 1 - o = f → o ≤ (Γ.2.2.1 p).2.1 + 1 → FM (Srm p) σ τ → RwM τ p (mixf (8 * o) (oAdd (Γ.2.2.1 p) (lvR Γ) r) r) → wX12_cross_l17 Q E K189 (f + 1) (nI p) (nI o) τ by
    refine H ((Γ.2.2.1 p).2.1 + 1) 0 σ rfl (by omega) (FM.rf _ _) (fun x hx => ?_)
    rw [mixf_r (by omega)]; exact hR x hx
  intro f
  induction f with
  | zero =>
    intro o τ hf ho hF hr
    show wX12_cross_l17_b _ _ _ _ _ _ _
    unfold wX12_cross_l17_b
    rw [nI_clampE (by omega), hF.1 _ _ (decide_eq_false (by omega)), hrt]
    refine ⟨by simp (disch := omega) only [nI_lit, nI_add, nI_mulE, nI_clampE, nI_eqE, nI_leE, nI_ltE, vp_nIE, true_and, and_true]; omega, yes (by simp (disch := omega) only [nI_lit, nI_add, nI_mulE, nI_clampE, nI_eqE, nI_leE, nI_ltE, vp_nIE, true_and, and_true]; omega) (h τ hF (fun x hx => ?_))⟩
    have := hr x hx
    by_cases z : x < 8 * o
    · rw [mixf_l z] at this; exact this
    · rw [mixf_r z] at this
      refine this.cg (fun y _ => ?_)
      unfold oAdd
      rw [decide_eq_false (show ¬ x / 8 ≤ (Γ.2.2.1 p).2.1 by omega)]; simp
  | succ f ih =>
    intro o τ hf ho hF hr
    obtain ⟨o1, o2⟩ := hoc o (by omega)
    have c8 := hc8 _ o2
    have e4 : (4 : Int32) * nI p + nI o = nI (4 * p + o) := by show nI 4 * nI p + _ = _; rw [nI_mulE, nI_add]
    show wX12_cross_l17_b Q E K189 (wX12_cross_l17 Q E K189 (f + 1)) (nI p) (nI o) τ
    unfold wX12_cross_l17_b
    rw [e4, nI_clampE (show p < 2147483648 by omega), nI_clampE (show 4 * p + o < 2147483648 by omega), hF.1 103 _ (decide_eq_false (by omega)), hF.1 104 _ (decide_eq_false (by omega)), hrt, o1]
    refine ⟨by simp (disch := omega) only [nI_lit, nI_add, nI_mulE, nI_clampE, nI_eqE, nI_leE, nI_ltE, vp_nIE, true_and, and_true]; omega, no (by simp (disch := omega) only [nI_lit, nI_add, nI_mulE, nI_clampE, nI_eqE, nI_leE, nI_ltE, vp_nIE, true_and, and_true]; omega) ⟨by simp (disch := omega) only [nI_lit, nI_add, nI_mulE, nI_clampE, nI_eqE, nI_leE, nI_ltE, vp_nIE, true_and, and_true]; omega, fe ⟨Γ.1.2.2.1 ((Γ.2.2.1 p).2.2.1 o) + 1, ?_⟩⟩⟩
    suffices H2 : ∀ f2 a τ, Γ.1.2.2.1 ((Γ.2.2.1 p).2.2.1 o) - a = f2 → a ≤ Γ.1.2.2.1 ((Γ.2.2.1 p).2.2.1 o) → FM (Srm p) σ τ → RwM τ p (mixf (8 * o + a) (oAdd (Γ.2.2.1 p) (lvR Γ) r) r) → wX12_cross_l41 Q E (wX12_cross_j183 Q E K189 (wX12_cross_l17 Q E K189 (f + 1))) (f2 + 1) (nI p) (nI o) (nI ((Γ.2.2.1 p).2.2.1 o)) (nI a) τ from H2 _ 0 τ rfl (Nat.zero_le _) hF hr
    clear hF hr τ
    intro f2
    induction f2 with
    | zero =>
      intro a τ hf2 ha hF hr
      show wX12_cross_l41_b _ _ _ _ _ _ _ _ _
      unfold wX12_cross_l41_b
      rw [nI_clampE (by omega), hF.1 99 _ (decide_eq_false (by omega)), hcn _ o2]
      refine ⟨by simp (disch := omega) only [nI_lit, nI_add, nI_mulE, nI_clampE, nI_eqE, nI_leE, nI_ltE, vp_nIE, true_and, and_true]; omega, yes (by simp (disch := omega) only [nI_lit, nI_add, nI_mulE, nI_clampE, nI_eqE, nI_leE, nI_ltE, vp_nIE, true_and, and_true]; omega) ?_⟩
      unfold wX12_cross_j183
      rw [nI_1]
      refine fe (ih (o + 1) τ (by omega) (by omega) hF (fun x hx => ?_))
      have := hr x hx
      by_cases z : x < 8 * (o + 1)
      · rw [mixf_l z]
        by_cases w : x < 8 * o + a
        · rw [mixf_l w] at this; exact this
        · rw [mixf_r w] at this
          refine this.cg (fun y _ => ?_)
          unfold oAdd
          have : lvR Γ ((Γ.2.2.1 p).2.2.1 (x / 8)) (x % 8) (y % 8) = false := by
            cases hi : lvR Γ ((Γ.2.2.1 p).2.2.1 (x / 8)) (x % 8) (y % 8)
            · rfl
            · have := (lvR_V Γ _ _ _ hi).2.1
              have e : x / 8 = o := by omega
              rw [e] at this
              omega
          rw [this]; simp
      · rw [mixf_r (by omega)] at this
        rw [mixf_r z]; exact this
    | succ f2 ih2 =>
      intro a τ hf2 ha hF hr
      show wX12_cross_l41_b Q E (wX12_cross_j183 Q E K189 (wX12_cross_l17 Q E K189 (f + 1))) (wX12_cross_l41 Q E (wX12_cross_j183 Q E K189 (wX12_cross_l17 Q E K189 (f + 1))) (f2 + 1)) (nI p) (nI o) (nI ((Γ.2.2.1 p).2.2.1 o)) (nI a) τ
      unfold wX12_cross_l41_b
      rw [nI_clampE (by omega), hF.1 99 _ (decide_eq_false (by omega)), hcn _ o2]
      refine ⟨by simp (disch := omega) only [nI_lit, nI_add, nI_mulE, nI_clampE, nI_eqE, nI_leE, nI_ltE, vp_nIE, true_and, and_true]; omega, no (by simp (disch := omega) only [nI_lit, nI_add, nI_mulE, nI_clampE, nI_eqE, nI_leE, nI_ltE, vp_nIE, true_and, and_true]; omega) ⟨Γ.1.2.2.1 ((Γ.2.2.1 p).2.2.1 o) + 1, ?_⟩⟩
      refine m_crL (r := r) hO0 hcn hL (by omega) (by omega) (fun τ2 F2 R2 => ?_) _ 0 τ rfl (Nat.zero_le _) hF (fun x hx _ => hr x hx) ?_
      · unfold wX12_cross_j177
        rw [nI_1]
        exact fe (ih2 (a + 1) τ2 (by omega) (by omega) F2 R2)
      · have := hr (8 * o + a) (by omega)
        rw [mixf_r (by omega)] at this
        refine this.cg (fun y _ => ?_)
        rw [decide_eq_false (show ¬ (y / 8 = o ∧ y % 8 < 0) by omega)]; simp
theorem m_crs (hV : GRV Γ) (hlm : Γ.2.2.2.1 ≤ 2400) (hC : MGr σ Γ) (hL : MLs σ Γ) {Q : ab_S → Prop} (h : ∀ τ, FM (fun a _ => decide (a = 109)) σ τ → (∀ p, p < Γ.2.1 → RwM τ p (xR Γ p)) → Q τ) : wX12_cross Q E σ := by
  have h30 := hV.2.1
  refine ⟨Γ.2.1 + 1, ?_⟩
  suffices H : ∀ f p τ, Γ.2.1 - p = f → p ≤ Γ.2.1 → FM (fun a _ => decide (a = 109)) σ τ → (∀ p', p' < p → RwM τ p' (xR Γ p')) → wX12_cross_l2 Q E (f + 1) (nI p) τ from H Γ.2.1 0 σ rfl (Nat.zero_le _) (FM.rf _ _) (fun p' hp' => absurd hp' (by omega))
  intro f
  induction f with
  | zero =>
    intro p τ hf hp hF hR
    show wX12_cross_l2_b _ _ _ _ _
    unfold wX12_cross_l2_b
    rw [hF.1 92 14 (decide_eq_false (by omega)), hC.2.1]
    exact yes (by simp (disch := omega) only [nI_lit, nI_add, nI_mulE, nI_clampE, nI_eqE, nI_leE, nI_ltE, vp_nIE, true_and, and_true]; omega) (h τ hF (fun p' hp' => hR p' (by omega)))
  | succ f ih =>
    intro p τ hf hp hF hR
    have hC1 : MGr τ Γ := hC.fm hV hF ⟨rfl, rfl, rfl⟩ (fun a i h1 h2 => decide_eq_false (by omega))
    show wX12_cross_l2_b Q E (wX12_cross_l2 Q E (f + 1)) (nI p) τ
    unfold wX12_cross_l2_b
    rw [hC1.2.1]
    refine no (by simp (disch := omega) only [nI_lit, nI_add, nI_mulE, nI_clampE, nI_eqE, nI_leE, nI_ltE, vp_nIE, true_and, and_true]; omega) ?_
    refine m_dir hV (by omega) hlm (hC1.2.2.2 p (by omega)) (fun τ1 F1 R1 => ?_)
    have hF1 : FM (fun a _ => decide (a = 109)) σ τ1 := hF.tr (F1.mono (fun a i y => by have y := of_decide_eq_false y; exact decide_eq_false (by omega)))
    have hC2 : MGr τ1 Γ := hC.fm hV hF1 ⟨rfl, rfl, rfl⟩ (fun a i h1 h2 => decide_eq_false (by omega))
    have L2 : MLs τ1 Γ := fun s hs => ⟨fun a ha => by rw [hF1.1 _ _ (decide_eq_false (by omega))]; exact (hL s hs).1 a ha, by rw [hF1.1 _ _ (decide_eq_false (by omega))]; exact (hL s hs).2⟩
    refine m_crA (hC2.of hV (by omega)) (fun s hs => (hC2.1.2 s hs).2.1) L2 R1 (fun τ2 F2 R2 => ?_)
    unfold wX12_cross_j189
    refine m_fo (by omega) R2 (fun τ3 F3 R3 => ?_)
    rw [nI_1]
    have F13 := (F1.tr F2).tr F3
    refine fe (ih (p + 1) τ3 (by omega) (by omega) (hF.tr (F13.mono (fun a i y => by have y := of_decide_eq_false y; exact decide_eq_false (by omega)))) (fun p' hp' => ?_))
    by_cases e : p' = p
    · rw [e]; exact R3
    · intro x hx
      rw [F13.2.1 _ _ (decide_eq_false (by omega))]; exact hR p' (by omega) x hx
/-- what order0 answers -/
def ordA (Γ : GRT) : Option Nat := if fcr (oEnd Γ).1 Γ.2.1 < Γ.2.1 then some (2000 + fcr (oEnd Γ).1 Γ.2.1) else if fcr (xR Γ) Γ.2.1 < Γ.2.1 then some (3000 + fcr (xR Γ) Γ.2.1) else none
theorem fcr_no {R : MX3} {N : Nat} (h : ¬ fcr R N < N) : ∀ p, p < N → crc (R p) = false := by
  have H : ∀ f i, ¬ fcF R f i < i + f → ∀ p, i ≤ p → p < i + f → crc (R p) = false := by
    intro f
    induction f with
    | zero => intro i _ p a b; omega
    | succ f ih =>
      intro i hn p a b
      rw [fcF] at hn
      cases hc : crc (R i)
      · rw [hc, if_neg (by decide)] at hn
        by_cases e : p = i
        · rw [e]; exact hc
        · exact ih (i + 1) (by omega) p (by omega) (by omega)
      · rw [hc, if_pos rfl] at hn; omega
  intro p hp
  exact H N 0 (by unfold fcr at h; omega) p (Nat.zero_le _) (by omega)
def Sor : Nat → Nat → Bool := fun a _ => decide (109 ≤ a ∧ a ≤ 112)
theorem m_order0 (hV : GRV Γ) (hlm : Γ.2.2.2.1 ≤ 2400) (hC : MGr σ Γ) {Q : Int32 → ab_S → Prop} (h1 : ∀ v, ordA Γ = some v → ∀ τ, FM Sor σ τ → Q (nI v) τ) (h0 : ordA Γ = none → ∀ τ, FM Sor σ τ → InM τ (oEnd Γ).2 → MLs τ Γ → Q (-1) τ) : wX12_order0 Q E σ := by
  have h30 := hV.2.1
  unfold wX12_order0
  refine m_induce hV hlm hC (fun τ1 F1 O1 => ?_)
  have hC1 := hC.so hV F1
  have G1 : FM Sor σ τ1 := F1.mono (fun a i y => by have y := of_decide_eq_false y; exact decide_eq_false (by omega))
  refine m_turn (R := (oEnd Γ).1) hC1.2.1 h30 O1.1 ?_
  unfold fcI
  unfold ordA at h1 h0
  by_cases c1 : fcr (oEnd Γ).1 Γ.2.1 < Γ.2.1
  · rw [if_pos c1] at h1
    rw [if_pos c1]
    refine no (nI_pos (by omega)) ?_
    rw [show (2000 : Int32) + nI (fcr (oEnd Γ).1 Γ.2.1) = nI (2000 + fcr (oEnd Γ).1 Γ.2.1) by show nI 2000 + _ = _; rw [nI_add]]
    exact h1 _ rfl τ1 G1
  · rw [if_neg c1] at h1 h0
    rw [if_neg c1]
    refine yes (by decide) ?_
    refine m_slv hV hC1.1 O1.2 (fcr_no c1) (fun τ2 F2 L2 => ?_)
    have G2 : FM Sor σ τ2 := G1.tr (F2.mono (fun a i y => by have y := of_decide_eq_false y; exact decide_eq_false (by omega)))
    have hC2 : MGr τ2 Γ := hC1.fm hV F2 ⟨rfl, rfl, rfl⟩ (fun a i h1 h2 => decide_eq_false (by omega))
    unfold wX12_order0_j40
    refine m_crs hV hlm hC2 L2 (fun τ3 F3 R3 => ?_)
    have G3 : FM Sor σ τ3 := G2.tr (F3.mono (fun a i y => by have y := of_decide_eq_false y; exact decide_eq_false (by omega)))
    have hC3 : MGr τ3 Γ := hC2.fm hV F3 ⟨rfl, rfl, rfl⟩ (fun a i h1 h2 => decide_eq_false (by omega))
    refine m_turn (R := xR Γ) hC3.2.1 h30 R3 ?_
    unfold fcI
    by_cases c2 : fcr (xR Γ) Γ.2.1 < Γ.2.1
    · rw [if_pos c2] at h1
      rw [if_pos c2]
      refine no (nI_pos (by omega)) ?_
      rw [show (3000 : Int32) + nI (fcr (xR Γ) Γ.2.1) = nI (3000 + fcr (xR Γ) Γ.2.1) by show nI 3000 + _ = _; rw [nI_add]]
      exact h1 _ rfl τ3 G3
    · rw [if_neg c2] at h0
      rw [if_neg c2]
      refine yes (by decide) (h0 rfl τ3 G3 ?_ ?_)
      · intro s hs a ha
        rw [F3.2.1 _ _ (decide_eq_false (by omega)), F2.2.1 _ _ (decide_eq_false (by omega))]
        exact O1.2 s hs a ha
      · intro s hs
        exact ⟨fun a ha => by rw [F3.1 _ _ (decide_eq_false (by omega))]; exact (L2 s hs).1 a ha, by rw [F3.1 _ _ (decide_eq_false (by omega))]; exact (L2 s hs).2⟩
end ML
