/-! ===== order, the model's: exchange, the rounds, circles ===== -/
def Som : Nat → Nat → Bool := fun a _ => decide (a = 109 ∨ a = 110)
section ML
variable {σ : ab_S} {p : Nat} {G : SYT} {P : PRO} {I : MX3} {r : MX2} {E : String → ab_S → Prop}
theorem oVI8 (vI : oVI G I) (h8 : ∀ s, s < G.1 → G.2.2.1 s ≤ 8) {s a i : Nat} (hi : 8 ≤ i) : I s a i = false := by
  cases h : I s a i
  · rfl
  · obtain ⟨x, y, z⟩ := vI _ _ _ h
    have := h8 s x; omega
theorem m_exA (hO : OM σ G P p) (hR : RwM σ p r) (hI : InM σ I) (vI : oVI G I) {Q : Int32 → ab_S → Prop} {K90 : ab_S → Prop} (h : ∀ τ, FM (Srm p) σ τ → RwM τ p (oAdd P I r) → K90 τ) : ∃ n, wX12_exchange_l2 (nI p) Q E K90 n 0 σ := by
  obtain ⟨h30, h3, h12, hrt, hoc, hc8⟩ := hO
  refine ⟨P.2.1 + 2, ?_⟩
  suffices H : ∀ f o τ, P.2.1 + 1 - o = f → o ≤ P.2.1 + 1 → FM (Srm p) σ τ → RwM τ p (mixf (8 * o) (oAdd P I r) r) → wX12_exchange_l2 (nI p) Q E K90 (f + 1) (nI o) τ by
    refine H (P.2.1 + 1) 0 σ rfl (by omega) (FM.rf _ _) (fun x hx => ?_)
    rw [mixf_r (by omega)]; exact hR x hx
  intro f
  induction f with
  | zero =>
    intro o τ hf ho hF hr
    show wX12_exchange_l2_b _ _ _ _ _ _ _
    unfold wX12_exchange_l2_b
    rw [nI_clampE (by omega), hF.1 _ _ (decide_eq_false (by omega)), hrt]
    refine ⟨by simp (disch := omega) only [nI_lit, nI_add, nI_mulE, nI_clampE, nI_eqE, nI_leE, nI_ltE, vp_nIE, true_and, and_true]; omega, yes (by simp (disch := omega) only [nI_lit, nI_add, nI_mulE, nI_clampE, nI_eqE, nI_leE, nI_ltE, vp_nIE, true_and, and_true]; omega) (h τ hF (fun x hx => ?_))⟩
    have := hr x hx
    by_cases z : x < 8 * o
    · rw [mixf_l z] at this; exact this
    · rw [mixf_r z] at this
      refine this.cg (fun y _ => ?_)
      unfold oAdd
      rw [decide_eq_false (show ¬ x / 8 ≤ P.2.1 by omega)]; simp
  | succ f ih =>
    intro o τ hf ho hF hr
    obtain ⟨o1, o2⟩ := hoc o (by omega)
    have c8 := hc8 _ o2
    show wX12_exchange_l2_b (nI p) Q E K90 (wX12_exchange_l2 (nI p) Q E K90 (f + 1)) (nI o) τ
    unfold wX12_exchange_l2_b
    rw [nI_clampE (by omega), hF.1 _ _ (decide_eq_false (by omega)), hrt]
    refine ⟨by simp (disch := omega) only [nI_lit, nI_add, nI_mulE, nI_clampE, nI_eqE, nI_leE, nI_ltE, vp_nIE, true_and, and_true]; omega, no (by simp (disch := omega) only [nI_lit, nI_add, nI_mulE, nI_clampE, nI_eqE, nI_leE, nI_ltE, vp_nIE, true_and, and_true]; omega) ⟨9, ?_⟩⟩
    suffices H2 : ∀ f2 a τ, 8 - a = f2 → a ≤ 8 → FM (Srm p) σ τ → RwM τ p (mixf (8 * o + a) (oAdd P I r) r) → wX12_exchange_l14 (nI p) Q E (wX12_exchange_j84 (nI p) Q E K90 (wX12_exchange_l2 (nI p) Q E K90 (f + 1))) (f2 + 1) (nI o) (nI a) τ from H2 8 0 τ rfl (by omega) hF hr
    clear hF hr τ
    intro f2
    induction f2 with
    | zero =>
      intro a τ hf2 ha hF hr
      refine yes (by simp (disch := omega) only [nI_lit, nI_add, nI_mulE, nI_clampE, nI_eqE, nI_leE, nI_ltE, vp_nIE, true_and, and_true]; omega) ?_
      unfold wX12_exchange_j84
      rw [nI_1]
      have e : 8 * o + a = 8 * (o + 1) := by omega
      rw [e] at hr
      exact fe (ih (o + 1) τ (by omega) (by omega) hF hr)
    | succ f2 ih2 =>
      intro a τ hf2 ha hF hr
      have e32 : (32 : Int32) * nI p + 8 * nI o + nI a = nI (32 * p + (8 * o + a)) := by
        show nI 32 * nI p + nI 8 * nI o + _ = _
        rw [nI_mulE, nI_mulE, nI_add, nI_add]; congr 1; omega
      have e4 : (4 : Int32) * nI p + nI o = nI (4 * p + o) := by show nI 4 * nI p + _ = _; rw [nI_mulE, nI_add]
      have e8 : (8 : Int32) * nI (P.2.2.1 o) + nI a = nI (8 * P.2.2.1 o + a) := by show nI 8 * _ + _ = _; rw [nI_mulE, nI_add]
      have eo : (8 : Int32) * nI o = nI (8 * o) := by show nI 8 * nI o = _; rw [nI_mulE]
      have ev : vp_in (nI (32 * p + (8 * o + a))) 992 := by simp (disch := omega) only [nI_lit, nI_add, nI_mulE, nI_clampE, nI_eqE, nI_leE, nI_ltE, vp_nIE, true_and, and_true]; omega
      show wX12_exchange_l14_b (nI p) Q E (wX12_exchange_j84 (nI p) Q E K90 (wX12_exchange_l2 (nI p) Q E K90 (f + 1))) (wX12_exchange_l14 (nI p) Q E (wX12_exchange_j84 (nI p) Q E K90 (wX12_exchange_l2 (nI p) Q E K90 (f + 1))) (f2 + 1)) (nI o) (nI a) τ
      unfold wX12_exchange_l14_b
      rw [e32, e4, nI_clampE (show 4 * p + o < 2147483648 by omega), hF.1 104 _ (decide_eq_false (by omega)), o1, e8, eo, nI_clampE (show 32 * p + (8 * o + a) < 2147483648 by omega), nI_clampE (show 8 * P.2.2.1 o + a < 2147483648 by omega), hF.2.1 110 _ (decide_eq_false (by omega)), nI_1]
      refine no (by simp (disch := omega) only [nI_lit, nI_add, nI_mulE, nI_clampE, nI_eqE, nI_leE, nI_ltE, vp_nIE, true_and, and_true]; omega) ⟨ev, by simp (disch := omega) only [nI_lit, nI_add, nI_mulE, nI_clampE, nI_eqE, nI_leE, nI_ltE, vp_nIE, true_and, and_true]; omega, by simp (disch := omega) only [nI_lit, nI_add, nI_mulE, nI_clampE, nI_eqE, nI_leE, nI_ltE, vp_nIE, true_and, and_true]; omega, ev, fe (fe ?_)⟩
      refine ih2 (a + 1) _ (by omega) (by omega) (hF.L (decide_eq_true (by omega))) (fun x hx => ?_)
      rw [gL_L, if_pos rfl]
      have hrx := hr x hx
      by_cases e : x = 8 * o + a
      · subst e
        rw [if_pos rfl, mixf_l (by omega)]
        rw [mixf_r (by omega)] at hrx
        refine (hrx.or ((hI _ (by omega) a (by omega)).shl (o := o) (by omega) (fun i hi => oVI8 vI hc8 hi))).cg (fun y hy => ?_)
        unfold oAdd
        have d1 : (8 * o + a) / 8 = o := by omega
        have d2 : (8 * o + a) % 8 = a := by omega
        rw [d1, d2, decide_eq_true (show o ≤ P.2.1 by omega), Bool.true_and]
        congr 1
        by_cases z1 : o = y / 8
        · rw [decide_eq_true z1, decide_eq_true (show 8 * o ≤ y by omega), show y - 8 * o = y % 8 by omega]
        · rw [decide_eq_false z1, Bool.false_and]
          by_cases z2 : 8 * o ≤ y
          · rw [decide_eq_true z2, Bool.true_and]
            exact oVI8 vI hc8 (by omega)
          · rw [decide_eq_false z2, Bool.false_and]
      · rw [if_neg (by omega)]
        by_cases z : x < 8 * o + a
        · rw [mixf_l z] at hrx; rw [mixf_l (by omega)]; exact hrx
        · rw [mixf_r z] at hrx; rw [mixf_r (by omega)]; exact hrx
theorem m_exC (hO : OM σ G P p) (hR : RwM σ p r) (hI : InM σ I) {Q : Int32 → ab_S → Prop} (h : ∀ τ, FM (fun a _ => decide (a = 110)) σ τ → InM τ (oCo P r I) → Q (if oNw I (oCo P r I) then 1 else 0) τ) : ∃ n, wX12_exchange_l99 (nI p) Q E n 0 0 σ := by
  obtain ⟨h30, h3, h12, hrt, hoc, hc8⟩ := hO
  refine ⟨P.2.1 + 2, ?_⟩
  suffices H : ∀ f o τ, P.2.1 + 1 - o = f → o ≤ P.2.1 + 1 → FM (fun a _ => decide (a = 110)) σ τ → InM τ (oIc P r (8 * o) I) → wX12_exchange_l99 (nI p) Q E (f + 1) (if oNw I (oIc P r (8 * o) I) then 1 else 0) (nI o) τ by
    have := H (P.2.1 + 1) 0 σ rfl (by omega) (FM.rf _ _) (by rw [Nat.mul_zero, oIc_0]; exact hI)
    rw [Nat.mul_zero, oIc_0, oNw_rf] at this
    exact this
  intro f
  induction f with
  | zero =>
    intro o τ hf ho hF hi
    show wX12_exchange_l99_b _ _ _ _ _ _ _
    unfold wX12_exchange_l99_b
    rw [nI_clampE (by omega), hF.1 _ _ (decide_eq_false (by omega)), hrt]
    have e : oCo P r I = oIc P r (8 * o) I := by
      unfold oCo
      rw [oIc_e (z := 32) (by omega), oIc_e (z := 8 * o) (by omega)]
    rw [e] at h
    exact ⟨by simp (disch := omega) only [nI_lit, nI_add, nI_mulE, nI_clampE, nI_eqE, nI_leE, nI_ltE, vp_nIE, true_and, and_true]; omega, yes (by simp (disch := omega) only [nI_lit, nI_add, nI_mulE, nI_clampE, nI_eqE, nI_leE, nI_ltE, vp_nIE, true_and, and_true]; omega) ⟨by split <;> simp, h τ hF hi⟩⟩
  | succ f ih =>
    intro o τ hf ho hF hi
    obtain ⟨o1, o2⟩ := hoc o (by omega)
    have c8 := hc8 _ o2
    show wX12_exchange_l99_b (nI p) Q E (wX12_exchange_l99 (nI p) Q E (f + 1)) _ (nI o) τ
    unfold wX12_exchange_l99_b
    rw [nI_clampE (by omega), hF.1 _ _ (decide_eq_false (by omega)), hrt]
    refine ⟨by simp (disch := omega) only [nI_lit, nI_add, nI_mulE, nI_clampE, nI_eqE, nI_leE, nI_ltE, vp_nIE, true_and, and_true]; omega, no (by simp (disch := omega) only [nI_lit, nI_add, nI_mulE, nI_clampE, nI_eqE, nI_leE, nI_ltE, vp_nIE, true_and, and_true]; omega) ⟨9, ?_⟩⟩
    suffices H2 : ∀ f2 a τ, 8 - a = f2 → a ≤ 8 → FM (fun a _ => decide (a = 110)) σ τ → InM τ (oIc P r (8 * o + a) I) → wX12_exchange_l112 (nI p) Q E (wX12_exchange_j217 (nI p) Q E (wX12_exchange_l99 (nI p) Q E (f + 1))) (f2 + 1) (if oNw I (oIc P r (8 * o + a) I) then 1 else 0) (nI o) (nI a) τ from H2 8 0 τ rfl (by omega) hF hi
    clear hF hi τ
    intro f2
    induction f2 with
    | zero =>
      intro a τ hf2 ha hF hi
      refine yes (by simp (disch := omega) only [nI_lit, nI_add, nI_mulE, nI_clampE, nI_eqE, nI_leE, nI_ltE, vp_nIE, true_and, and_true]; omega) ?_
      unfold wX12_exchange_j217
      rw [nI_1]
      have e : 8 * o + a = 8 * (o + 1) := by omega
      rw [e] at hi ⊢
      exact fe (ih (o + 1) τ (by omega) (by omega) hF hi)
    | succ f2 ih2 =>
      intro a τ hf2 ha hF hi
      have e32 : (32 : Int32) * nI p + 8 * nI o + nI a = nI (32 * p + (8 * o + a)) := by
        show nI 32 * nI p + nI 8 * nI o + _ = _
        rw [nI_mulE, nI_mulE, nI_add, nI_add]; congr 1; omega
      have e4 : (4 : Int32) * nI p + nI o = nI (4 * p + o) := by show nI 4 * nI p + _ = _; rw [nI_mulE, nI_add]
      have e8 : (8 : Int32) * nI (P.2.2.1 o) + nI a = nI (8 * P.2.2.1 o + a) := by show nI 8 * _ + _ = _; rw [nI_mulE, nI_add]
      have eo : (8 : Int32) * nI o = nI (8 * o) := by show nI 8 * nI o = _; rw [nI_mulE]
      show wX12_exchange_l112_b (nI p) Q E (wX12_exchange_j217 (nI p) Q E (wX12_exchange_l99 (nI p) Q E (f + 1))) (wX12_exchange_l112 (nI p) Q E (wX12_exchange_j217 (nI p) Q E (wX12_exchange_l99 (nI p) Q E (f + 1))) (f2 + 1)) _ (nI o) (nI a) τ
      unfold wX12_exchange_l112_b
      rw [e32, e4, nI_clampE (show 4 * p + o < 2147483648 by omega), hF.1 104 _ (decide_eq_false (by omega)), o1, e8, eo, nI_clampE (show 32 * p + (8 * o + a) < 2147483648 by omega), hF.2.1 109 _ (decide_eq_false (by omega))]
      refine no (by simp (disch := omega) only [nI_lit, nI_add, nI_mulE, nI_clampE, nI_eqE, nI_leE, nI_ltE, vp_nIE, true_and, and_true]; omega) ⟨by simp (disch := omega) only [nI_lit, nI_add, nI_mulE, nI_clampE, nI_eqE, nI_leE, nI_ltE, vp_nIE, true_and, and_true]; omega, fe ⟨by simp (disch := omega) only [nI_lit, nI_add, nI_mulE, nI_clampE, nI_eqE, nI_leE, nI_ltE, vp_nIE, true_and, and_true]; omega, fe ?_⟩⟩
      have hv := (hR (8 * o + a) (by omega)).shr (o := o) (by omega)
      have hii := hi (P.2.2.1 o) (by omega) a (by omega)
      generalize (σ.2.2.1 109 (32 * p + (8 * o + a)) >>> ((nI (8 * o)).toInt64 &&& 63)) &&& 255 = v at hv
      have ev : vp_in (nI (8 * P.2.2.1 o + a)) 104 := by simp (disch := omega) only [nI_lit, nI_add, nI_mulE, nI_clampE, nI_eqE, nI_leE, nI_ltE, vp_nIE, true_and, and_true]; omega
      have ec : (nI (8 * P.2.2.1 o + a)).toNatClampNeg = 8 * P.2.2.1 o + a := nI_clampE (by omega)
      have hnew := hv.new hii
      have hs := oNw_s (r := r) (I := I) (show o ≤ P.2.1 by omega) (show a < 8 by omega) (show P.2.2.1 o < 12 by omega)
      have fin : ∀ c : Bool, c = oNw I (oIc P r (8 * o + (a + 1)) I) → wX12_exchange_j193 (nI p) Q E (wX12_exchange_j217 (nI p) Q E (wX12_exchange_l99 (nI p) Q E (f + 1))) (wX12_exchange_l112 (nI p) Q E (wX12_exchange_j217 (nI p) Q E (wX12_exchange_l99 (nI p) Q E (f + 1))) (f2 + 1)) (nI o) (nI a) (nI (8 * P.2.2.1 o + a)) v (if c then 1 else 0) τ := by
        intro c hc
        unfold wX12_exchange_j193
        rw [ec, nI_1, hc]
        refine ⟨ev, ev, fe (fe (ih2 (a + 1) _ (by omega) (by omega) (hF.L (decide_eq_true rfl)) (fun s' hs' a' ha' => ?_)))⟩
        rw [gL_L, if_pos rfl]
        by_cases e : s' = P.2.2.1 o ∧ a' = a
        · obtain ⟨rfl, rfl⟩ := e
          rw [if_pos rfl]
          refine (hii.or hv).cg (fun b hb => ?_)
          show _ = oIc P r (8 * o + a' + 1) I (P.2.2.1 o) a' b
          rw [oIc_s (by omega) (by omega)]
          congr 1
          by_cases z : b < 8
          · rw [decide_eq_true z, decide_eq_true (show P.2.2.1 o = P.2.2.1 o ∧ a' = a' ∧ b < 8 from ⟨rfl, rfl, z⟩)]
          · rw [decide_eq_false z, decide_eq_false (show ¬ (P.2.2.1 o = P.2.2.1 o ∧ a' = a' ∧ b < 8) from fun y => z y.2.2)]
        · rw [if_neg (by omega)]
          refine (hi s' hs' a' ha').cg (fun b hb => ?_)
          show _ = oIc P r (8 * o + a + 1) I s' a' b
          rw [oIc_s (by omega) (by omega), decide_eq_false (show ¬ (s' = P.2.2.1 o ∧ a' = a ∧ b < 8) from fun y => e ⟨y.1, y.2.1⟩)]
          simp
      cases hn : oNw I (oIc P r (8 * o + a) I)
      · rw [hn] at hs
        refine no (fun z => z rfl) ?_
        rw [ec]
        refine ⟨ev, ?_⟩
        by_cases hc : ∀ i, i < 32 → (decide (i < 8) && r (8 * o + a) (8 * o + i)) = true → oIc P r (8 * o + a) I (P.2.2.1 o) a i = true
        · refine yes (hnew.mpr hc) (fin false ?_)
          cases hz : oNw I (oIc P r (8 * o + (a + 1)) I)
          · rfl
          · exact absurd (hs.mp hz) (fun y => y.elim (fun w => absurd w Bool.false_ne_true) (fun w => w hc))
        · refine no (fun z => hc (hnew.mp z)) ?_
          unfold wX12_exchange_j188
          exact fin true (hs.mpr (Or.inr hc)).symm
      · refine yes (by decide) ?_
        unfold wX12_exchange_j188
        exact fin true (hs.mpr (Or.inl hn)).symm
theorem m_ex (hO : OM σ G P p) (hR : RwM σ p r) (vr : oVR G P r) (hI : InM σ I) (vI : oVI G I) {Q : Int32 → ab_S → Prop} (h : ∀ τ, FM Som σ τ → (∀ p', p' ≠ p → ∀ x, x < 32 → τ.2.2.1 109 (32 * p' + x) = σ.2.2.1 109 (32 * p' + x)) → RwM τ p (oCl 32 (oAdd P I r)) → InM τ (oCo P (oCl 32 (oAdd P I r)) I) → Q (if oNw I (oCo P (oCl 32 (oAdd P I r)) I) then 1 else 0) τ) : wX12_exchange (nI p) Q E σ := by
  have h30 := hO.1
  refine m_exA hO hR hI vI (fun τ1 F1 R1 => ?_)
  unfold wX12_exchange_j90
  refine m_fo h30 R1 (fun τ2 F2 R2 => ?_)
  have F12 := F1.tr F2
  have O2 := hO.fm F12 (fun i => decide_eq_false (by omega)) (fun i => decide_eq_false (by omega))
  have I2 : InM τ2 I := fun s hs a ha => by rw [F12.2.1 _ _ (decide_eq_false (by omega))]; exact hI s hs a ha
  refine m_exC O2 R2 I2 (fun τ3 F3 I3 => h τ3 ?_ (fun p' hp' x hx => ?_) (fun x hx => ?_) I3)
  · exact (F12.mono (fun a i y => by have y := of_decide_eq_false y; exact decide_eq_false (by omega))).tr (F3.mono (fun a i y => by have y := of_decide_eq_false y; exact decide_eq_false (by omega)))
  · rw [F3.2.1 _ _ (decide_eq_false (by omega)), F12.2.1 _ _ (decide_eq_false (by omega))]
  · rw [F3.2.1 _ _ (decide_eq_false (by omega))]; exact R2 x hx
end ML
theorem MGr.fm {S : Nat → Nat → Bool} {σ σ' : ab_S} {Γ : GRT} (hC : MGr σ Γ) (hV : GRV Γ) (f : FM S σ σ') (s92 : S 92 9 = false ∧ S 92 14 = false ∧ S 92 21 = false) (sA : ∀ a i, 97 ≤ a → a ≤ 108 → S a i = false) : MGr σ' Γ := by
  refine ⟨hC.1.fm f s92.1 (fun i => sA _ _ (by omega) (by omega)) (fun i => sA _ _ (by omega) (by omega)) (fun i => sA _ _ (by omega) (by omega)) (fun i => sA _ _ (by omega) (by omega)), by rw [f.1 92 14 s92.2.1]; exact hC.2.1, by rw [f.1 92 21 s92.2.2]; exact hC.2.2.1, fun p hp => ?_⟩
  have hpv := (hV.2.2.2 p hp).2.1
  exact (hC.2.2.2 p hp).keep (lm := Γ.2.2.2.1) f (by have := hpv.1; omega) (fun j _ => sA _ _ (by omega) (by omega)) (sA _ _ (by omega) (by omega)) (fun o _ => sA _ _ (by omega) (by omega)) (sA _ _ (by omega) (by omega)) (fun x _ => sA _ _ (by omega) (by omega)) (fun x _ => sA _ _ (by omega) (by omega)) (fun i _ => sA _ _ (by omega) (by omega)) (fun i _ => sA _ _ (by omega) (by omega)) (fun x hx => (hpv.2.2 x hx).2.2.1)
theorem MGr.so {σ σ' : ab_S} {Γ : GRT} (hC : MGr σ Γ) (hV : GRV Γ) (f : FM Som σ σ') : MGr σ' Γ := hC.fm hV f ⟨rfl, rfl, rfl⟩ (fun a i h1 h2 => decide_eq_false (by omega))
def MO (σ : ab_S) (Γ : GRT) (S : OST) : Prop := (∀ p, p < Γ.2.1 → RwM σ p (S.1 p)) ∧ InM σ S.2
section ML
variable {σ : ab_S} {Γ : GRT} {E : String → ab_S → Prop}
theorem m_rnd (hV : GRV Γ) {S : OST} {Q : ab_S → Prop} {K84 : Int32 → ab_S → Prop} (hvS : oV Γ S) (hC : MGr σ Γ) (h : ∀ τ, FM Som σ τ → MO τ Γ (oRd Γ Γ.2.1 S) → K84 (if oNw S.2 (oRd Γ Γ.2.1 S).2 then 1 else 0) τ) : ∀ f k τ, Γ.2.1 - k = f → k ≤ Γ.2.1 → FM Som σ τ → MO τ Γ (oRd Γ k S) → wX12_induce_l52 Q E K84 (f + 1) (if oNw S.2 (oRd Γ k S).2 then 1 else 0) (nI k) τ := by
  have h30 := hV.2.1
  intro f
  induction f with
  | zero =>
    intro k τ hf hk hF hO
    have e : k = Γ.2.1 := by omega
    subst e
    have hC1 := hC.so hV hF
    show wX12_induce_l52_b _ _ _ _ _ _ _
    unfold wX12_induce_l52_b
    rw [hC1.2.1]
    exact yes (by simp (disch := omega) only [nI_lit, nI_add, nI_mulE, nI_clampE, nI_eqE, nI_leE, nI_ltE, vp_nIE, true_and, and_true]; omega) (h τ hF hO)
  | succ f ih =>
    intro k τ hf hk hF hO
    have hC1 := hC.so hV hF
    have hvk := oRd_V hV k (by omega) hvS
    have O1 := hC1.of hV (p := k) (by omega)
    show wX12_induce_l52_b Q E K84 (wX12_induce_l52 Q E K84 (f + 1)) _ (nI k) τ
    unfold wX12_induce_l52_b
    rw [hC1.2.1]
    refine no (by simp (disch := omega) only [nI_lit, nI_add, nI_mulE, nI_clampE, nI_eqE, nI_leE, nI_ltE, vp_nIE, true_and, and_true]; omega) ?_
    refine m_ex O1 (hO.1 k (by omega)) (hvk.1 k (by omega)) hO.2 hvk.2 (fun τ3 F3 E3 R3 I3 => ?_)
    have en : (oNw S.2 (oRd Γ k S).2 || oNw (oRd Γ k S).2 (oCo (Γ.2.2.1 k) (oCl 32 (oAdd (Γ.2.2.1 k) (oRd Γ k S).2 ((oRd Γ k S).1 k))) (oRd Γ k S).2)) = oNw S.2 (oRd Γ (k + 1) S).2 := (oNw_tr (fun s a b => oRd_le k s a b) (fun s a b hz => oIc_le s a b hz)).symm
    have go : ∀ b : Bool, b = oNw S.2 (oRd Γ (k + 1) S).2 → wX12_induce_j77 Q E K84 (wX12_induce_l52 Q E K84 (f + 1)) (nI k) (if b then 1 else 0) τ3 := by
      intro b hb
      unfold wX12_induce_j77
      rw [nI_1, hb]
      refine fe (ih (k + 1) τ3 (by omega) (by omega) (hF.tr F3) ⟨fun p hp => ?_, I3⟩)
      show RwM τ3 p (uf (oRd Γ k S).1 k (oCl 32 (oAdd (Γ.2.2.1 k) (oRd Γ k S).2 ((oRd Γ k S).1 k))) p)
      by_cases e : p = k
      · rw [e, uf_s]; exact R3
      · rw [uf_o _ _ e]
        intro x hx
        rw [E3 p e x hx]; exact hO.1 p hp x hx
    cases h2 : oNw (oRd Γ k S).2 (oCo (Γ.2.2.1 k) (oCl 32 (oAdd (Γ.2.2.1 k) (oRd Γ k S).2 ((oRd Γ k S).1 k))) (oRd Γ k S).2)
    · rw [h2, Bool.or_false] at en
      refine no (fun z => z rfl) ?_
      cases h1 : oNw S.2 (oRd Γ k S).2
      · exact yes rfl (go false (by rw [← en, h1]))
      · refine no (by decide) ?_
        unfold wX12_induce_j72
        exact go true (by rw [← en, h1])
    · rw [h2, Bool.or_true] at en
      refine yes (by decide) ?_
      unfold wX12_induce_j72
      exact go true en
/-- all rounds -/
theorem m_its (hV : GRV Γ) (hC : MGr σ Γ) {Q : ab_S → Prop} : ∀ f S τ, 769 ≤ f + oCn S.2 → oV Γ S → FM Som σ τ → MO τ Γ S → (∀ τ', FM Som σ τ' → MO τ' Γ (oIt Γ f S) → oNw (oIt Γ f S).2 (oRd Γ Γ.2.1 (oIt Γ f S)).2 = false ∨ True → Q τ') → wX12_induce_l44 Q E (f + 2) 1 τ := by
  intro f
  induction f with
  | zero =>
    intro S τ hf
    have := oCn_le S.2
    omega
  | succ f ih =>
    intro S τ hf hvS hF hO h
    show wX12_induce_l44_b Q E (wX12_induce_l44 Q E (f + 2)) 1 τ
    unfold wX12_induce_l44_b
    refine no (by decide) ⟨Γ.2.1 + 1, ?_⟩
    have := m_rnd (σ := τ) (E := E) hV (S := S) (Q := Q) (K84 := wX12_induce_j84 Q E (wX12_induce_l44 Q E (f + 2))) hvS (hC.so hV hF) (fun τ2 F2 O2 => ?_) Γ.2.1 0 τ rfl (Nat.zero_le _) (FM.rf _ _) hO
    · rw [show (oRd Γ 0 S).2 = S.2 from rfl, oNw_rf] at this
      exact this
    · unfold wX12_induce_j84
      rw [oIt] at h
      cases hn : oNw S.2 (oRd Γ Γ.2.1 S).2
      · rw [if_neg (by rw [hn]; decide)] at h
        show wX12_induce_l44_b Q E (wX12_induce_l44 Q E (f + 1)) _ τ2
        unfold wX12_induce_l44_b
        exact yes rfl (h τ2 (hF.tr F2) O2 (Or.inr trivial))
      · rw [if_pos hn] at h
        have := oCn_lt (I := S.2) (J := (oRd Γ Γ.2.1 S).2) (fun s a b => oRd_le Γ.2.1 s a b) hn
        exact ih _ τ2 (by omega) (oRd_V hV _ (Nat.le_refl _) hvS) (hF.tr F2) O2 h
theorem m_induce (hV : GRV Γ) (hlm : Γ.2.2.2.1 ≤ 2400) (hC : MGr σ Γ) {Q : ab_S → Prop} (h : ∀ τ, FM Som σ τ → MO τ Γ (oIt Γ 769 (ord0 Γ)) → Q τ) : wX12_induce Q E σ := by
  have h30 := hV.2.1
  refine ⟨105, ?_⟩
  suffices H : ∀ f x τ, 104 - x = f → x ≤ 104 → FM Som σ τ → (∀ y, y < x → B64 (τ.2.2.1 110 y) (fun _ => false)) → wX12_induce_l2 Q E (wX12_induce_j21 Q E) (f + 1) (nI x) τ from H 104 0 σ rfl (by omega) (FM.rf _ _) (fun y hy => absurd hy (by omega))
  intro f
  induction f with
  | zero =>
    intro x τ hf hx hF hB
    refine yes (by simp (disch := omega) only [nI_lit, nI_add, nI_mulE, nI_clampE, nI_eqE, nI_leE, nI_ltE, vp_nIE, true_and, and_true]; omega) ?_
    unfold wX12_induce_j21
    refine ⟨Γ.2.1 + 1, ?_⟩
    have I0 : InM τ (ord0 Γ).2 := fun s hs a ha => hB _ (by omega)
    clear hB
    suffices H2 : ∀ f2 k τ2, Γ.2.1 - k = f2 → k ≤ Γ.2.1 → FM Som σ τ2 → InM τ2 (ord0 Γ).2 → (∀ p, p < k → RwM τ2 p (nmd Γ p)) → wX12_induce_l23 Q E (wX12_induce_j42 Q E) (f2 + 1) (nI k) τ2 from H2 Γ.2.1 0 τ rfl (Nat.zero_le _) hF I0 (fun p hp => absurd hp (by omega))
    intro f2
    induction f2 with
    | zero =>
      intro k τ2 hf2 hk hF2 hI hR
      have hC1 := hC.so hV hF2
      show wX12_induce_l23_b _ _ _ _ _ _
      unfold wX12_induce_l23_b
      rw [hC1.2.1]
      refine yes (by simp (disch := omega) only [nI_lit, nI_add, nI_mulE, nI_clampE, nI_eqE, nI_leE, nI_ltE, vp_nIE, true_and, and_true]; omega) ⟨771, ?_⟩
      exact m_its hV hC 769 (ord0 Γ) τ2 (by omega) (ord0_V hV) hF2 ⟨fun p hp => hR p (by omega), hI⟩ (fun τ3 F3 O3 _ => h τ3 F3 O3)
    | succ f2 ih2 =>
      intro k τ2 hf2 hk hF2 hI hR
      have hC1 := hC.so hV hF2
      show wX12_induce_l23_b Q E (wX12_induce_j42 Q E) (wX12_induce_l23 Q E (wX12_induce_j42 Q E) (f2 + 1)) (nI k) τ2
      unfold wX12_induce_l23_b
      rw [hC1.2.1, nI_1]
      refine no (by simp (disch := omega) only [nI_lit, nI_add, nI_mulE, nI_clampE, nI_eqE, nI_leE, nI_ltE, vp_nIE, true_and, and_true]; omega) ?_
      refine m_dir hV (by omega) hlm (hC1.2.2.2 k (by omega)) (fun τ3 F3 R3 => fe ?_)
      refine ih2 (k + 1) τ3 (by omega) (by omega) (hF2.tr (F3.mono (fun a i y => by have y := of_decide_eq_false y; exact decide_eq_false (by omega)))) (fun s hs a ha => ?_) (fun p hp => ?_)
      · rw [F3.2.1 _ _ (decide_eq_false (by omega))]; exact hI s hs a ha
      · by_cases e : p = k
        · rw [e]; exact R3
        · intro x' hx'
          rw [F3.2.1 _ _ (decide_eq_false (by omega))]; exact hR p (by omega) x' hx'
  | succ f ih =>
    intro x τ hf hx hF hB
    show wX12_induce_l2_b Q E (wX12_induce_j21 Q E) (wX12_induce_l2 Q E (wX12_induce_j21 Q E) (f + 1)) (nI x) τ
    unfold wX12_induce_l2_b
    rw [nI_clampE (by omega), nI_1]
    refine no (by simp (disch := omega) only [nI_lit, nI_add, nI_mulE, nI_clampE, nI_eqE, nI_leE, nI_ltE, vp_nIE, true_and, and_true]; omega) ⟨by simp (disch := omega) only [nI_lit, nI_add, nI_mulE, nI_clampE, nI_eqE, nI_leE, nI_ltE, vp_nIE, true_and, and_true]; omega, fe (fe (ih (x + 1) _ (by omega) (by omega) (hF.L (decide_eq_true (by omega))) (fun y hy => ?_)))⟩
    rw [gL_L, if_pos rfl]
    by_cases e : y = x
    · rw [if_pos e]; exact B64.z
    · rw [if_neg e]; exact hB y (by omega)
/-- the first production with a circle, found from behind -/
theorem fcF_z {R : MX3} : ∀ f i, (∀ p, i ≤ p → p < i + f → crc (R p) = false) → fcF R f i = i + f
  | 0, i, _ => rfl
  | f + 1, i, h => by
    rw [fcF, h i (Nat.le_refl _) (by omega), if_neg (by decide), fcF_z f (i + 1) (fun p a b => h p (by omega) (by omega))]; omega
theorem fcF_s {R : MX3} : ∀ f i k, i ≤ k → k < i + f → crc (R k) = true → (∀ p, i ≤ p → p < k → crc (R p) = false) → fcF R f i = k
  | 0, i, k, h1, h2, _, _ => absurd h2 (by omega)
  | f + 1, i, k, h1, h2, h3, h4 => by
    rw [fcF]
    by_cases e : i = k
    · subst e; rw [if_pos h3]
    · rw [h4 i (Nat.le_refl _) (by omega), if_neg (by decide)]
      exact fcF_s f (i + 1) k (by omega) (by omega) h3 (fun p a b => h4 p (by omega) b)
def fcI (R : MX3) (N : Nat) : Int32 := if fcr R N < N then nI (fcr R N) else -1
theorem m_turn (h14 : σ.2.1 92 14 = nI Γ.2.1) (h30 : Γ.2.1 ≤ 30) {R : MX3} (hR : ∀ p, p < Γ.2.1 → RwM σ p (R p)) {Q : Int32 → ab_S → Prop} (h : Q (fcI R Γ.2.1) σ) : wX12_turning Q E σ := by
  unfold wX12_turning
  rw [h14]
  -- what is found among the productions from k on
  suffices H : ∀ k (v : Int32), k ≤ Γ.2.1 → ((∀ p, k ≤ p → p < Γ.2.1 → crc (R p) = false) ∧ v = -1 ∨ ∃ j, k ≤ j ∧ j < Γ.2.1 ∧ crc (R j) = true ∧ (∀ p, k ≤ p → p < j → crc (R p) = false) ∧ v = nI j) → wX12_turning_l9 Q E (k + 1) v (nI k - 1) σ by
    exact fe ⟨Γ.2.1 + 1, H Γ.2.1 (-1) (Nat.le_refl _) (Or.inl ⟨fun p a b => absurd b (by omega), rfl⟩)⟩
  intro k
  induction k with
  | zero =>
    intro v hk hv
    refine yes (by decide) ?_
    have e : v = fcI R Γ.2.1 := by
      unfold fcI fcr
      rcases hv with ⟨a, b⟩ | ⟨j, a, b, c, d, e⟩
      · rw [fcF_z Γ.2.1 0 (fun p x y => a p x (by omega)), if_neg (by omega)]; exact b
      · rw [fcF_s Γ.2.1 0 j a (by omega) c d, if_pos b]; exact e
    rw [e]; exact h
  | succ k ih =>
    intro v hk hv
    have ek : nI (k + 1) - 1 = nI k := nI_pred k
    rw [ek]
    show wX12_turning_l9_b Q E (wX12_turning_l9 Q E (k + 1)) v (nI k) σ
    unfold wX12_turning_l9_b
    refine no (nI_pos (by omega)) ⟨33, ?_⟩
    suffices H2 : ∀ f x (w : Int32), 32 - x = f → x ≤ 32 → ((∀ y, y < x → R k y y = false) ∧ w = v ∨ crc (R k) = true ∧ w = nI k) → wX12_turning_l15 Q E (wX12_turning_j53 Q E (wX12_turning_l9 Q E (k + 1))) (f + 1) w (nI k) (nI x) σ from H2 32 0 v rfl (by omega) (Or.inl ⟨fun y hy => absurd hy (by omega), rfl⟩)
    intro f
    induction f with
    | zero =>
      intro x w hf hx hw
      refine yes (by simp (disch := omega) only [nI_lit, nI_add, nI_mulE, nI_clampE, nI_eqE, nI_leE, nI_ltE, vp_nIE, true_and, and_true]; omega) ?_
      unfold wX12_turning_j53
      refine fe (ih w (by omega) ?_)
      rcases hw with ⟨a, b⟩ | ⟨a, b⟩
      · have hz : crc (R k) = false := by
          cases hc : crc (R k)
          · rfl
          · obtain ⟨y, y1, y2⟩ := crc_i.mp hc
            rw [a y (by omega)] at y2; exact absurd y2 Bool.false_ne_true
        rcases hv with ⟨c, d⟩ | ⟨j, c, d, e, g, i⟩
        · refine Or.inl ⟨fun p x1 x2 => ?_, b.trans d⟩
          by_cases ep : p = k
          · rw [ep]; exact hz
          · exact c p (by omega) x2
        · refine Or.inr ⟨j, by omega, d, e, fun p x1 x2 => ?_, b.trans i⟩
          by_cases ep : p = k
          · rw [ep]; exact hz
          · exact g p (by omega) x2
      · exact Or.inr ⟨k, Nat.le_refl _, by omega, a, fun p x1 x2 => absurd x2 (by omega), b⟩
    | succ f ihf =>
      intro x w hf hx hw
      have e32 : (32 : Int32) * nI k + nI x = nI (32 * k + x) := by show nI 32 * nI k + _ = _; rw [nI_mulE, nI_add]
      show wX12_turning_l15_b Q E (wX12_turning_j53 Q E (wX12_turning_l9 Q E (k + 1))) (wX12_turning_l15 Q E (wX12_turning_j53 Q E (wX12_turning_l9 Q E (k + 1))) (f + 1)) w (nI k) (nI x) σ
      unfold wX12_turning_l15_b
      rw [e32, nI_clampE (by omega)]
      refine no (by simp (disch := omega) only [nI_lit, nI_add, nI_mulE, nI_clampE, nI_eqE, nI_leE, nI_ltE, vp_nIE, true_and, and_true]; omega) ⟨by simp (disch := omega) only [nI_lit, nI_add, nI_mulE, nI_clampE, nI_eqE, nI_leE, nI_ltE, vp_nIE, true_and, and_true]; omega, ?_⟩
      have hb := (hR k (by omega) x (by omega)).bit (y := x) (by omega)
      cases hr : R k x x
      · refine yes (fun z => by rw [hb.mp z] at hr; exact absurd hr (by decide)) ?_
        unfold wX12_turning_j46
        rw [nI_1]
        refine fe (ihf (x + 1) w (by omega) (by omega) ?_)
        rcases hw with ⟨a, b⟩ | hw
        · refine Or.inl ⟨fun y hy => ?_, b⟩
          by_cases e : y = x
          · rw [e]; exact hr
          · exact a y (by omega)
        · exact Or.inr hw
      · refine no (fun z => z (hb.mpr hr)) ?_
        unfold wX12_turning_j46
        rw [nI_1]
        exact fe (ihf (x + 1) (nI k) (by omega) (by omega) (Or.inr ⟨crc_i.mpr ⟨x, by omega, hr⟩, rfl⟩))
end ML
