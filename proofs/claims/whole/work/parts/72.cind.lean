/-! ===== order, the class's: what is induced ===== -/
theorem oNw_tr {I J K : MX3} (h1 : ∀ s a b, I s a b = true → J s a b = true) (h2 : ∀ s a b, J s a b = true → K s a b = true) : oNw I K = (oNw I J || oNw J K) := by
  rw [Bool.eq_iff_iff, Bool.or_eq_true, oNw_i, oNw_i, oNw_i]
  constructor
  · rintro ⟨s, a, b, hs, ha, hb, x, y⟩
    cases hj : J s a b
    · exact Or.inr ⟨s, a, b, hs, ha, hb, x, hj⟩
    · exact Or.inl ⟨s, a, b, hs, ha, hb, hj, y⟩
  · rintro (⟨s, a, b, hs, ha, hb, x, y⟩ | ⟨s, a, b, hs, ha, hb, x, y⟩)
    · exact ⟨s, a, b, hs, ha, hb, h2 _ _ _ x, y⟩
    · refine ⟨s, a, b, hs, ha, hb, x, ?_⟩
      cases hi : I s a b
      · rfl
      · rw [h1 _ _ _ hi] at y; exact absurd y (by decide)
theorem oNw_rf (I : MX3) : oNw I I = false := by
  cases h : oNw I I
  · rfl
  · obtain ⟨s, a, b, _, _, _, x, y⟩ := oNw_i.mp h
    rw [x] at y; exact absurd y (by decide)
theorem oIc_0 {P : PRO} {r : MX2} {I : MX3} : oIc P r 0 I = I := by
  funext s a b
  rw [Bool.eq_iff_iff, oIc_i]
  exact ⟨fun h => h.elim id (fun z => by obtain ⟨_, _, o, _, h4, _⟩ := z; omega), Or.inl⟩
theorem oIc_s {P : PRO} {r : MX2} {I : MX3} {o a : Nat} (ho : o ≤ P.2.1) (ha : a < 8) {s' a' b' : Nat} : oIc P r (8 * o + a + 1) I s' a' b' = (oIc P r (8 * o + a) I s' a' b' || (decide (s' = P.2.2.1 o ∧ a' = a ∧ b' < 8) && r (8 * o + a) (8 * o + b'))) := by
  rw [Bool.eq_iff_iff, Bool.or_eq_true, oIc_i, oIc_i, Bool.and_eq_true, decide_eq_true_eq]
  constructor
  · rintro (h | ⟨h1, h2, o', h3, h4, h5, h6⟩)
    · exact Or.inl (Or.inl h)
    · rcases Nat.lt_or_ge (8 * o' + a') (8 * o + a) with z | z
      · exact Or.inl (Or.inr ⟨h1, h2, o', h3, z, h5, h6⟩)
      · have e1 : o' = o := by omega
        have e2 : a' = a := by omega
        subst e1
        subst e2
        exact Or.inr ⟨⟨h5.symm, rfl, h2⟩, h6⟩
  · rintro ((h | ⟨h1, h2, o', h3, h4, h5, h6⟩) | ⟨⟨h1, h2, h3⟩, h4⟩)
    · exact Or.inl h
    · exact Or.inr ⟨h1, h2, o', h3, by omega, h5, h6⟩
    · subst h2
      exact Or.inr ⟨ha, h3, o, ho, by omega, h1.symm, h4⟩
theorem oIc_c {G : SYT} {P : PRO} {r : MX2} {I : MX3} (vr : oVR G P r) {o a : Nat} (ha : G.2.2.1 (P.2.2.1 o) ≤ a) (h8 : a ≤ 8) : oIc P r (8 * o + 8) I = oIc P r (8 * o + a) I := by
  funext s' a' b'
  rw [Bool.eq_iff_iff, oIc_i, oIc_i]
  constructor
  · rintro (h | ⟨h1, h2, o', h3, h4, h5, h6⟩)
    · exact Or.inl h
    · refine Or.inr ⟨h1, h2, o', h3, ?_, h5, h6⟩
      rcases Nat.lt_or_ge (8 * o' + a') (8 * o + a) with z | z
      · exact z
      · have e1 : o' = o := by omega
        have := (vr _ _ h6).1.2
        rw [show (8 * o' + a') / 8 = o' by omega, show (8 * o' + a') % 8 = a' by omega, e1] at this
        omega
  · rintro (h | ⟨h1, h2, o', h3, h4, h5, h6⟩)
    · exact Or.inl h
    · exact Or.inr ⟨h1, h2, o', h3, by omega, h5, h6⟩
theorem oIc_e {P : PRO} {r : MX2} {I : MX3} {z : Nat} (hz : 8 * (P.2.1 + 1) ≤ z) : oIc P r z I = oIc P r (8 * (P.2.1 + 1)) I := by
  funext s' a' b'
  rw [Bool.eq_iff_iff, oIc_i, oIc_i]
  constructor
  · rintro (h | ⟨h1, h2, o', h3, h4, h5, h6⟩)
    · exact Or.inl h
    · exact Or.inr ⟨h1, h2, o', h3, by omega, h5, h6⟩
  · rintro (h | ⟨h1, h2, o', h3, h4, h5, h6⟩)
    · exact Or.inl h
    · exact Or.inr ⟨h1, h2, o', h3, by omega, h5, h6⟩
theorem oIc_le {P : PRO} {r : MX2} {I : MX3} {z : Nat} : ∀ s a b, I s a b = true → oIc P r z I s a b = true := fun s a b h => oIc_i.mpr (Or.inl h)
/-- what a step of the collecting finds new -/
theorem oNw_s {P : PRO} {r : MX2} {I : MX3} {o a : Nat} (ho : o ≤ P.2.1) (ha : a < 8) (h12 : P.2.2.1 o < 12) : oNw I (oIc P r (8 * o + a + 1) I) = true ↔ (oNw I (oIc P r (8 * o + a) I) = true ∨ ¬ ∀ i, i < 32 → (decide (i < 8) && r (8 * o + a) (8 * o + i)) = true → oIc P r (8 * o + a) I (P.2.2.1 o) a i = true) := by
  rw [oNw_i, oNw_i]
  constructor
  · rintro ⟨s', a', b', hs, ha', hb, x, y⟩
    rw [oIc_s ho ha, Bool.or_eq_true, Bool.and_eq_true, decide_eq_true_eq] at x
    rcases x with x | ⟨⟨h1, h2, h3⟩, h4⟩
    · exact Or.inl ⟨s', a', b', hs, ha', hb, x, y⟩
    · subst h1
      subst h2
      cases hz : oIc P r (8 * o + a') I (P.2.2.1 o) a' b'
      · right
        intro k
        have := k b' (by omega) (by rw [decide_eq_true h3, h4]; rfl)
        rw [hz] at this; exact absurd this Bool.false_ne_true
      · exact Or.inl ⟨_, _, b', hs, ha', hb, hz, y⟩
  · rintro (⟨s', a', b', hs, ha', hb, x, y⟩ | k)
    · exact ⟨s', a', b', hs, ha', hb, by rw [oIc_s ho ha, x]; rfl, y⟩
    · apply Classical.byContradiction
      intro hn
      apply k
      intro i hi hf
      rw [Bool.and_eq_true, decide_eq_true_eq] at hf
      cases hz : oIc P r (8 * o + a) I (P.2.2.1 o) a i
      · exfalso
        apply hn
        refine ⟨P.2.2.1 o, a, i, h12, ha, hf.1, by rw [oIc_s ho ha, hf.2, decide_eq_true ⟨rfl, rfl, hf.1⟩]; simp, ?_⟩
        cases hI : I (P.2.2.1 o) a i
        · rfl
        · rw [oIc_le _ _ _ hI] at hz; exact absurd hz (by decide)
      · rfl
theorem or01 (b c : Bool) : ((if b then (1 : Int32) else 0) ||| (if c then 1 else 0)) = if (b || c) then 1 else 0 := by cases b <;> cases c <;> decide
def Si (g : Nat) : Nat → Nat → Bool := fun a _ => decide (a = g + 15)
section CL
variable {σ : ab_S} {g p : Nat} {G : SYT} {P : PRO} {I : MX3} {r : MX2} {E : String → ab_S → Prop}
theorem c_coL (hO : OF σ g G P p) (hR : RwC σ p r) (vr : oVR G P r) {o : Nat} (ho : o ≤ P.2.1) {Q : Int32 → ab_S → Prop} {K121 : Int32 → Int32 → ab_S → Prop} (h : ∀ τ, FM (Si g) σ τ → InC τ g (oIc P r (8 * o + 8) I) → K121 (if oNw I (oIc P r (8 * o + 8) I) then 1 else 0) (nI o) τ) : ∀ f a τ, G.2.2.1 (P.2.2.1 o) - a = f → a ≤ G.2.2.1 (P.2.2.1 o) → FM (Si g) σ τ → InC τ g (oIc P r (8 * o + a) I) → wX3_collectInduced_l28 g (nI p) Q E K121 (f + 1) (if oNw I (oIc P r (8 * o + a) I) then 1 else 0) (nI o) (nI (P.2.2.1 o)) (nI a) τ := by
  obtain ⟨hg, h30, h3, h12, hrt, hoc, hcn⟩ := hO
  have hgb := isG_b hg
  obtain ⟨o1, o2⟩ := hoc o ho
  obtain ⟨c1, c8⟩ := hcn _ o2
  intro f
  induction f with
  | zero =>
    intro a τ hf ha hF hI
    show wX3_collectInduced_l28_b _ _ _ _ _ _ _ _ _ _ _
    unfold wX3_collectInduced_l28_b
    rw [nI_clampE (by omega), hF.1 _ _ (decide_eq_false (by omega)), c1]
    have e := oIc_c (I := I) vr (o := o) (a := a) (by omega) (by omega)
    rw [e] at h
    exact ⟨by simp (disch := omega) only [nI_lit, nI_add, nI_mulE, nI_clampE, nI_eqE, nI_leE, nI_ltE, vp_nIE, true_and, and_true]; omega, yes (by simp (disch := omega) only [nI_lit, nI_add, nI_mulE, nI_clampE, nI_eqE, nI_leE, nI_ltE, vp_nIE, true_and, and_true]; omega) (h τ hF hI)⟩
  | succ f ih =>
    intro a τ hf ha hF hI
    have e32 : nI p * 32 + nI o * 8 + nI a = nI (p * 32 + (8 * o + a)) := by
      show nI p * nI 32 + nI o * nI 8 + _ = _
      rw [nI_mulE, nI_mulE, nI_add, nI_add]; congr 1; omega
    have e8 : nI (P.2.2.1 o) * 8 + nI a = nI (P.2.2.1 o * 8 + a) := by show nI (P.2.2.1 o) * nI 8 + _ = _; rw [nI_mulE, nI_add]
    have eo : nI o * 8 = nI (8 * o) := by show nI o * nI 8 = _; rw [nI_mulE, Nat.mul_comm]
    show wX3_collectInduced_l28_b g (nI p) Q E K121 (wX3_collectInduced_l28 g (nI p) Q E K121 (f + 1)) _ _ _ _ τ
    unfold wX3_collectInduced_l28_b
    rw [e32, e8, eo, nI_clampE (show P.2.2.1 o < 2147483648 by omega), nI_clampE (show p * 32 + (8 * o + a) < 2147483648 by omega), hF.1 (g + 2) _ (decide_eq_false (by omega)), hF.1 10 _ (decide_eq_false (by omega)), c1]
    refine ⟨by simp (disch := omega) only [nI_lit, nI_add, nI_mulE, nI_clampE, nI_eqE, nI_leE, nI_ltE, vp_nIE, true_and, and_true]; omega, no (by simp (disch := omega) only [nI_lit, nI_add, nI_mulE, nI_clampE, nI_eqE, nI_leE, nI_ltE, vp_nIE, true_and, and_true]; omega) ⟨by simp (disch := omega) only [nI_lit, nI_add, nI_mulE, nI_clampE, nI_eqE, nI_leE, nI_ltE, vp_nIE, true_and, and_true]; omega, fe (fe ?_)⟩⟩
    have ev : vp_in (nI (P.2.2.1 o * 8 + a)) 96 := by simp (disch := omega) only [nI_lit, nI_add, nI_mulE, nI_clampE, nI_eqE, nI_leE, nI_ltE, vp_nIE, true_and, and_true]; omega
    have hv := (hR (8 * o + a) (by omega)).shr (o := o) (by omega)
    have hi := hI (P.2.2.1 o) (by omega) a (by omega)
    generalize ((σ.2.1 10 (p * 32 + (8 * o + a))).toUInt32 >>> ((nI (8 * o)).toUInt32 &&& Int32.toUInt32 31)).toInt32 &&& 255 = v at hv
    rw [nI_clampE (show P.2.2.1 o * 8 + a < 2147483648 by omega)]
    refine ⟨ev, ?_⟩
    have hnew := hv.new hi
    have hs := oNw_s (r := r) (I := I) ho (show a < 8 by omega) (by omega)
    have fin : ∀ c : Bool, (oNw I (oIc P r (8 * o + a) I) || c) = oNw I (oIc P r (8 * o + (a + 1)) I) → wX3_collectInduced_j101 g (nI p) Q E K121 (wX3_collectInduced_l28 g (nI p) Q E K121 (f + 1)) (nI o) (nI (P.2.2.1 o)) (nI a) v (nI (P.2.2.1 o * 8 + a)) (if c then 1 else 0) (if oNw I (oIc P r (8 * o + a) I) then 1 else 0) τ := by
      intro c hc
      unfold wX3_collectInduced_j101
      rw [or01, hc, nI_1, nI_clampE (by omega)]
      refine fe ⟨ev, ev, fe (fe ?_)⟩
      refine ih (a + 1) _ (by omega) (by omega) (hF.I (decide_eq_true rfl)) (fun s' hs' a' ha' => ?_)
      rw [gI_I, if_pos rfl]
      by_cases e : s' = P.2.2.1 o ∧ a' = a
      · obtain ⟨rfl, rfl⟩ := e
        rw [if_pos rfl]
        refine (hi.or hv).cg (fun b hb => ?_)
        show _ = oIc P r (8 * o + a' + 1) I (P.2.2.1 o) a' b
        rw [oIc_s ho (by omega)]
        congr 1
        by_cases z : b < 8
        · rw [decide_eq_true z, decide_eq_true (show P.2.2.1 o = P.2.2.1 o ∧ a' = a' ∧ b < 8 from ⟨rfl, rfl, z⟩)]
        · rw [decide_eq_false z, decide_eq_false (show ¬ (P.2.2.1 o = P.2.2.1 o ∧ a' = a' ∧ b < 8) from fun y => z y.2.2)]
      · rw [if_neg (by omega)]
        refine (hI s' hs' a' ha').cg (fun b hb => ?_)
        show _ = oIc P r (8 * o + a + 1) I s' a' b
        rw [oIc_s ho (by omega), decide_eq_false (show ¬ (s' = P.2.2.1 o ∧ a' = a ∧ b < 8) from fun y => e ⟨y.1, y.2.1⟩)]
        simp
    by_cases hc : ∀ i, i < 32 → (decide (i < 8) && r (8 * o + a) (8 * o + i)) = true → oIc P r (8 * o + a) I (P.2.2.1 o) a i = true
    · refine yes (hnew.mpr hc) (fin false ?_)
      rw [Bool.or_false, Bool.eq_iff_iff]
      exact ⟨fun z => hs.mpr (Or.inl z), fun z => (hs.mp z).elim id (fun y => absurd hc y)⟩
    · refine no (fun z => hc (hnew.mp z)) (fin true ?_)
      rw [Bool.or_true]
      exact (hs.mpr (Or.inr hc)).symm
theorem c_co (hO : OF σ g G P p) (hR : RwC σ p r) (vr : oVR G P r) (hI : InC σ g I) {Q : Int32 → ab_S → Prop} (h : ∀ τ, FM (Si g) σ τ → InC τ g (oCo P r I) → Q (if oNw I (oCo P r I) then 1 else 0) τ) : wX3_collectInduced g (nI p) Q E σ := by
  have hO0 := hO
  obtain ⟨hg, h30, h3, h12, hrt, hoc, hcn⟩ := hO
  have hgb := isG_b hg
  refine ⟨P.2.1 + 2, ?_⟩
  suffices H : ∀ f o τ, P.2.1 + 1 - o = f → o ≤ P.2.1 + 1 → FM (Si g) σ τ → InC τ g (oIc P r (8 * o) I) → wX3_collectInduced_l5 g (nI p) Q E (f + 1) (if oNw I (oIc P r (8 * o) I) then 1 else 0) (nI o) τ by
    have := H (P.2.1 + 1) 0 σ rfl (by omega) (FM.rf _ _) (by rw [Nat.mul_zero, oIc_0]; exact hI)
    rw [Nat.mul_zero, oIc_0, oNw_rf] at this
    exact this
  intro f
  induction f with
  | zero =>
    intro o τ hf ho hF hi
    show wX3_collectInduced_l5_b _ _ _ _ _ _ _ _
    unfold wX3_collectInduced_l5_b
    rw [nI_clampE (by omega), hF.1 _ _ (decide_eq_false (by omega)), hrt]
    have e : oCo P r I = oIc P r (8 * o) I := by
      unfold oCo
      rw [oIc_e (z := 32) (by omega), oIc_e (z := 8 * o) (by omega)]
    rw [e] at h
    exact ⟨by simp (disch := omega) only [nI_lit, nI_add, nI_mulE, nI_clampE, nI_eqE, nI_leE, nI_ltE, vp_nIE, true_and, and_true]; omega, yes (by simp (disch := omega) only [nI_lit, nI_add, nI_mulE, nI_clampE, nI_eqE, nI_leE, nI_ltE, vp_nIE, true_and, and_true]; omega) ⟨by split <;> simp, h τ hF hi⟩⟩
  | succ f ih =>
    intro o τ hf ho hF hi
    obtain ⟨o1, o2⟩ := hoc o (by omega)
    show wX3_collectInduced_l5_b g (nI p) Q E (wX3_collectInduced_l5 g (nI p) Q E (f + 1)) _ (nI o) τ
    unfold wX3_collectInduced_l5_b wX0_symbolAt
    have e4 : nI p * 4 + nI o = nI (p * 4 + o) := by show nI p * nI 4 + _ = _; rw [nI_mulE, nI_add]
    rw [e4, nI_clampE (show p < 2147483648 by omega), nI_clampE (show p * 4 + o < 2147483648 by omega), hF.1 (g + 6) _ (decide_eq_false (by omega)), hF.1 (g + 7) _ (decide_eq_false (by omega)), hrt, o1]
    refine ⟨by simp (disch := omega) only [nI_lit, nI_add, nI_mulE, nI_clampE, nI_eqE, nI_leE, nI_ltE, vp_nIE, true_and, and_true]; omega, no (by simp (disch := omega) only [nI_lit, nI_add, nI_mulE, nI_clampE, nI_eqE, nI_leE, nI_ltE, vp_nIE, true_and, and_true]; omega) ⟨by simp (disch := omega) only [nI_lit, nI_add, nI_mulE, nI_clampE, nI_eqE, nI_leE, nI_ltE, vp_nIE, true_and, and_true]; omega, G.2.2.1 (P.2.2.1 o) + 1, ?_⟩⟩
    refine c_coL hO0 hR vr (by omega) (fun τ2 F2 I2 => ?_) _ 0 τ rfl (Nat.zero_le _) hF hi
    unfold wX3_collectInduced_j121
    rw [nI_1]
    exact fe (ih (o + 1) τ2 (by omega) (by omega) F2 I2)
end CL
def So (g : Nat) : Nat → Nat → Bool := fun a _ => decide (a = 10 ∨ a = g + 15)
theorem CGr.so {σ σ' : ab_S} {g : Nat} {Γ : GRT} (hC : CGr σ g Γ) (hV : GRV Γ) (hg : isG g) (f : FM (So g) σ σ') : CGr σ' g Γ := by
  have hgb := isG_b hg
  have e : ∀ k i, k ≠ 15 → So g (g + k) i = false := fun k i hk => decide_eq_false (by omega)
  refine ⟨hC.1.fm f (e 0 _ (by omega)) (fun i => e 1 _ (by omega)) (fun i => e 2 _ (by omega)) (fun i => e 3 _ (by omega)) (fun i => e 4 _ (by omega)), by rw [f.1 g 5 (e 0 _ (by omega))]; exact hC.2.1, by rw [f.1 g 14 (e 0 _ (by omega))]; exact hC.2.2.1, fun p hp => ?_⟩
  have hpv := (hV.2.2.2 p hp).2.1
  exact (hC.2.2.2 p hp).keep (lc := Γ.2.2.2.2) f (by have := hpv.1; omega) (e 5 _ (by omega)) (e 6 _ (by omega)) (fun o _ => e 7 _ (by omega)) (e 8 _ (by omega)) (e 9 _ (by omega)) (fun x _ => e 10 _ (by omega)) (fun x _ => e 11 _ (by omega)) (fun x _ => e 12 _ (by omega)) (Kc.fm f (fun i => e 13 _ (by omega)) (fun i => e 14 _ (by omega))) (fun x hx => (hpv.2.2 x hx).2.2.2.1)
/-- the class's order -/
def CO (σ : ab_S) (g : Nat) (Γ : GRT) (S : OST) : Prop := (∀ p, p < Γ.2.1 → RwC σ p (S.1 p)) ∧ InC σ g S.2
section CL
variable {σ : ab_S} {g : Nat} {Γ : GRT} {E : String → ab_S → Prop}
theorem c_rnd (hV : GRV Γ) (hg : isG g) {S : OST} {Q : ab_S → Prop} {K87 : Int32 → Int32 → ab_S → Prop} {x3 : Int32} (hvS : oV Γ S) (h : ∀ τ, FM (So g) σ τ → CO τ g Γ (oRd Γ Γ.2.1 S) → K87 (if oNw S.2 (oRd Γ Γ.2.1 S).2 then 1 else 0) x3 τ) (hC : CGr σ g Γ) : ∀ f k τ, Γ.2.1 - k = f → k ≤ Γ.2.1 → FM (So g) σ τ → CO τ g Γ (oRd Γ k S) → wX3_induce_l48 g Q E K87 (f + 1) (if oNw S.2 (oRd Γ k S).2 then 1 else 0) x3 (nI k) τ := by
  have hgb := isG_b hg
  have h30 := hV.2.1
  intro f
  induction f with
  | zero =>
    intro k τ hf hk hF hO
    have e : k = Γ.2.1 := by omega
    subst e
    have hC1 := hC.so hV hg hF
    show wX3_induce_l48_b _ _ _ _ _ _ _ _ _
    unfold wX3_induce_l48_b
    rw [hC1.2.1]
    exact yes (by simp (disch := omega) only [nI_lit, nI_add, nI_mulE, nI_clampE, nI_eqE, nI_leE, nI_ltE, vp_nIE, true_and, and_true]; omega) (h τ hF hO)
  | succ f ih =>
    intro k τ hf hk hF hO
    have hC1 := hC.so hV hg hF
    have hvk := oRd_V hV k (by omega) hvS
    have O1 := hC1.of hV hg (p := k) (by omega)
    show wX3_induce_l48_b g Q E K87 (wX3_induce_l48 g Q E K87 (f + 1)) _ x3 (nI k) τ
    unfold wX3_induce_l48_b
    rw [hC1.2.1]
    refine no (by simp (disch := omega) only [nI_lit, nI_add, nI_mulE, nI_clampE, nI_eqE, nI_leE, nI_ltE, vp_nIE, true_and, and_true]; omega) ?_
    refine c_ad O1 (hO.1 k (by omega)) hO.2 hvk.2 (fun τ1 F1 R1 => ?_)
    have O2 := O1.fm F1 (fun i => decide_eq_false (by omega)) (fun i => decide_eq_false (by omega)) (fun i => decide_eq_false (by omega))
    have va := oAdd_V (hvk.1 k (by omega)) hvk.2
    refine c_cl O2 R1 va (fun τ2 F2 R2 => ?_)
    have F12 := F1.tr F2
    have O3 := O1.fm F12 (fun i => decide_eq_false (by omega)) (fun i => decide_eq_false (by omega)) (fun i => decide_eq_false (by omega))
    have I2 : InC τ2 g (oRd Γ k S).2 := fun s hs a ha => by rw [F12.1 _ _ (decide_eq_false (by omega))]; exact hO.2 s hs a ha
    refine c_co O3 R2 (oCl_V 32 va) I2 (fun τ3 F3 I3 => ?_)
    have F13 : FM (So g) τ τ3 := (F12.mono (fun a i y => by have y := of_decide_eq_false y; exact decide_eq_false (by omega))).tr (F3.mono (fun a i y => by have y := of_decide_eq_false y; exact decide_eq_false (by omega)))
    rw [or01, nI_1]
    refine fe (fe ?_)
    have en : (oNw S.2 (oRd Γ k S).2 || oNw (oRd Γ k S).2 (oCo (Γ.2.2.1 k) (oCl 32 (oAdd (Γ.2.2.1 k) (oRd Γ k S).2 ((oRd Γ k S).1 k))) (oRd Γ k S).2)) = oNw S.2 (oRd Γ (k + 1) S).2 := (oNw_tr (fun s a b => oRd_le k s a b) (fun s a b hz => oIc_le s a b hz)).symm
    rw [en]
    refine ih (k + 1) τ3 (by omega) (by omega) (hF.tr F13) ⟨fun p hp => ?_, I3⟩
    show RwC τ3 p (uf (oRd Γ k S).1 k (oCl 32 (oAdd (Γ.2.2.1 k) (oRd Γ k S).2 ((oRd Γ k S).1 k))) p)
    by_cases e : p = k
    · rw [e, uf_s]
      intro x hx
      rw [F3.1 _ _ (decide_eq_false (by omega))]; exact R2 x hx
    · rw [uf_o _ _ e]
      intro x hx
      rw [F3.1 _ _ (decide_eq_false (by omega)), F12.1 _ _ (decide_eq_false (by omega))]
      exact hO.1 p hp x hx
theorem c_its (hV : GRV Γ) (hg : isG g) (hC : CGr σ g Γ) {Q : ab_S → Prop} : ∀ f S τ, f ≤ 769 → oV Γ S → FM (So g) σ τ → CO τ g Γ S → (∀ τ', FM (So g) σ τ' → CO τ' g Γ (oIt Γ f S) → Q τ') → wX3_induce_l32 g Q E (f + 2) 1 (nI (769 - f)) τ := by
  intro f
  induction f with
  | zero =>
    intro S τ hf hvS hF hO h
    exact no (by decide) (yes (by simp (disch := omega) only [nI_lit, nI_add, nI_mulE, nI_clampE, nI_eqE, nI_leE, nI_ltE, vp_nIE, true_and, and_true]; omega) (h τ hF hO))
  | succ f ih =>
    intro S τ hf hvS hF hO h
    show wX3_induce_l32_b g Q E (wX3_induce_l32 g Q E (f + 2)) 1 (nI (769 - (f + 1))) τ
    unfold wX3_induce_l32_b
    refine no (by decide) (no (by simp (disch := omega) only [nI_lit, nI_add, nI_mulE, nI_clampE, nI_eqE, nI_leE, nI_ltE, vp_nIE, true_and, and_true]; omega) ⟨Γ.2.1 + 1, ?_⟩)
    have := c_rnd (σ := τ) (E := E) hV hg (S := S) (Q := Q) (K87 := wX3_induce_j87 g Q E (wX3_induce_l32 g Q E (f + 2))) (x3 := nI (769 - (f + 1))) hvS (fun τ2 F2 O2 => ?_) (hC.so hV hg hF) Γ.2.1 0 τ rfl (Nat.zero_le _) (FM.rf _ _) hO
    · rw [show (oRd Γ 0 S).2 = S.2 from rfl, oNw_rf] at this
      exact this
    · unfold wX3_induce_j87
      rw [nI_1, show 769 - (f + 1) + 1 = 769 - f by omega]
      refine fe ?_
      rw [oIt] at h
      cases hn : oNw S.2 (oRd Γ Γ.2.1 S).2
      · rw [if_neg (by rw [hn]; decide)] at h
        show wX3_induce_l32_b g Q E (wX3_induce_l32 g Q E (f + 1)) _ _ τ2
        unfold wX3_induce_l32_b
        exact yes rfl (h τ2 (hF.tr F2) O2)
      · rw [if_pos hn] at h
        exact ih _ τ2 (by omega) (oRd_V hV _ (Nat.le_refl _) hvS) (hF.tr F2) O2 h
end CL
