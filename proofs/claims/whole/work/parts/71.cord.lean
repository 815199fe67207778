/-! ===== order, the class's: one production ===== -/
theorem oCl_stop {G : SYT} {P : PRO} {r : MX2} (h : oVR G P r) {m : Nat} (hm : (P.2.1 + 1) * 8 ≤ m) : ∀ k, oCl (m + k) r = oCl m r
  | 0 => rfl
  | k + 1 => by
    rw [← Nat.add_assoc, oCl, oCl_stop h hm k]
    have hv := oCl_V m h
    funext x z
    unfold oW
    cases hx : oCl m r x (m + k)
    · simp
    · have := (hv x (m + k) hx).2.1
      omega
def OF (σ : ab_S) (g : Nat) (G : SYT) (P : PRO) (p : Nat) : Prop := isG g ∧ p < 30 ∧ P.2.1 ≤ 3 ∧ G.1 ≤ 12 ∧ σ.2.1 (g + 6) p = nI P.2.1 ∧ (∀ o, o ≤ P.2.1 → σ.2.1 (g + 7) (p * 4 + o) = nI (P.2.2.1 o) ∧ P.2.2.1 o < G.1) ∧ ∀ s, s < G.1 → σ.2.1 (g + 2) s = nI (G.2.2.1 s) ∧ G.2.2.1 s ≤ 8
theorem OF.fm {S : Nat → Nat → Bool} {σ σ' : ab_S} {g p : Nat} {G : SYT} {P : PRO} (h : OF σ g G P p) (f : FM S σ σ') (s6 : ∀ i, S (g + 6) i = false) (s7 : ∀ i, S (g + 7) i = false) (s2 : ∀ i, S (g + 2) i = false) : OF σ' g G P p := by
  obtain ⟨a, b, c, d, e, k, l⟩ := h
  exact ⟨a, b, c, d, by rw [f.1 _ _ (s6 _)]; exact e, fun o ho => by rw [f.1 _ _ (s7 _)]; exact k o ho, fun s hs => by rw [f.1 _ _ (s2 _)]; exact l s hs⟩
theorem CGr.of {σ : ab_S} {g : Nat} {Γ : GRT} (hC : CGr σ g Γ) (hV : GRV Γ) (hg : isG g) {p : Nat} (hp : p < Γ.2.1) : OF σ g Γ.1 (Γ.2.2.1 p) p := by
  have hpv := (hV.2.2.2 p hp).2.1
  have h30 := hV.2.1
  have hc := hC.2.2.2 p hp
  exact ⟨hg, by omega, hpv.1, hV.1.1, hc.2.1, fun o ho => ⟨hc.2.2.1 o (by omega), hpv.2.1 o ho⟩, fun s hs => ⟨(hC.1.2 s hs).2.1, (hV.1.2.2 s hs).2.1⟩⟩
def mixf (z : Nat) (f g : MX2) : MX2 := fun x => if x < z then f x else g x
theorem mixf_l {z x : Nat} {f g : MX2} (h : x < z) : mixf z f g x = f x := if_pos h
theorem mixf_r {z x : Nat} {f g : MX2} (h : ¬ x < z) : mixf z f g x = g x := if_neg h
def Sr (p : Nat) : Nat → Nat → Bool := fun a i => decide (a = 10 ∧ p * 32 ≤ i ∧ i < p * 32 + 32)
def RwC (σ : ab_S) (p : Nat) (r : MX2) : Prop := ∀ x, x < 32 → B32 (σ.2.1 10 (p * 32 + x)) (r x)
def InC (σ : ab_S) (g : Nat) (I : MX3) : Prop := ∀ s, s < 12 → ∀ a, a < 8 → B32 (σ.2.1 (g + 15) (s * 8 + a)) (I s a)
section CL
variable {σ : ab_S} {g p : Nat} {G : SYT} {P : PRO} {I : MX3} {r : MX2} {E : String → ab_S → Prop}
theorem c_adL (hO : OF σ g G P p) (hI : InC σ g I) (vI : oVI G I) {o : Nat} (ho : o ≤ P.2.1) {Q : ab_S → Prop} {K83 : Int32 → ab_S → Prop} (h : ∀ τ, FM (Sr p) σ τ → RwC τ p (mixf (8 * o + 8) (oAdd P I r) r) → K83 (nI o) τ) : ∀ f a τ, G.2.2.1 (P.2.2.1 o) - a = f → a ≤ G.2.2.1 (P.2.2.1 o) → FM (Sr p) σ τ → RwC τ p (mixf (8 * o + a) (oAdd P I r) r) → wX3_addInduced_l23 g (nI p) Q E K83 (f + 1) (nI o) (nI (P.2.2.1 o)) (nI a) τ := by
  obtain ⟨hg, h30, h3, h12, hrt, hoc, hcn⟩ := hO
  have hgb := isG_b hg
  obtain ⟨o1, o2⟩ := hoc o ho
  obtain ⟨c1, c8⟩ := hcn _ o2
  intro f
  induction f with
  | zero =>
    intro a τ hf ha hF hR
    show wX3_addInduced_l23_b _ _ _ _ _ _ _ _ _ _
    unfold wX3_addInduced_l23_b
    rw [nI_clampE (by omega), hF.1 _ _ (decide_eq_false (by omega)), c1]
    refine ⟨by simp (disch := omega) only [nI_lit, nI_add, nI_mulE, nI_clampE, nI_eqE, nI_leE, nI_ltE, vp_nIE, true_and, and_true]; omega, yes (by simp (disch := omega) only [nI_lit, nI_add, nI_mulE, nI_clampE, nI_eqE, nI_leE, nI_ltE, vp_nIE, true_and, and_true]; omega) (h τ hF (fun x hx => ?_))⟩
    have := hR x hx
    by_cases z : x < 8 * o + 8
    · by_cases w : x < 8 * o + a
      · rw [mixf_l w] at this; rw [mixf_l z]; exact this
      · rw [mixf_r w] at this
        rw [mixf_l z]
        refine this.cg (fun y _ => ?_)
        unfold oAdd
        have : I (P.2.2.1 (x / 8)) (x % 8) (y % 8) = false := by
          cases hi : I (P.2.2.1 (x / 8)) (x % 8) (y % 8)
          · rfl
          · have := (vI _ _ _ hi).2.1
            have e : x / 8 = o := by omega
            rw [e] at this
            omega
        rw [this]; simp
    · rw [mixf_r (by omega)] at this
      rw [mixf_r z]; exact this
  | succ f ih =>
    intro a τ hf ha hF hR
    have e32 : nI p * 32 + nI o * 8 + nI a = nI (p * 32 + (8 * o + a)) := by
      show nI p * nI 32 + nI o * nI 8 + _ = _
      rw [nI_mulE, nI_mulE, nI_add, nI_add]; congr 1; omega
    have e8 : nI (P.2.2.1 o) * 8 + nI a = nI (P.2.2.1 o * 8 + a) := by show nI (P.2.2.1 o) * nI 8 + _ = _; rw [nI_mulE, nI_add]
    have eo : nI o * 8 = nI (8 * o) := by show nI o * nI 8 = _; rw [nI_mulE, Nat.mul_comm]
    have ev : vp_in (nI (p * 32 + (8 * o + a))) 960 := by simp (disch := omega) only [nI_lit, nI_add, nI_mulE, nI_clampE, nI_eqE, nI_leE, nI_ltE, vp_nIE, true_and, and_true]; omega
    show wX3_addInduced_l23_b g (nI p) Q E K83 (wX3_addInduced_l23 g (nI p) Q E K83 (f + 1)) _ _ _ τ
    unfold wX3_addInduced_l23_b
    rw [e32, e8, eo, nI_clampE (show P.2.2.1 o < 2147483648 by omega), nI_clampE (show P.2.2.1 o * 8 + a < 2147483648 by omega), nI_clampE (show p * 32 + (8 * o + a) < 2147483648 by omega), hF.1 (g + 2) _ (decide_eq_false (by omega)), hF.1 (g + 15) _ (decide_eq_false (by omega)), c1]
    refine ⟨by simp (disch := omega) only [nI_lit, nI_add, nI_mulE, nI_clampE, nI_eqE, nI_leE, nI_ltE, vp_nIE, true_and, and_true]; omega, no (by simp (disch := omega) only [nI_lit, nI_add, nI_mulE, nI_clampE, nI_eqE, nI_leE, nI_ltE, vp_nIE, true_and, and_true]; omega) ⟨by simp (disch := omega) only [nI_lit, nI_add, nI_mulE, nI_clampE, nI_eqE, nI_leE, nI_ltE, vp_nIE, true_and, and_true]; omega, fe ⟨ev, ev, fe (fe ?_)⟩⟩⟩
    rw [nI_1]
    refine ih (a + 1) _ (by omega) (by omega) (hF.I (decide_eq_true (by omega))) (fun x hx => ?_)
    rw [gI_I, if_pos rfl]
    have hrx := hR x hx
    by_cases e : x = 8 * o + a
    · subst e
      rw [if_pos rfl, mixf_l (by omega)]
      rw [mixf_r (by omega)] at hrx
      refine (hrx.or ((hI _ (by omega) a (by omega)).shl (o := o) (by omega))).cg (fun y hy => ?_)
      unfold oAdd
      have d1 : (8 * o + a) / 8 = o := by omega
      have d2 : (8 * o + a) % 8 = a := by omega
      rw [d1, d2, decide_eq_true ho, Bool.true_and]
      congr 1
      by_cases z1 : o = y / 8
      · rw [decide_eq_true z1, decide_eq_true (show 8 * o ≤ y by omega), show y - 8 * o = y % 8 by omega]
      · rw [decide_eq_false z1, Bool.false_and]
        by_cases z2 : 8 * o ≤ y
        · rw [decide_eq_true z2, Bool.true_and]
          cases hi : I (P.2.2.1 o) a (y - 8 * o)
          · rfl
          · have := (vI _ _ _ hi).2.2; omega
        · rw [decide_eq_false z2, Bool.false_and]
    · rw [if_neg (by omega)]
      by_cases z : x < 8 * o + a
      · rw [mixf_l z] at hrx; rw [mixf_l (by omega)]; exact hrx
      · rw [mixf_r z] at hrx; rw [mixf_r (by omega)]; exact hrx
theorem c_ad (hO : OF σ g G P p) (hR : RwC σ p r) (hI : InC σ g I) (vI : oVI G I) {Q : ab_S → Prop} (h : ∀ τ, FM (Sr p) σ τ → RwC τ p (oAdd P I r) → Q τ) : wX3_addInduced g (nI p) Q E σ := by
  have hO0 := hO
  obtain ⟨hg, h30, h3, h12, hrt, hoc, hcn⟩ := hO
  have hgb := isG_b hg
  refine ⟨P.2.1 + 2, ?_⟩
  suffices H : ∀ f o τ, P.2.1 + 1 - o = f → o ≤ P.2.1 + 1 → FM (Sr p) σ τ → RwC τ p (mixf (8 * o) (oAdd P I r) r) → wX3_addInduced_l2 g (nI p) Q E (f + 1) (nI o) τ by
    refine H (P.2.1 + 1) 0 σ rfl (by omega) (FM.rf _ _) (fun x hx => ?_)
    rw [mixf_r (by omega)]; exact hR x hx
  intro f
  induction f with
  | zero =>
    intro o τ hf ho hF hr
    show wX3_addInduced_l2_b _ _ _ _ _ _ _
    unfold wX3_addInduced_l2_b
    rw [nI_clampE (by omega), hF.1 _ _ (decide_eq_false (by omega)), hrt]
    refine ⟨by simp (disch := omega) only [nI_lit, nI_add, nI_mulE, nI_clampE, nI_eqE, nI_leE, nI_ltE, vp_nIE, true_and, and_true]; omega, yes (by simp (disch := omega) only [nI_lit, nI_add, nI_mulE, nI_clampE, nI_eqE, nI_leE, nI_ltE, vp_nIE, true_and, and_true]; omega) (h τ hF (fun x hx => ?_))⟩
    have := hr x hx
    by_cases z : x < 8 * o
    · rw [mixf_l z] at this; exact this
    · rw [mixf_r z] at this
      refine this.cg (fun y _ => ?_)
      unfold oAdd
      rw [decide_eq_false (show ¬ x / 8 ≤ P.2.1 by omega)]; simp
  | succ f ih =>
    intro o τ hf ho hF hr
    obtain ⟨o1, o2⟩ := hoc o (by omega)
    show wX3_addInduced_l2_b g (nI p) Q E (wX3_addInduced_l2 g (nI p) Q E (f + 1)) (nI o) τ
    unfold wX3_addInduced_l2_b wX0_symbolAt
    have e4 : nI p * 4 + nI o = nI (p * 4 + o) := by show nI p * nI 4 + _ = _; rw [nI_mulE, nI_add]
    rw [e4, nI_clampE (show p < 2147483648 by omega), nI_clampE (show p * 4 + o < 2147483648 by omega), hF.1 (g + 6) _ (decide_eq_false (by omega)), hF.1 (g + 7) _ (decide_eq_false (by omega)), hrt, o1]
    refine ⟨by simp (disch := omega) only [nI_lit, nI_add, nI_mulE, nI_clampE, nI_eqE, nI_leE, nI_ltE, vp_nIE, true_and, and_true]; omega, no (by simp (disch := omega) only [nI_lit, nI_add, nI_mulE, nI_clampE, nI_eqE, nI_leE, nI_ltE, vp_nIE, true_and, and_true]; omega) ⟨by simp (disch := omega) only [nI_lit, nI_add, nI_mulE, nI_clampE, nI_eqE, nI_leE, nI_ltE, vp_nIE, true_and, and_true]; omega, G.2.2.1 (P.2.2.1 o) + 1, ?_⟩⟩
    refine c_adL hO0 hI vI (by omega) (fun τ2 F2 R2 => ?_) _ 0 τ rfl (Nat.zero_le _) hF hr
    unfold wX3_addInduced_j83
    rw [nI_1]
    exact fe (ih (o + 1) τ2 (by omega) (by omega) F2 (fun x hx => R2 x hx))
theorem c_clL (hO : OF σ g G P p) (vr : oVR G P r) {y : Nat} (hy : y < (P.2.1 + 1) * 8) {Q : ab_S → Prop} {K82 : Int32 → Int32 → Int32 → ab_S → Prop} (h : ∀ τ, FM (Sr p) σ τ → RwC τ p (oW y r) → K82 (nI (p * 32)) (nI ((P.2.1 + 1) * 8)) (nI y) τ) : ∀ f x τ, (P.2.1 + 1) * 8 - x = f → x ≤ (P.2.1 + 1) * 8 → FM (Sr p) σ τ → RwC τ p (mixf x (oW y r) r) → wX3_close_l31 g (nI p) Q E K82 (f + 1) (nI (p * 32)) (nI ((P.2.1 + 1) * 8)) (nI y) (nI x) τ := by
  obtain ⟨hg, h30, h3, h12, hrt, hoc, hcn⟩ := hO
  intro f
  induction f with
  | zero =>
    intro x τ hf hx hF hR
    refine yes (by simp (disch := omega) only [nI_lit, nI_add, nI_mulE, nI_clampE, nI_eqE, nI_leE, nI_ltE, vp_nIE, true_and, and_true]; omega) (h τ hF (fun x' hx' => ?_))
    have := hR x' hx'
    by_cases z : x' < x
    · rw [mixf_l z] at this; exact this
    · rw [mixf_r z] at this
      refine this.cg (fun w _ => ?_)
      unfold oW
      cases hb : r x' y
      · simp
      · have := (vr _ _ hb).1.1; omega
  | succ f ih =>
    intro x τ hf hx hF hR
    have hrx := hR x (by omega)
    have hry := hR y (by omega)
    rw [mixf_r (by omega)] at hrx
    have hry' : B32 (τ.2.1 10 (p * 32 + y)) (r y) := by
      by_cases z : y < x
      · rw [mixf_l z] at hry
        refine hry.cg (fun w _ => ?_)
        unfold oW
        cases r y w <;> simp
      · rw [mixf_r z] at hry; exact hry
    show wX3_close_l31_b g (nI p) Q E K82 (wX3_close_l31 g (nI p) Q E K82 (f + 1)) _ _ _ _ τ
    unfold wX3_close_l31_b
    rw [nI_add, nI_add, nI_clampE (show p * 32 + x < 2147483648 by omega), nI_clampE (show p * 32 + y < 2147483648 by omega)]
    have ev : vp_in (nI (p * 32 + x)) 960 := by simp (disch := omega) only [nI_lit, nI_add, nI_mulE, nI_clampE, nI_eqE, nI_leE, nI_ltE, vp_nIE, true_and, and_true]; omega
    refine no (by simp (disch := omega) only [nI_lit, nI_add, nI_mulE, nI_clampE, nI_eqE, nI_leE, nI_ltE, vp_nIE, true_and, and_true]; omega) ⟨ev, ?_⟩
    have hbit := hrx.bit (x := y) (by omega)
    by_cases hb : r x y = true
    · refine no (fun z => by rw [hbit.mp z] at hb; exact absurd hb Bool.false_ne_true) ⟨ev, by simp (disch := omega) only [nI_lit, nI_add, nI_mulE, nI_clampE, nI_eqE, nI_leE, nI_ltE, vp_nIE, true_and, and_true]; omega, ev, fe ?_⟩
      unfold wX3_close_j76
      rw [nI_1]
      refine fe (ih (x + 1) _ (by omega) (by omega) (hF.I (decide_eq_true (by omega))) (fun x' hx' => ?_))
      rw [gI_I, if_pos rfl]
      by_cases e : x' = x
      · subst e
        rw [if_pos rfl, mixf_l (by omega)]
        refine (hrx.or hry').cg (fun w _ => ?_)
        unfold oW
        rw [hb, Bool.true_and]
      · rw [if_neg (by omega)]
        have := hR x' hx'
        by_cases z : x' < x
        · rw [mixf_l z] at this; rw [mixf_l (by omega)]; exact this
        · rw [mixf_r z] at this; rw [mixf_r (by omega)]; exact this
    · have hb : r x y = false := by simpa using hb
      refine yes (hbit.mpr hb) ?_
      unfold wX3_close_j76
      rw [nI_1]
      refine fe (ih (x + 1) τ (by omega) (by omega) hF (fun x' hx' => ?_))
      have := hR x' hx'
      by_cases e : x' = x
      · subst e
        rw [mixf_r (by omega)] at this
        rw [mixf_l (by omega)]
        refine this.cg (fun w _ => ?_)
        unfold oW
        rw [hb, Bool.false_and, Bool.or_false]
      · by_cases z : x' < x
        · rw [mixf_l z] at this; rw [mixf_l (by omega)]; exact this
        · rw [mixf_r z] at this; rw [mixf_r (by omega)]; exact this
theorem c_cl (hO : OF σ g G P p) (hR : RwC σ p r) (vr : oVR G P r) {Q : ab_S → Prop} (h : ∀ τ, FM (Sr p) σ τ → RwC τ p (oCl 32 r) → Q τ) : wX3_close g (nI p) Q E σ := by
  have hO0 := hO
  obtain ⟨hg, h30, h3, h12, hrt, hoc, hcn⟩ := hO
  have hgb := isG_b hg
  unfold wX3_close
  rw [nI_clampE (by omega), hrt, nI_1, show nI p * 32 = nI (p * 32) by show nI p * nI 32 = _; rw [nI_mulE], show nI (P.2.1 + 1) * 8 = nI ((P.2.1 + 1) * 8) by show nI (P.2.1 + 1) * nI 8 = _; rw [nI_mulE]]
  refine fe ⟨by simp (disch := omega) only [nI_lit, nI_add, nI_mulE, nI_clampE, nI_eqE, nI_leE, nI_ltE, vp_nIE, true_and, and_true]; omega, fe ⟨(P.2.1 + 1) * 8 + 1, ?_⟩⟩
  suffices H : ∀ f y τ, (P.2.1 + 1) * 8 - y = f → y ≤ (P.2.1 + 1) * 8 → FM (Sr p) σ τ → RwC τ p (oCl y r) → wX3_close_l21 g (nI p) Q E (f + 1) (nI (p * 32)) (nI ((P.2.1 + 1) * 8)) (nI y) τ from H _ 0 σ rfl (Nat.zero_le _) (FM.rf _ _) hR
  intro f
  induction f with
  | zero =>
    intro y τ hf hy hF hr
    refine yes (by simp (disch := omega) only [nI_lit, nI_add, nI_mulE, nI_clampE, nI_eqE, nI_leE, nI_ltE, vp_nIE, true_and, and_true]; omega) (h τ hF ?_)
    have e : y = (P.2.1 + 1) * 8 := by omega
    have := oCl_stop vr (m := y) (by omega) (32 - y)
    rw [show y + (32 - y) = 32 by omega] at this
    rw [this]; exact hr
  | succ f ih =>
    intro y τ hf hy hF hr
    show wX3_close_l21_b g (nI p) Q E (wX3_close_l21 g (nI p) Q E (f + 1)) _ _ _ τ
    unfold wX3_close_l21_b
    refine no (by simp (disch := omega) only [nI_lit, nI_add, nI_mulE, nI_clampE, nI_eqE, nI_leE, nI_ltE, vp_nIE, true_and, and_true]; omega) ⟨(P.2.1 + 1) * 8 + 1, ?_⟩
    have hO1 : OF τ g G P p := hO0.fm hF (fun i => decide_eq_false (by omega)) (fun i => decide_eq_false (by omega)) (fun i => decide_eq_false (by omega))
    refine c_clL hO1 (oCl_V y vr) (by omega) (fun τ2 F2 R2 => ?_) _ 0 τ rfl (Nat.zero_le _) (FM.rf _ _) (fun x hx => by rw [mixf_r (by omega)]; exact hr x hx)
    unfold wX3_close_j82
    rw [nI_1]
    exact fe (ih (y + 1) τ2 (by omega) (by omega) (hF.tr F2) R2)
end CL
