/-! ===== whether a grammar is ordered, both sides ===== -/
def lvR (Γ : GRT) : MX3 := fun s a b => decide (s < Γ.1.1 ∧ a < Γ.1.2.2.1 s ∧ b < Γ.1.2.2.1 s ∧ slv Γ s b = slv Γ s a + 1)
def xR (Γ : GRT) : MX3 := fun p => oCl 32 (oAdd (Γ.2.2.1 p) (lvR Γ) (nmd Γ p))
theorem lvR_V (Γ : GRT) : oVI Γ.1 (lvR Γ) := fun s a b h => by have h := of_decide_eq_true h; exact ⟨h.1, h.2.1, h.2.2.1⟩
theorem lvI_lt {J : MX2} {dn : Nat → Bool} {n : Nat} : ∀ f k L a, k + f ≤ 50 → L a < 100 → lvI J dn n f k L a < 100
  | 0, _, _, _, _, h => h
  | f + 1, k, L, a, hk, h => by
    rw [lvI]
    split
    · exact h
    · refine lvI_lt f (k + 1) _ a (by omega) ?_
      unfold lsk
      split
      · omega
      · exact h
theorem slv_lt (Γ : GRT) (s a : Nat) : slv Γ s a < 100 := lvI_lt 9 1 lv0 a (by omega) (by show 0 < 100; omega)
section CL
variable {σ : ab_S} {g p : Nat} {Γ : GRT} {r : MX2} {E : String → ab_S → Prop}
theorem c_atL {s : Nat} (hs : s < 12) {n : Nat} (h8 : n ≤ 8) (hcn : σ.2.1 (g + 2) s = nI n) {L : Nat → Nat} (hL : ∀ a, a < n → σ.2.1 (g + 16) (s * 8 + a) = nI (L a) ∧ L a < 200) {v : Nat} (hv : v < 200) {Q : Int32 → ab_S → Prop} (h : ∀ x, B32 x (fun b => decide (b < n ∧ L b = v)) → Q x σ) : wX3_atLevel g (nI s) (nI v) Q E σ := by
  refine ⟨n + 1, ?_⟩
  suffices H : ∀ f b x, n - b = f → b ≤ n → B32 x (fun c => decide (c < b ∧ L c = v)) → wX3_atLevel_l5 g (nI s) (nI v) Q E (f + 1) x (nI b) σ from H n 0 0 rfl (Nat.zero_le _) (B32.z.cg (fun i _ => (decide_eq_false (by omega)).symm))
  intro f
  induction f with
  | zero =>
    intro b x hf hb hx
    show wX3_atLevel_l5_b _ _ _ _ _ _ _ _ _
    unfold wX3_atLevel_l5_b
    rw [nI_clampE (by omega), hcn]
    have e : b = n := by omega
    subst e
    exact ⟨by simp (disch := omega) only [nI_lit, nI_add, nI_mulE, nI_clampE, nI_eqE, nI_leE, nI_ltE, vp_nIE, true_and, and_true]; omega, yes (by simp (disch := omega) only [nI_lit, nI_add, nI_mulE, nI_clampE, nI_eqE, nI_leE, nI_ltE, vp_nIE, true_and, and_true]; omega) (h x hx)⟩
  | succ f ih =>
    intro b x hf hb hx
    have e8 : nI s * 8 + nI b = nI (s * 8 + b) := by show nI s * nI 8 + _ = _; rw [nI_mulE, nI_add]
    obtain ⟨l1, l2⟩ := hL b (by omega)
    show wX3_atLevel_l5_b g (nI s) (nI v) Q E (wX3_atLevel_l5 g (nI s) (nI v) Q E (f + 1)) x (nI b) σ
    unfold wX3_atLevel_l5_b
    rw [e8, nI_clampE (show s < 2147483648 by omega), nI_clampE (show s * 8 + b < 2147483648 by omega), hcn, l1]
    refine ⟨by simp (disch := omega) only [nI_lit, nI_add, nI_mulE, nI_clampE, nI_eqE, nI_leE, nI_ltE, vp_nIE, true_and, and_true]; omega, no (by simp (disch := omega) only [nI_lit, nI_add, nI_mulE, nI_clampE, nI_eqE, nI_leE, nI_ltE, vp_nIE, true_and, and_true]; omega) ⟨by simp (disch := omega) only [nI_lit, nI_add, nI_mulE, nI_clampE, nI_eqE, nI_leE, nI_ltE, vp_nIE, true_and, and_true]; omega, ?_⟩⟩
    by_cases e : L b = v
    · refine no (fun z => z (by rw [e])) (fe ?_)
      unfold wX3_atLevel_j39
      rw [nI_1]
      refine fe (ih (b + 1) _ (by omega) (by omega) ((hx.or (B32.one (s := b) (by omega))).cg (fun i _ => ?_)))
      by_cases ei : i = b
      · subst ei; rw [decide_eq_true (show i = i from rfl), decide_eq_true (show i < i + 1 ∧ L i = v from ⟨by omega, e⟩), Bool.or_true]
      · rw [decide_eq_false ei, Bool.or_false, decide_eq_decide]
        omega
    · refine yes (by simp (disch := omega) only [nI_lit, nI_add, nI_mulE, nI_clampE, nI_eqE, nI_leE, nI_ltE, vp_nIE, true_and, and_true]; exact e) ?_
      unfold wX3_atLevel_j39
      rw [nI_1]
      refine fe (ih (b + 1) x (by omega) (by omega) (hx.cg (fun i _ => ?_)))
      rw [decide_eq_decide]
      constructor
      · intro z; exact ⟨by omega, z.2⟩
      · intro z
        by_cases ei : i = b
        · rw [ei] at z; exact absurd z.2 e
        · exact ⟨by omega, z.2⟩
theorem c_alL (hO : OF σ g Γ.1 (Γ.2.2.1 p) p) (hL : CLs σ g Γ) {o : Nat} (ho : o ≤ (Γ.2.2.1 p).2.1) {Q : ab_S → Prop} {K91 : Int32 → ab_S → Prop} (h : ∀ τ, FM (Sr p) σ τ → RwC τ p (mixf (8 * o + 8) (oAdd (Γ.2.2.1 p) (lvR Γ) r) r) → K91 (nI o) τ) : ∀ f a τ, Γ.1.2.2.1 ((Γ.2.2.1 p).2.2.1 o) - a = f → a ≤ Γ.1.2.2.1 ((Γ.2.2.1 p).2.2.1 o) → FM (Sr p) σ τ → RwC τ p (mixf (8 * o + a) (oAdd (Γ.2.2.1 p) (lvR Γ) r) r) → wX3_addLevels_l23 g (nI p) Q E K91 (f + 1) (nI o) (nI ((Γ.2.2.1 p).2.2.1 o)) (nI a) τ := by
  obtain ⟨hg, h30, h3, h12, hrt, hoc, hcn⟩ := hO
  have hgb := isG_b hg
  obtain ⟨o1, o2⟩ := hoc o ho
  obtain ⟨c1, c8⟩ := hcn _ o2
  have vI := lvR_V Γ
  intro f
  induction f with
  | zero =>
    intro a τ hf ha hF hR
    show wX3_addLevels_l23_b _ _ _ _ _ _ _ _ _ _
    unfold wX3_addLevels_l23_b
    rw [nI_clampE (by omega), hF.1 _ _ (decide_eq_false (by omega)), c1]
    refine ⟨by simp (disch := omega) only [nI_lit, nI_add, nI_mulE, nI_clampE, nI_eqE, nI_leE, nI_ltE, vp_nIE, true_and, and_true]; omega, yes (by simp (disch := omega) only [nI_lit, nI_add, nI_mulE, nI_clampE, nI_eqE, nI_leE, nI_ltE, vp_nIE, true_and, and_true]; omega) (h τ hF (fun x hx => ?_))⟩
    have := hR x hx
    by_cases z : x < 8 * o + 8
    · by_cases w : x < 8 * o + a
      · rw [mixf_l w] at this; rw [mixf_l z]; exact this
      · rw [mixf_r w] at this
        rw [mixf_l z]
        refine this.cg (fun y _ => ?_)
        unfold oAdd
        have : lvR Γ ((Γ.2.2.1 p).2.2.1 (x / 8)) (x % 8) (y % 8) = false := by
          cases hi : lvR Γ ((Γ.2.2.1 p).2.2.1 (x / 8)) (x % 8) (y % 8)
          · rfl
          · have := (vI _ _ _ hi).2.1
            have e : x / 8 = o := by omega
            rw [e] at this
            omega
        rw [this]; simp
    · rw [mixf_r (by omega)] at this
      rw [mixf_r z]; exact this
  | succ f ih =>
    intro a τ hf ha hF hR
    have e32 : nI p * 32 + nI o * 8 + nI a = nI (p * 32 + (8 * o + a)) := by
      show nI p * nI 32 + nI o * nI 8 + _ = _
      rw [nI_mulE, nI_mulE, nI_add, nI_add]; congr 1; omega
    have e8 : nI ((Γ.2.2.1 p).2.2.1 o) * 8 + nI a = nI ((Γ.2.2.1 p).2.2.1 o * 8 + a) := by show nI ((Γ.2.2.1 p).2.2.1 o) * nI 8 + _ = _; rw [nI_mulE, nI_add]
    have eo : nI o * 8 = nI (8 * o) := by show nI o * nI 8 = _; rw [nI_mulE, Nat.mul_comm]
    have ev : vp_in (nI (p * 32 + (8 * o + a))) 960 := by simp (disch := omega) only [nI_lit, nI_add, nI_mulE, nI_clampE, nI_eqE, nI_leE, nI_ltE, vp_nIE, true_and, and_true]; omega
    have hla := (hL _ o2).1 a (by omega)
    show wX3_addLevels_l23_b g (nI p) Q E K91 (wX3_addLevels_l23 g (nI p) Q E K91 (f + 1)) _ _ _ τ
    unfold wX3_addLevels_l23_b
    rw [e32, e8, eo, nI_clampE (show (Γ.2.2.1 p).2.2.1 o < 2147483648 by omega), nI_clampE (show (Γ.2.2.1 p).2.2.1 o * 8 + a < 2147483648 by omega), nI_clampE (show p * 32 + (8 * o + a) < 2147483648 by omega), hF.1 (g + 2) _ (decide_eq_false (by omega)), hF.1 (g + 16) _ (decide_eq_false (by omega)), c1, hla, nI_1]
    refine ⟨by simp (disch := omega) only [nI_lit, nI_add, nI_mulE, nI_clampE, nI_eqE, nI_leE, nI_ltE, vp_nIE, true_and, and_true]; omega, no (by simp (disch := omega) only [nI_lit, nI_add, nI_mulE, nI_clampE, nI_eqE, nI_leE, nI_ltE, vp_nIE, true_and, and_true]; omega) ⟨by simp (disch := omega) only [nI_lit, nI_add, nI_mulE, nI_clampE, nI_eqE, nI_leE, nI_ltE, vp_nIE, true_and, and_true]; omega, ?_⟩⟩
    have hlt := slv_lt Γ ((Γ.2.2.1 p).2.2.1 o)
    refine c_atL (L := slv Γ ((Γ.2.2.1 p).2.2.1 o)) (by omega) c8 (by rw [hF.1 (g + 2) _ (decide_eq_false (by omega))]; exact c1) (fun b hb => ⟨by rw [hF.1 (g + 16) _ (decide_eq_false (by omega))]; exact (hL _ o2).1 b hb, by have := hlt b; omega⟩) (by have := hlt a; omega) (fun x hX => ⟨ev, ev, fe (fe ?_)⟩)
    rw [nI_1]
    refine ih (a + 1) _ (by omega) (by omega) (hF.I (decide_eq_true (by omega))) (fun x' hx' => ?_)
    rw [gI_I, if_pos rfl]
    have hrx := hR x' hx'
    by_cases e : x' = 8 * o + a
    · subst e
      rw [if_pos rfl, mixf_l (by omega)]
      rw [mixf_r (by omega)] at hrx
      refine (hrx.or (hX.shl (o := o) (by omega))).cg (fun y hy => ?_)
      unfold oAdd
      have d1 : (8 * o + a) / 8 = o := by omega
      have d2 : (8 * o + a) % 8 = a := by omega
      rw [d1, d2, decide_eq_true ho, Bool.true_and]
      congr 1
      unfold lvR
      by_cases z1 : o = y / 8
      · rw [decide_eq_true z1, decide_eq_true (show 8 * o ≤ y by omega), show y - 8 * o = y % 8 by omega, Bool.true_and, Bool.true_and, decide_eq_decide]
        exact ⟨fun z => ⟨o2, by omega, z.1, z.2⟩, fun z => ⟨z.2.2.1, z.2.2.2⟩⟩
      · rw [decide_eq_false z1, Bool.false_and]
        by_cases z2 : 8 * o ≤ y
        · rw [decide_eq_true z2, Bool.true_and, decide_eq_false (show ¬ (y - 8 * o < Γ.1.2.2.1 ((Γ.2.2.1 p).2.2.1 o) ∧ _) from fun z => by have := z.1; omega)]
        · rw [decide_eq_false z2, Bool.false_and]
    · rw [if_neg (by omega)]
      by_cases z : x' < 8 * o + a
      · rw [mixf_l z] at hrx; rw [mixf_l (by omega)]; exact hrx
      · rw [mixf_r z] at hrx; rw [mixf_r (by omega)]; exact hrx
theorem c_al (hO : OF σ g Γ.1 (Γ.2.2.1 p) p) (hR : RwC σ p r) (hL : CLs σ g Γ) {Q : ab_S → Prop} (h : ∀ τ, FM (Sr p) σ τ → RwC τ p (oAdd (Γ.2.2.1 p) (lvR Γ) r) → Q τ) : wX3_addLevels g (nI p) Q E σ := by
  have hO0 := hO
  obtain ⟨hg, h30, h3, h12, hrt, hoc, hcn⟩ := hO
  have hgb := isG_b hg
  refine ⟨(Γ.2.2.1 p).2.1 + 2, ?_⟩
  suffices H : ∀ f o τ, (Γ.2.2.1 p).2.1 + 1 - o = f → o ≤ (Γ.2.2.1 p).2.1 + 1 → FM (Sr p) σ τ → RwC τ p (mixf (8 * o) (oAdd (Γ.2.2.1 p) (lvR Γ) r) r) → wX3_addLevels_l2 g (nI p) Q E (f + 1) (nI o) τ by
    refine H ((Γ.2.2.1 p).2.1 + 1) 0 σ rfl (by omega) (FM.rf _ _) (fun x hx => ?_)
    rw [mixf_r (by omega)]; exact hR x hx
  intro f
  induction f with
  | zero =>
    intro o τ hf ho hF hr
    show wX3_addLevels_l2_b _ _ _ _ _ _ _
    unfold wX3_addLevels_l2_b
    rw [nI_clampE (by omega), hF.1 _ _ (decide_eq_false (by omega)), hrt]
    refine ⟨by simp (disch := omega) only [nI_lit, nI_add, nI_mulE, nI_clampE, nI_eqE, nI_leE, nI_ltE, vp_nIE, true_and, and_true]; omega, yes (by simp (disch := omega) only [nI_lit, nI_add, nI_mulE, nI_clampE, nI_eqE, nI_leE, nI_ltE, vp_nIE, true_and, and_true]; omega) (h τ hF (fun x hx => ?_))⟩
    have := hr x hx
    by_cases z : x < 8 * o
    · rw [mixf_l z] at this; exact this
    · rw [mixf_r z] at this
      refine this.cg (fun y _ => ?_)
      unfold oAdd
      rw [decide_eq_false (show ¬ x / 8 ≤ (Γ.2.2.1 p).2.1 by omega)]; simp
  | succ f ih =>
    intro o τ hf ho hF hr
    obtain ⟨o1, o2⟩ := hoc o (by omega)
    show wX3_addLevels_l2_b g (nI p) Q E (wX3_addLevels_l2 g (nI p) Q E (f + 1)) (nI o) τ
    unfold wX3_addLevels_l2_b wX0_symbolAt
    have e4 : nI p * 4 + nI o = nI (p * 4 + o) := by show nI p * nI 4 + _ = _; rw [nI_mulE, nI_add]
    rw [e4, nI_clampE (show p < 2147483648 by omega), nI_clampE (show p * 4 + o < 2147483648 by omega), hF.1 (g + 6) _ (decide_eq_false (by omega)), hF.1 (g + 7) _ (decide_eq_false (by omega)), hrt, o1]
    refine ⟨by simp (disch := omega) only [nI_lit, nI_add, nI_mulE, nI_clampE, nI_eqE, nI_leE, nI_ltE, vp_nIE, true_and, and_true]; omega, no (by simp (disch := omega) only [nI_lit, nI_add, nI_mulE, nI_clampE, nI_eqE, nI_leE, nI_ltE, vp_nIE, true_and, and_true]; omega) ⟨by simp (disch := omega) only [nI_lit, nI_add, nI_mulE, nI_clampE, nI_eqE, nI_leE, nI_ltE, vp_nIE, true_and, and_true]; omega, Γ.1.2.2.1 ((Γ.2.2.1 p).2.2.1 o) + 1, ?_⟩⟩
    refine c_alL hO0 hL (by omega) (fun τ2 F2 R2 => ?_) _ 0 τ rfl (Nat.zero_le _) hF hr
    unfold wX3_addLevels_j91
    rw [nI_1]
    exact fe (ih (o + 1) τ2 (by omega) (by omega) F2 (fun x hx => R2 x hx))
theorem nmd_V (hV : GRV Γ) (hp : p < Γ.2.1) : oVR Γ.1 (Γ.2.2.1 p) (nmd Γ p) := (ord0_V hV).1 p hp
theorem c_crs (hV : GRV Γ) (hg : isG g) (hC : CGr σ g Γ) (hL : CLs σ g Γ) {Q : Int32 → ab_S → Prop} (h : ∀ τ, FM (fun a _ => decide (a = 10)) σ τ → Q (fcI (xR Γ) Γ.2.1) τ) : wX3_firstCrossed g Q E σ := by
  have h30 := hV.2.1
  have hgb := isG_b hg
  unfold wX3_firstCrossed
  rw [hC.2.1]
  obtain ⟨c1, c2⟩ := c_cpy hV hg hC
  refine ⟨c1, fun σ1 h1 => ?_⟩
  obtain ⟨F1, R1⟩ := c2 σ1 h1
  clear c2 h1
  refine ⟨Γ.2.1 + 1, ?_⟩
  suffices H : ∀ f p τ, Γ.2.1 - p = f → p ≤ Γ.2.1 → FM (fun a _ => decide (a = 10)) σ τ → (∀ p', p ≤ p' → p' < Γ.2.1 → RwC τ p' (nmd Γ p')) → fcF (xR Γ) f p = fcr (xR Γ) Γ.2.1 → wX3_firstCrossed_l22 g Q E (f + 1) (nI p) τ from H Γ.2.1 0 σ1 rfl (Nat.zero_le _) F1 (fun p' _ hp' => R1 p' hp') rfl
  intro f
  induction f with
  | zero =>
    intro p τ hf hp hF hR he
    show wX3_firstCrossed_l22_b _ _ _ _ _ _
    unfold wX3_firstCrossed_l22_b
    rw [hF.1 g 5 (decide_eq_false (by omega)), hC.2.1]
    refine yes (by simp (disch := omega) only [nI_lit, nI_add, nI_mulE, nI_clampE, nI_eqE, nI_leE, nI_ltE, vp_nIE, true_and, and_true]; omega) ?_
    have e : p = fcr (xR Γ) Γ.2.1 := he
    have := h τ hF
    unfold fcI at this
    rw [if_neg (by omega)] at this
    exact this
  | succ f ih =>
    intro p τ hf hp hF hR he
    have FS : FM (So g) σ τ := hF.mono (fun a i y => by have y := of_decide_eq_false y; exact decide_eq_false (by omega))
    have hC1 := hC.so hV hg FS
    have O1 := hC1.of hV hg (p := p) (by omega)
    have L1 : CLs τ g Γ := fun s hs => ⟨fun a ha => by rw [hF.1 _ _ (decide_eq_false (by omega))]; exact (hL s hs).1 a ha, by rw [hF.1 _ _ (decide_eq_false (by omega))]; exact (hL s hs).2⟩
    show wX3_firstCrossed_l22_b g Q E (wX3_firstCrossed_l22 g Q E (f + 1)) (nI p) τ
    unfold wX3_firstCrossed_l22_b
    rw [hC1.2.1, nI_1]
    refine no (by simp (disch := omega) only [nI_lit, nI_add, nI_mulE, nI_clampE, nI_eqE, nI_leE, nI_ltE, vp_nIE, true_and, and_true]; omega) ?_
    refine c_al O1 (hR p (Nat.le_refl _) (by omega)) L1 (fun τ1 G1 Q1 => ?_)
    have O2 := O1.fm G1 (fun i => decide_eq_false (by omega)) (fun i => decide_eq_false (by omega)) (fun i => decide_eq_false (by omega))
    refine c_cl O2 Q1 (oAdd_V (nmd_V hV (by omega)) (lvR_V Γ)) (fun τ2 G2 Q2 => ?_)
    have G12 := G1.tr G2
    have F2 : FM (fun a _ => decide (a = 10)) σ τ2 := hF.tr (G12.mono (fun a i y => by have y := of_decide_eq_false y; exact decide_eq_false (by omega)))
    refine c_hc (by omega) Q2 ?_
    rw [fcF] at he
    have hxr : crc (oCl 32 (oAdd (Γ.2.2.1 p) (lvR Γ) (nmd Γ p))) = crc (xR Γ p) := rfl
    rw [hxr]
    cases hc : crc (xR Γ p)
    · rw [if_neg (by rw [hc]; decide)] at he
      refine yes rfl (fe (ih (p + 1) τ2 (by omega) (by omega) F2 (fun p' h1 h2 => ?_) he))
      intro x hx
      rw [G12.1 _ _ (decide_eq_false (by omega))]
      exact hR p' (by omega) h2 x hx
    · rw [if_pos hc] at he
      have := h τ2 F2
      unfold fcI at this
      rw [← he, if_pos (by omega)] at this
      exact no (by decide) this
end CL
