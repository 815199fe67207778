/-! ===== rules, the model's: all of a production's; whether there are all ===== -/
theorem pRu_cnt {t : Nat → Nat} {n q lm lc : Nat} {G : SYT} {P : PRO} (hV : GV G) (hO : P.2.1 ≤ 3 ∧ ∀ o, o ≤ P.2.1 → P.2.2.1 o < G.1) (h : (pRu t n G P lm lc q).1 = true) : cnt (pRu t n G P lm lc q).2.2.1.2.2.2.2.1 32 = cnt P.2.2.2.2.1 32 + 1 := by
  unfold pRu at h ⊢
  have hsl := pSl_t (t := t) (n := n) (q := q) (G := G) (P := P) hV hO
  generalize pSl t n (kOf G P) true q = z at h hsl ⊢
  unfold pRu1 at h ⊢
  by_cases hz : z.1 = true ∧ tkK t n z.2.1 = 61
  · rw [if_pos hz] at h ⊢
    obtain ⟨a, b, c⟩ := hsl hz.1
    generalize pX t n (kOf G (pdf P z.2.2)) 60 0 0 (nx t n z.2.1) = r at h ⊢
    unfold pRu2 at h ⊢
    by_cases hr : r.1 = true ∧ tkK t n r.2.1 = 59
    · rw [if_pos hr]
      show cnt (uf P.2.2.2.2.1 z.2.2 true) 32 = _
      rw [cnt_uf c, if_pos a]
    · rw [if_neg hr] at h; exact absurd h Bool.false_ne_true
  · rw [if_neg hz] at h; exact absurd h Bool.false_ne_true
def wB (G : SYT) (P : PRO) (z : Nat) : Bool := (List.range 32).all (fun x => decide (z ≤ x) || (!(dfn G P x) || P.2.2.2.2.1 x))
theorem wB_i (G : SYT) (P : PRO) (z : Nat) : wB G P z = true ↔ ∀ x, x < 32 → x < z → dfn G P x = true → P.2.2.2.2.1 x = true := by
  unfold wB
  rw [List.all_eq_true]
  constructor
  · intro h x a b c
    have := h x (List.mem_range.mpr a)
    rw [Bool.or_eq_true, decide_eq_true_eq, Bool.or_eq_true, c] at this
    rcases this with z | z | z
    · omega
    · exact absurd z (by decide)
    · exact z
  · intro h x a
    have a := List.mem_range.mp a
    rw [Bool.or_eq_true, decide_eq_true_eq, Bool.or_eq_true]
    rcases Nat.lt_or_ge x z with y | y
    · right
      cases hd : dfn G P x
      · left; rfl
      · right; exact h x a y hd
    · left; exact y
theorem wB_0 (G : SYT) (P : PRO) : wB G P 0 = true := (wB_i G P 0).mpr (fun x _ b => absurd b (by omega))
theorem wB_32 (G : SYT) (P : PRO) : wB G P 32 = whl G P := by
  rw [Bool.eq_iff_iff, wB_i]
  unfold whl
  rw [List.all_eq_true]
  constructor
  · intro h x a
    have a := List.mem_range.mp a
    cases hd : dfn G P x
    · rfl
    · rw [h x a a hd]; rfl
  · intro h x a _ c
    have := h x (List.mem_range.mpr a)
    rw [c] at this
    exact this
theorem wB_skip {G : SYT} {P : PRO} {z z' : Nat} (hz : z ≤ z') (h : ∀ x, z ≤ x → x < z' → dfn G P x = false) : wB G P z' = wB G P z := by
  rw [Bool.eq_iff_iff, wB_i, wB_i]
  constructor
  · intro k x a b; exact k x a (by omega)
  · intro k x a b c
    rcases Nat.lt_or_ge x z with y | y
    · exact k x a y c
    · rw [h x y b] at c; exact absurd c Bool.false_ne_true
theorem wB_s {G : SYT} {P : PRO} {z : Nat} (hz : z < 32) : wB G P (z + 1) = (wB G P z && (!(dfn G P z) || P.2.2.2.2.1 z)) := by
  rw [Bool.eq_iff_iff, wB_i, Bool.and_eq_true, wB_i]
  constructor
  · intro k
    refine ⟨fun x a b => k x a (by omega), ?_⟩
    cases hd : dfn G P z
    · rfl
    · rw [k z hz (by omega) hd]; rfl
  · rintro ⟨k1, k2⟩ x a b c
    rcases Nat.lt_or_ge x z with y | y
    · exact k1 x a y c
    · have : x = z := by omega
      subst this
      rw [c] at k2
      exact k2
section ML
variable {σ : ab_S} {t : Nat → Nat} {n q p lm lc : Nat} {G : SYT} {P : PRO} {E : String → ab_S → Prop}
theorem m_whL (hc : MCtx σ t n p (kOf G P)) {k : Nat} (hk : k ≤ P.2.1) {Q : Int32 → ab_S → Prop} {K84 : Int32 → Int32 → ab_S → Prop} (h : K84 (if wB G P (8 * k + 8) then 1 else 0) (nI k) σ) : ∀ f a, G.2.2.1 (P.2.2.1 k) - a = f → a ≤ G.2.2.1 (P.2.2.1 k) → wX12_isWhole_l17 (nI p) Q E K84 (f + 1) (if wB G P (8 * k + a) then 1 else 0) (nI k) (nI a) σ := by
  obtain ⟨c1, c2, c3, c4, c5⟩ := hc
  have hO := c4.2.2.2.1 k hk
  have ho1 : σ.2.1 104 (4 * p + k) = nI (P.2.2.1 k) := hO.1
  have ho2 : P.2.2.1 k < G.1 := hO.2
  have h30 := c4.1
  have h3 : P.2.1 ≤ 3 := c4.2.1
  have hvs := c3.2.2 _ hO.2
  have h8 : G.2.2.1 (P.2.2.1 k) ≤ 8 := hvs.2.1
  have h12 : G.1 ≤ 12 := c3.1
  have e4 : (4 : Int32) * nI p + nI k = nI (4 * p + k) := by show nI 4 * nI p + _ = _; rw [nI_mulE, nI_add]
  have hcn : σ.2.1 99 (P.2.2.1 k) = nI (G.2.2.1 (P.2.2.1 k)) := (c2.2 _ hO.2).2.1
  intro f
  induction f with
  | zero =>
    intro a hf ha
    have ea : a = G.2.2.1 (P.2.2.1 k) := by omega
    show wX12_isWhole_l17_b _ _ _ _ _ _ _ _ _
    unfold wX12_isWhole_l17_b
    rw [e4, nI_clampE (by omega), ho1, nI_clampE (by omega), hcn]
    refine ⟨by simp (disch := omega) only [nI_lit, nI_add, nI_mulE, nI_clampE, nI_eqE, nI_leE, nI_ltE, vp_nIE, true_and, and_true]; omega, by simp (disch := omega) only [nI_lit, nI_add, nI_mulE, nI_clampE, nI_eqE, nI_leE, nI_ltE, vp_nIE, true_and, and_true]; omega, yes (by simp (disch := omega) only [nI_lit, nI_add, nI_mulE, nI_clampE, nI_eqE, nI_leE, nI_ltE, vp_nIE, true_and, and_true]; omega) ?_⟩
    rw [← wB_skip (z := 8 * k + a) (z' := 8 * k + 8) (by omega)]
    · exact h
    · intro x x1 x2
      unfold dfn
      have d1 : x / 8 = k := by omega
      have d2 : ¬ x % 8 < G.2.2.1 (P.2.2.1 k) := by omega
      rw [d1, decide_eq_false d2]
      simp
  | succ f ih =>
    intro a hf ha
    have hal : a < G.2.2.1 (P.2.2.1 k) := by omega
    show wX12_isWhole_l17_b (nI p) Q E K84 (wX12_isWhole_l17 (nI p) Q E K84 (f + 1)) _ (nI k) (nI a) σ
    unfold wX12_isWhole_l17_b
    rw [e4, nI_clampE (by omega), ho1, nI_clampE (by omega), hcn]
    refine ⟨by simp (disch := omega) only [nI_lit, nI_add, nI_mulE, nI_clampE, nI_eqE, nI_leE, nI_ltE, vp_nIE, true_and, and_true]; omega, by simp (disch := omega) only [nI_lit, nI_add, nI_mulE, nI_clampE, nI_eqE, nI_leE, nI_ltE, vp_nIE, true_and, and_true]; omega, no (by simp (disch := omega) only [nI_lit, nI_add, nI_mulE, nI_clampE, nI_eqE, nI_leE, nI_ltE, vp_nIE, true_and, and_true]; omega) ?_⟩
    have ih' := ih (a + 1) (by omega) (by omega)
    have es : wB G P (8 * k + (a + 1)) = (wB G P (8 * k + a) && (!(dfn G P (8 * k + a)) || P.2.2.2.2.1 (8 * k + a))) := wB_s (z := 8 * k + a) (by omega)
    rw [es] at ih'
    have d1 : (8 * k + a) / 8 = k := by omega
    have d2 : (8 * k + a) % 8 = a := by omega
    have ed : dfn G P (8 * k + a) = (G.2.2.2.1 (P.2.2.1 k) a == decide (0 < k)) := by
      unfold dfn
      rw [d1, d2, decide_eq_true hk, decide_eq_true hal, Bool.true_and, Bool.true_and]
    cases hw : wB G P (8 * k + a)
    · rw [hw, Bool.false_and] at ih'
      refine yes rfl ?_
      unfold wX12_isWhole_j76 wX12_isWhole_j77
      rw [nI_1]
      exact fe ih'
    · rw [hw, Bool.true_and] at ih'
      refine no (by decide) ?_
      refine m_isDef (K := kOf G P) c2 c3 c4 hk hal ?_
      have hu : (if ((kOf G P).1.2.2.2.1 ((kOf G P).2.2.1 k) a == decide (0 < k)) then (1 : Int32) else 0) = if dfn G P (8 * k + a) then 1 else 0 := by rw [ed]; rfl
      rw [hu]
      have f1 : (!(dfn G P (8 * k + a)) || P.2.2.2.2.1 (8 * k + a)) = true → wX12_isWhole_j72 (nI p) Q E K84 (wX12_isWhole_l17 (nI p) Q E K84 (f + 1)) (nI k) (nI a) σ := by
        intro z
        unfold wX12_isWhole_j72 wX12_isWhole_j77
        rw [nI_1]
        rw [z, if_pos rfl] at ih'
        exact fe ih'
      cases hd : dfn G P (8 * k + a)
      · exact yes rfl (f1 (by rw [hd]; rfl))
      · refine no (by decide) ?_
        have e32 : (32 : Int32) * nI p + 8 * nI k + nI a = nI (32 * p + (8 * k + a)) := by
          show nI 32 * nI p + nI 8 * nI k + _ = _
          rw [nI_mulE, nI_mulE, nI_add, nI_add]
          congr 1; omega
        rw [e32, nI_clampE (by omega)]
        refine ⟨by simp (disch := omega) only [nI_lit, nI_add, nI_mulE, nI_clampE, nI_eqE, nI_leE, nI_ltE, vp_nIE, true_and, and_true]; omega, ?_⟩
        have hx := c4.2.2.2.2.2 (8 * k + a) (by omega)
        by_cases hf2 : P.2.2.2.2.1 (8 * k + a) = true
        · exact no (fun z => absurd (hx.mpr hf2) (Int32.not_le.mpr z)) (f1 (by rw [hf2]; simp))
        · refine yes ?_ ?_
          · exact Int32.not_le.mp (fun z => hf2 (hx.mp z))
          · unfold wX12_isWhole_j76 wX12_isWhole_j77
            rw [nI_1]
            rw [hd, show P.2.2.2.2.1 (8 * k + a) = false by simpa using hf2] at ih'
            exact fe ih'
theorem m_wh (hc : MCtx σ t n p (kOf G P)) {Q : Int32 → ab_S → Prop} (h : Q (if whl G P then 1 else 0) σ) : wX12_isWhole (nI p) Q E σ := by
  have c4 := hc.2.2.2.1
  have h30 := c4.1
  have h3 : P.2.1 ≤ 3 := c4.2.1
  have hrt : σ.2.1 103 p = nI P.2.1 := c4.2.2.1
  refine ⟨P.2.1 + 2, ?_⟩
  suffices H : ∀ f k, P.2.1 + 1 - k = f → k ≤ P.2.1 + 1 → wX12_isWhole_l4 (nI p) Q E (f + 1) (if wB G P (8 * k) then 1 else 0) (nI k) σ by
    have := H (P.2.1 + 1) 0 rfl (by omega)
    rw [wB_0, if_pos rfl] at this
    exact this
  intro f
  induction f with
  | zero =>
    intro k hf hk
    show wX12_isWhole_l4_b _ _ _ _ _ _ _
    unfold wX12_isWhole_l4_b
    rw [nI_clampE (by omega), hrt]
    refine ⟨by simp (disch := omega) only [nI_lit, nI_add, nI_mulE, nI_clampE, nI_eqE, nI_leE, nI_ltE, vp_nIE, true_and, and_true]; omega, yes (by simp (disch := omega) only [nI_lit, nI_add, nI_mulE, nI_clampE, nI_eqE, nI_leE, nI_ltE, vp_nIE, true_and, and_true]; omega) ⟨by split <;> simp, ?_⟩⟩
    rw [← wB_skip (z := 8 * k) (z' := 32) (by omega), wB_32]
    · exact h
    · intro x x1 x2
      unfold dfn
      rw [decide_eq_false (show ¬ x / 8 ≤ P.2.1 by omega)]
      rfl
  | succ f ih =>
    intro k hf hk
    show wX12_isWhole_l4_b (nI p) Q E (wX12_isWhole_l4 (nI p) Q E (f + 1)) _ (nI k) σ
    unfold wX12_isWhole_l4_b
    rw [nI_clampE (by omega), hrt]
    refine ⟨by simp (disch := omega) only [nI_lit, nI_add, nI_mulE, nI_clampE, nI_eqE, nI_leE, nI_ltE, vp_nIE, true_and, and_true]; omega, no (by simp (disch := omega) only [nI_lit, nI_add, nI_mulE, nI_clampE, nI_eqE, nI_leE, nI_ltE, vp_nIE, true_and, and_true]; omega) ⟨_, m_whL hc (by omega) ?_ _ 0 rfl (by omega)⟩⟩
    unfold wX12_isWhole_j84
    rw [nI_1]
    exact fe (ih (k + 1) (by omega) (by omega))
/-- rules -/
theorem m_rules {K234 : Int32 → ab_S → Prop} {Q : ab_S → Prop} {lm0 : Nat} (σ0 : ab_S) : ∀ f q P lm lc σ, 33 ≤ f + cnt P.2.2.2.2.1 32 → MI σ t n p G P lm lc q → FM (SRm p lm0) σ0 σ → lm0 ≤ lm → ((pRs t n G f q P lm lc).1 = true → tkK t n (pRs t n G f q P lm lc).2.1 = 125 → ∀ σ', FM (SRm p lm0) σ0 σ' → MI σ' t n p G (pRs t n G f q P lm lc).2.2.1 (pRs t n G f q P lm lc).2.2.2.1 (pRs t n G f q P lm lc).2.2.2.2 (pRs t n G f q P lm lc).2.1 → K234 (nI p) σ') → (¬ ((pRs t n G f q P lm lc).1 = true ∧ tkK t n (pRs t n G f q P lm lc).2.1 = 125) → ∀ σ', FM SMr σ0 σ' → MBad σ' (pRs t n G f q P lm lc).2.1 → K234 (nI p) σ') → wX12_production_l210 Q E K234 (f + 2) (nI p) σ := by
  intro f
  induction f with
  | zero =>
    intro q P lm lc σ hc
    have := cnt_le P.2.2.2.2.1 32
    omega
  | succ f ih =>
    intro q P lm lc σ hc hI hF hl h1 h0
    have hI0 := hI
    obtain ⟨i1, i2, i3, i4, i5, i6, i7, i8, i9, i10⟩ := hI
    have bad : ∀ σ' v, MBad σ' v → K234 (nI p) σ' → wX12_production_l210 Q E K234 (f + 2) (nI p) σ' := by
      intro σ' v hb hk
      show wX12_production_l210_b _ _ _ _ _ _
      unfold wX12_production_l210_b
      exact m_goodN hb (yes rfl hk)
    show wX12_production_l210_b Q E K234 (wX12_production_l210 Q E K234 (f + 2)) (nI p) σ
    unfold wX12_production_l210_b
    refine m_goodY i2 (no (by decide) ?_)
    by_cases k3 : tkK t n q = 3
    · rw [pRs, if_pos k3] at h1 h0
      refine no (fun z => by have := (i1.sg (w := 125) (by omega) rfl).mp z; omega) ?_
      have hll : lm ≤ (pRu t n G P lm lc q).2.2.2.1 := by
        unfold pRu pRu1
        split
        · unfold pRu2
          split
          · exact Nat.le_add_right _ _
          · exact Nat.le_refl _
        · exact Nat.le_refl _
      refine m_rule hI0 k3 (fun hu σ1 f1 I1 => ?_) (fun hu σ1 f1 b1 => ?_)
      · rw [if_pos hu] at h1 h0
        have hcn := pRu_cnt (lm := lm) (lc := lc) i4 ⟨i7.1, i7.2.1⟩ hu
        exact ih _ _ _ _ σ1 (by omega) I1 (hF.tr (f1.mono (fun a i y => decide_eq_false (by have y := of_decide_eq_false y; omega)))) (by omega) h1 h0
      · rw [if_neg (by rw [hu]; decide)] at h0
        exact bad σ1 _ b1 (h0 (fun z => absurd z.1 Bool.false_ne_true) σ1 ((hF.mono SRm_SMr).tr f1) b1)
    · rw [pRs, if_neg k3] at h1 h0
      by_cases k125 : tkK t n q = 125
      · exact yes ((i1.sg (w := 125) (by omega) rfl).mpr k125) (h1 rfl k125 σ hF hI0)
      · refine no (fun z => k125 ((i1.sg (w := 125) (by omega) rfl).mp z)) ?_
        unfold wX12_rule
        refine no (fun z => k3 (i1.nb.mp z)) ?_
        rw [i1.2.2.1]
        have hq := i1.2.1
        have hn := i1.1.1
        have B : MBad (ab_I σ 92 44 (nI q)) q := ⟨by simp [gI_I], by omega⟩
        exact m_failY i2 (bad _ q B (h0 (fun z => k125 z.2) _ ((hF.mono SRm_SMr).I rfl) B))
end ML
