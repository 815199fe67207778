/-! ===== productions, the model's ===== -/
theorem sm92 {i : Nat} (h : i = 9 ∨ i = 14 ∨ i = 21 ∨ (40 ≤ i ∧ i ≤ 45) ∨ i = 49 ∨ i = 51) : SMr 92 i = true := by simp [SMr]; omega
theorem smA {a i : Nat} (h : 97 ≤ a ∧ a ≤ 108) : SMr a i = true := by simp [SMr, h]
theorem kind1 : ∀ k, k < 128 → vk k = true → (mk k = 1 ↔ k = 2 ∨ (4 ≤ k ∧ k ≤ 9)) := by decide +kernel
section MB
variable {σ : ab_S} {p v : Nat} {Q : ab_S → Prop} {E : String → ab_S → Prop}
theorem MBad.I {a i : Nat} {x : Int32} (h : MBad σ v) (ha : a ≠ 92 ∨ i ≠ 44) : MBad (ab_I σ a i x) v := by
  refine ⟨?_, h.2⟩
  rw [gI_I]
  by_cases e : 92 = a
  · rw [if_pos e, if_neg (by omega), ← e]; exact h.1
  · rw [if_neg e]; exact h.1
theorem pb257 (hb : MBad σ v) (h : ∀ σ', FM SMr σ σ' → MBad σ' v → Q σ') : wX12_production_j257 Q E σ := by
  unfold wX12_production_j257
  exact m_needB hb (fe (h _ ((FM.rf _ σ).I (sm92 (by omega))) (hb.I (by omega))))
theorem pb234 (hb : MBad σ v) (h : ∀ σ', FM SMr σ σ' → MBad σ' v → Q σ') : wX12_production_j234 Q E (nI p) σ := by
  unfold wX12_production_j234
  exact m_goodN hb (yes rfl (pb257 hb h))
theorem pb210 (hb : MBad σ v) (h : ∀ σ', FM SMr σ σ' → MBad σ' v → Q σ') : ∃ n, wX12_production_l210 Q E (wX12_production_j234 Q E) n (nI p) σ := by
  refine ⟨1, ?_⟩
  show wX12_production_l210_b _ _ _ _ _ _
  unfold wX12_production_l210_b
  exact m_goodN hb (yes rfl (pb234 hb h))
theorem m_l186 {K210 : Int32 → ab_S → Prop} (hp : p < 30) (h : ∀ σ', FM (fun a i => decide (a = 105 ∧ 32 * p ≤ i ∧ i < 32 * p + 32)) σ σ' → (∀ x, x < 32 → σ'.2.1 105 (32 * p + x) = -1) → K210 (nI p) σ') : ∃ n, wX12_production_l186 Q E K210 n (nI p) 0 σ := by
  refine ⟨33, ?_⟩
  suffices H : ∀ f x τ, 32 - x = f → x ≤ 32 → FM (fun a i => decide (a = 105 ∧ 32 * p ≤ i ∧ i < 32 * p + 32)) σ τ → (∀ y, y < x → τ.2.1 105 (32 * p + y) = -1) → wX12_production_l186 Q E K210 (f + 1) (nI p) (nI x) τ from H 32 0 σ rfl (by omega) (FM.rf _ _) (fun y hy => absurd hy (by omega))
  intro f
  induction f with
  | zero =>
    intro x τ hf hx hF hv
    exact yes (by simp (disch := omega) only [nI_lit, nI_add, nI_mulE, nI_clampE, nI_eqE, nI_leE, nI_ltE, vp_nIE, true_and, and_true]; omega) (h τ hF (fun y hy => hv y (by omega)))
  | succ f ih =>
    intro x τ hf hx hF hv
    have e32 : (32 : Int32) * nI p + nI x = nI (32 * p + x) := by show nI 32 * nI p + _ = _; rw [nI_mulE, nI_add]
    show wX12_production_l186_b Q E K210 (wX12_production_l186 Q E K210 (f + 1)) (nI p) (nI x) τ
    unfold wX12_production_l186_b
    rw [e32, nI_clampE (by omega), nI_1]
    refine no (by simp (disch := omega) only [nI_lit, nI_add, nI_mulE, nI_clampE, nI_eqE, nI_leE, nI_ltE, vp_nIE, true_and, and_true]; omega) ⟨by simp (disch := omega) only [nI_lit, nI_add, nI_mulE, nI_clampE, nI_eqE, nI_leE, nI_ltE, vp_nIE, true_and, and_true]; omega, fe (fe ?_)⟩
    refine ih (x + 1) _ (by omega) (by omega) (hF.I (decide_eq_true (by omega))) (fun y hy => ?_)
    rw [gI_I, if_pos rfl]
    by_cases e : y = x
    · rw [if_pos (by omega)]
    · rw [if_neg (by omega)]; exact hv y (by omega)
theorem pb178 (hp : p < 30) (hb : MBad σ v) (h : ∀ σ', FM SMr σ σ' → MBad σ' v → Q σ') : wX12_production_j178 Q E (nI p) σ := by
  unfold wX12_production_j178
  refine m_needB hb (m_l186 hp (fun σ1 f1 _ => ?_))
  refine pb210 (v := v) ⟨by rw [f1.1 92 44 rfl]; exact hb.1, hb.2⟩ (fun σ2 f2 b2 => h σ2 ((f1.mono (fun a i y => decide_eq_false (by have y := SMr_f y; omega))).tr f2) b2)
theorem pb110 (hp : p < 30) {K135 : ab_S → Prop} {m : Nat} (hb : MBad σ v) (h : ∀ σ', FM SMr σ σ' → MBad σ' v → Q σ') : wX12_production_l110 Q E K135 (wX12_production_j178 Q E) (m + 1) (nI p) σ := by
  show wX12_production_l110_b _ _ _ _ _ _ _
  unfold wX12_production_l110_b
  exact m_goodN hb (yes rfl (pb178 hp hb h))
theorem pb103 (hp : p < 30) (hb : MBad σ v) (h : ∀ σ', FM SMr σ σ' → MBad σ' v → Q σ') : wX12_production_j103 Q E (nI p) σ := by
  unfold wX12_production_j103
  rw [nI_clampE (by omega)]
  refine ⟨by simp (disch := omega) only [nI_lit, nI_add, nI_mulE, nI_clampE, nI_eqE, nI_leE, nI_ltE, vp_nIE, true_and, and_true]; omega, fe ⟨1, pb110 hp (hb.I (by omega)) (fun σ2 f2 b2 => h σ2 (((FM.rf _ σ).I (smA (by omega))).tr f2) b2)⟩⟩
theorem pb88 (hp : p < 30) (hb : MBad σ v) (h : ∀ σ', FM SMr σ σ' → MBad σ' v → Q σ') : wX12_production_j88 Q E (nI p) (nI p) σ := by
  unfold wX12_production_j88 wX12_production_j89
  have ev : vp_in (nI p) 31 := by simp (disch := omega) only [nI_lit, nI_add, nI_mulE, nI_clampE, nI_eqE, nI_leE, nI_ltE, vp_nIE, true_and, and_true]; omega
  rw [nI_clampE (by omega), show vp_nar .boolean (0 : Int32) = 0 from by decide]
  refine ⟨ev, fe ⟨ev, yes (by simp [gI_I]) ?_⟩⟩
  exact pb103 hp (hb.I (by omega)) (fun σ2 f2 b2 => h σ2 (((FM.rf _ σ).I (smA (by omega))).tr f2) b2)
theorem pb57 (hp : p < 30) {y0 : Int32} (hb : MBad σ v) (h : ∀ σ', FM SMr σ σ' → MBad σ' v → Q σ') : wX12_production_j57 Q E (nI p) y0 (4 * nI p) σ := by
  have e4 : (4 : Int32) * nI p = nI (4 * p) := by show nI 4 * nI p = _; rw [nI_mulE]
  unfold wX12_production_j57
  rw [e4, nI_clampE (by omega)]
  refine ⟨by simp (disch := omega) only [nI_lit, nI_add, nI_mulE, nI_clampE, nI_eqE, nI_leE, nI_ltE, vp_nIE, true_and, and_true]; omega, fe ?_⟩
  have b1 : MBad (ab_I σ 104 (4 * p) y0) v := hb.I (by omega)
  exact m_needB b1 (m_goodN b1 (yes rfl (pb88 hp b1 (fun σ2 f2 b2 => h σ2 (((FM.rf _ σ).I (smA (by omega))).tr f2) b2))))
end MB
section ML
variable {σ : ab_S} {t : Nat → Nat} {n q p lm lc : Nat} {G : SYT} {P : PRO} {E : String → ab_S → Prop}
theorem m_symH (hS : MS σ t n q) (hG : MOk σ) (hC : MSy σ G) (hV : GV G) {Q : Int32 → ab_S → Prop} (h1 : tkK t n q = 2 → fi G.2.1 G.1 (nml t n q) < G.1 → ∀ σ', FM Sadv σ σ' → MS σ' t n (nx t n q) → Q (nI (fi G.2.1 G.1 (nml t n q))) σ') (h0 : ¬ (tkK t n q = 2 ∧ fi G.2.1 G.1 (nml t n q) < G.1) → Q 0 (ab_I σ 92 44 (nI q))) : wX12_symbolHere Q E σ := by
  have h12 := hV.1
  unfold wX12_symbolHere
  rw [hC.1]
  by_cases k2 : tkK t n q = 2
  · refine m_find (from' := 0) (nm := G.2.1) hS k2 (by omega) (by omega) (fun i hi => ⟨fun k hk => by rw [Nat.zero_add]; exact (hC.2 i hi).1 k hk, (hV.2.2 i hi).1⟩) hV.2.1 ?_
    by_cases kf : fi G.2.1 G.1 (nml t n q) = G.1
    · rw [fiI_no kf]
      refine no (by decide) ?_
      rw [hS.2.2.1]
      exact m_failY hG (h0 (fun z => by omega))
    · have hne := fiI_ne kf (by omega)
      have ei : fiI G.2.1 G.1 (nml t n q) = nI (fi G.2.1 G.1 (nml t n q)) := by unfold fiI; rw [if_pos hne.2]
      rw [ei]
      refine yes (by show nI 0 ≤ nI _; simp (disch := omega) only [nI_lit, nI_add, nI_mulE, nI_clampE, nI_eqE, nI_leE, nI_ltE, vp_nIE, true_and, and_true]; omega) ?_
      exact m_next hS (fun σ' f s => h1 k2 hne.2 σ' f s)
  · refine m_find0 hS k2 ?_
    refine no (by decide) ?_
    rw [hS.2.2.1]
    exact m_failY hG (h0 (fun z => k2 z.1))
def MJ (σ : ab_S) (t : Nat → Nat) (n p : Nat) (G : SYT) (P : PRO) (lm q : Nat) : Prop := MS σ t n q ∧ MOk σ ∧ MSy σ G ∧ GV G ∧ p < 30 ∧ (∀ j, j < 8 → σ.2.1 101 (8 * p + j) = nI (P.1.getD j 0)) ∧ σ.2.1 103 p = nI P.2.1 ∧ (∀ o, o ≤ P.2.1 → σ.2.1 104 (4 * p + o) = nI (P.2.2.1 o) ∧ P.2.2.1 o < G.1) ∧ σ.2.1 102 p = (if P.2.2.2.1 then 1 else 0) ∧ P.2.1 ≤ 3 ∧ (∀ x, P.2.2.2.2.1 x = false) ∧ σ.2.1 92 21 = nI lm ∧ lm ≤ q ∧ σ.2.1 92 14 = nI p
/-- how the model stands behind a production -/
def MPk (σ0 σ : ab_S) (t : Nat → Nat) (n p lm0 : Nat) (G : SYT) (u : RRs) : Prop := FM (SRm p lm0) σ0 σ ∧ MS σ t n u.2.1 ∧ MOk σ ∧ MSy σ G ∧ MPo σ p u.2.2.1 (u.2.2.1.2.1 + 1) ∧ PV G u.2.2.1 u.2.2.2.1 u.2.2.2.2 ∧ whl G u.2.2.1 = true ∧ σ.2.1 92 21 = nI u.2.2.2.1 ∧ u.2.2.2.1 ≤ u.2.1 ∧ σ.2.1 92 14 = nI (p + 1)
theorem m_p5 {Q : ab_S → Prop} (σ0 : ab_S) (hJ : MJ σ t n p G P lm q) (hF : FM (SRm p lm) σ0 σ) (h1 : (pP5 t n G q P lm lc).1 = true → ∀ σ', MPk σ0 σ' t n p lm G (pP5 t n G q P lm lc) → Q σ') (h0 : (pP5 t n G q P lm lc).1 = false → ∀ σ', FM SMr σ0 σ' → MBad σ' (pP5 t n G q P lm lc).2.1 → Q σ') : wX12_production_j178 Q E (nI p) σ := by
  obtain ⟨j1, j2, j3, j4, j5, j6, j7, j8, j9, j10, j11, j12, j13, j14⟩ := hJ
  have hn := j1.1.1
  have hq := j1.2.1
  unfold wX12_production_j178
  have FS0 : FM SMr σ0 σ := hF.mono SRm_SMr
  refine m_need (w := 123) j1 j2 (by omega) rfl rfl (fun kd σ1 f1 s1 => ?_) (fun kd => ?_)
  · have hgt := nx_gt (t := t) (n := n) (q := q) (by omega)
    rw [pP5, if_pos kd] at h1 h0
    refine m_l186 j5 (fun σ2 f2 v2 => ⟨35, ?_⟩)
    have S2 : MS σ2 t n (nx t n q) := s1.fm f2 rfl (fun _ => rfl) (fun _ => rfl) rfl rfl rfl rfl
    have I2 : MI σ2 t n p G P lm lc (nx t n q) := by
      refine ⟨S2, (j2.fm f1 rfl).fm f2 rfl, (j3.adv f1).fm f2 rfl (fun _ => rfl) (fun _ => rfl) (fun _ => rfl) (fun _ => rfl), j4, j5, ⟨fun j hj => ?_, ?_, fun o ho => ?_, ?_, fun x hx => ⟨fun hd => absurd (hd.symm.trans (j11 x)) (by decide), fun _ => v2 x hx⟩⟩, ⟨j10, fun o ho => (j8 o ho).2, fun x hx => absurd (hx.symm.trans (j11 x)) (by decide)⟩, ?_, by omega, ?_⟩
      · rw [f2.1 _ _ rfl, f1.1 _ _ rfl]; exact j6 j hj
      · rw [f2.1 _ _ rfl, f1.1 _ _ rfl]; exact j7
      · rw [f2.1 _ _ rfl, f1.1 _ _ rfl]; exact (j8 o (by omega)).1
      · rw [f2.1 _ _ rfl, f1.1 _ _ rfl]; exact j9
      · rw [f2.1 _ _ rfl, f1.1 _ _ rfl]; exact j12
      · rw [f2.1 _ _ rfl, f1.1 _ _ rfl]; exact j14
    have F2 : FM (SRm p lm) σ0 σ2 := (hF.tr (f1.mono Sadv_SRm)).tr (f2.mono (fun a i y => decide_eq_false (by have y := of_decide_eq_false y; omega)))
    refine m_rules (lm0 := lm) σ0 33 (nx t n q) P lm lc σ2 (by omega) I2 F2 (Nat.le_refl _) (fun hy k125 σ3 f3 I3 => ?_) (fun hy σ3 f3 b3 => ?_)
    · generalize pRs t n G 33 (nx t n q) P lm lc = y at h1 h0 hy k125 I3
      have cx := I3.ctx
      obtain ⟨i1, i2, i3, i4, i5, i6, i7, i8, i9, i10⟩ := I3
      unfold wX12_production_j234
      refine m_goodY i2 (no (by decide) (m_wh cx ?_))
      by_cases hw : whl G y.2.2.1 = true
      · rw [if_pos hw]
        refine yes (by decide) ?_
        unfold wX12_production_j257
        have e6 : pP6 t n G y = (true, nx t n y.2.1, y.2.2) := by unfold pP6; rw [if_pos ⟨hy, hw, k125⟩]
        rw [e6] at h1
        have hgt3 := nx_gt (t := t) (n := n) (q := y.2.1) (by omega)
        refine m_need (w := 125) i1 i2 (by omega) rfl rfl (fun _ σ4 f4 s4 => ?_) (fun kn => absurd k125 kn)
        have I4 := MI.adv (q' := nx t n y.2.1) ⟨i1, i2, i3, i4, i5, i6, i7, i8, i9, i10⟩ f4 s4 (by omega)
        obtain ⟨k1, k2, k3, k4, k5, k6, k7, k8, k9, k10⟩ := I4
        rw [k10, nI_1]
        refine fe (h1 rfl _ ?_)
        have f5 : FM (fun a i => decide (a = 92 ∧ i = 14)) σ4 (ab_I σ4 92 14 (nI (p + 1))) := (FM.rf _ σ4).I (by simp)
        refine ⟨(f3.tr (f4.mono Sadv_SRm)).tr (f5.mono (fun a i y => decide_eq_false (by have y := of_decide_eq_false y; omega))), k1.fm f5 rfl (fun _ => rfl) (fun _ => rfl) rfl rfl rfl rfl, k2.fm f5 rfl, k3.fm f5 rfl (fun _ => rfl) (fun _ => rfl) (fun _ => rfl) (fun _ => rfl), k6.keep (lm := y.2.2.2.1) f5 (by have := k7.1; show y.2.2.1.2.1 + 1 ≤ 4; omega) (fun _ _ => rfl) rfl (fun _ _ => rfl) rfl (fun _ _ => rfl) (fun _ _ => rfl) (fun _ _ => rfl) (fun _ _ => rfl) (fun x hx => (k7.2.2 x hx).2.2.1), k7, hw, by rw [f5.1 92 21 rfl]; exact k8, k9, by simp [gI_I]⟩
      · rw [if_neg hw]
        refine no (fun z => z rfl) ?_
        rw [i1.2.2.1]
        have e6 : pP6 t n G y = rF y.2.1 y.2.2.1 y.2.2.2.1 y.2.2.2.2 := by unfold pP6; rw [if_neg (fun z => hw z.2.1)]
        rw [e6] at h0
        have hle := i1.2.1
        have hnn := i1.1.1
        have B : MBad (ab_I σ3 92 44 (nI y.2.1)) y.2.1 := ⟨by simp [gI_I], by omega⟩
        exact m_failY i2 (pb257 B (fun σ4 f4 b4 => h0 rfl σ4 (((f3.mono SRm_SMr).I rfl).tr f4) b4))
    · generalize pRs t n G 33 (nx t n q) P lm lc = y at h1 h0 hy b3
      have e6 : pP6 t n G y = rF y.2.1 y.2.2.1 y.2.2.2.1 y.2.2.2.2 := by unfold pP6; rw [if_neg (fun z => hy ⟨z.1, z.2.2⟩)]
      rw [e6] at h0
      exact pb234 b3 (fun σ4 f4 b4 => h0 rfl σ4 (f3.tr f4) b4)
  · rw [pP5, if_neg kd] at h0
    have B : MBad (ab_I σ 92 44 (nI q)) q := ⟨by simp [gI_I], by omega⟩
    refine m_l186 j5 (fun σ2 f2 _ => ?_)
    have B2 : MBad σ2 q := ⟨by rw [f2.1 92 44 rfl]; exact B.1, B.2⟩
    exact pb210 B2 (fun σ4 f4 b4 => h0 rfl σ4 (((FS0.I (a := 92) (i := 44) (x := nI q) rfl).tr (f2.mono (fun a i y => decide_eq_false (by have y := SMr_f y; omega)))).tr f4) b4)
theorem m_right {Q : ab_S → Prop} (σ0 : ab_S) : ∀ f q P σ, P.2.1 + f = 3 → MJ σ t n p G P lm q → FM (SRm p lm) σ0 σ → ((pP4 t n G lm lc (pOcs t n G f q P)).1 = true → ∀ σ', MPk σ0 σ' t n p lm G (pP4 t n G lm lc (pOcs t n G f q P)) → Q σ') → ((pP4 t n G lm lc (pOcs t n G f q P)).1 = false → ∀ σ', FM SMr σ0 σ' → MBad σ' (pP4 t n G lm lc (pOcs t n G f q P)).2.1 → Q σ') → wX12_production_l110 Q E (wX12_production_j135 Q E) (wX12_production_j178 Q E) (f + 2) (nI p) σ := by
  intro f
  induction f with
  | zero =>
    intro q P σ hf hJ hF h1 h0
    have hJ0 := hJ
    obtain ⟨j1, j2, j3, j4, j5, j6, j7, j8, j9, j10, j11, j12, j13, j14⟩ := hJ
    have hn := j1.1.1
    have hq := j1.2.1
    have e4 : pP4 t n G lm lc (pOcs t n G 0 q P) = pP5 t n G q P lm lc := by rw [pOcs, pP4, if_pos rfl]
    rw [e4] at h1 h0
    show wX12_production_l110_b _ _ _ _ _ _ _
    unfold wX12_production_l110_b
    refine m_goodY j2 (no (by decide) ?_)
    have km := kind1 _ (tkK_lt (t := t) (n := n) (q := q)) (tkK_vk t n q)
    have hml := mk_lt _ (tkK_lt (t := t) (n := n) (q := q))
    rw [j1.2.2.2.2.1]
    by_cases k1 : mk (tkK t n q) = 1
    · refine no (fun z => z (by rw [k1]; rfl)) ?_
      rw [nI_clampE (by omega), j7]
      refine ⟨by simp (disch := omega) only [nI_lit, nI_add, nI_mulE, nI_clampE, nI_eqE, nI_leE, nI_ltE, vp_nIE, true_and, and_true]; omega, no (fun z => z (by rw [show P.2.1 = 3 by omega]; rfl)) ?_⟩
      unfold wX12_production_j135
      rw [j1.2.2.1]
      have e5 : pP5 t n G q P lm lc = rF q P lm lc := by rw [pP5, if_neg (by have := km.mp k1; omega)]
      rw [e5] at h0
      exact m_failY j2 (h0 rfl _ ((hF.mono SRm_SMr).I rfl) ⟨by simp [gI_I, rF], by show q ≤ 2400; omega⟩)
    · refine yes (by show ¬ nI _ = nI 1; rw [nI_eqE (by omega) (by omega)]; exact k1) ?_
      exact m_p5 σ0 hJ0 hF h1 h0
  | succ f ih =>
    intro q P σ hf hJ hF h1 h0
    have hJ0 := hJ
    obtain ⟨j1, j2, j3, j4, j5, j6, j7, j8, j9, j10, j11, j12, j13, j14⟩ := hJ
    have hn := j1.1.1
    have hq := j1.2.1
    show wX12_production_l110_b Q E (wX12_production_j135 Q E) (wX12_production_j178 Q E) (wX12_production_l110 Q E (wX12_production_j135 Q E) (wX12_production_j178 Q E) (f + 2)) (nI p) σ
    unfold wX12_production_l110_b
    refine m_goodY j2 (no (by decide) ?_)
    have km := kind1 _ (tkK_lt (t := t) (n := n) (q := q)) (tkK_vk t n q)
    have hml := mk_lt _ (tkK_lt (t := t) (n := n) (q := q))
    have ev : vp_in (nI p) 31 := by simp (disch := omega) only [nI_lit, nI_add, nI_mulE, nI_clampE, nI_eqE, nI_leE, nI_ltE, vp_nIE, true_and, and_true]; omega
    have ec : (nI p).toNatClampNeg = p := nI_clampE (by omega)
    rw [j1.2.2.2.2.1]
    by_cases k1 : mk (tkK t n q) = 1
    · refine no (fun z => z (by rw [k1]; rfl)) ?_
      rw [ec, j7]
      refine ⟨ev, yes (by show ¬ nI _ = nI 3; rw [nI_eqE (by omega) (by omega)]; omega) ?_⟩
      refine m_symH j1 j2 j3 j4 (fun k2 hlt σ1 f1 s1 => ?_) (fun hno => ?_)
      · have hgt := nx_gt (t := t) (n := n) (q := q) (by omega)
        have e4 : pOcs t n G (f + 1) q P = pOcs t n G f (nx t n q) (pao P (fi G.2.1 G.1 (nml t n q))) := by rw [pOcs, if_pos k2, if_pos hlt]
        rw [e4] at h1 h0
        refine ⟨ev, ev, ?_⟩
        rw [f1.1 103 p rfl, j7, nI_1]
        refine fe ⟨ev, ?_⟩
        rw [show (ab_I σ1 103 p (nI (P.2.1 + 1))).2.1 103 p = nI (P.2.1 + 1) by simp [gI_I], show (4 : Int32) * nI p + nI (P.2.1 + 1) = nI (4 * p + (P.2.1 + 1)) by show nI 4 * nI p + _ = _; rw [nI_mulE, nI_add], nI_clampE (by omega)]
        refine ⟨by simp (disch := omega) only [nI_lit, nI_add, nI_mulE, nI_clampE, nI_eqE, nI_leE, nI_ltE, vp_nIE, true_and, and_true]; omega, fe ?_⟩
        have f2 : FM (fun a i => decide ((a = 103 ∧ i = p) ∨ (a = 104 ∧ i = 4 * p + (P.2.1 + 1)))) σ1 (ab_I (ab_I σ1 103 p (nI (P.2.1 + 1))) 104 (4 * p + (P.2.1 + 1)) (nI (fi G.2.1 G.1 (nml t n q)))) := ((FM.rf _ σ1).I (by simp)).I (by simp)
        refine ih (nx t n q) (pao P (fi G.2.1 G.1 (nml t n q))) _ (by show P.2.1 + 1 + f = 3; omega) ?_ ((hF.tr (f1.mono Sadv_SRm)).tr (f2.mono (fun a i y => decide_eq_false (by have y := of_decide_eq_false y; omega)))) h1 h0
        refine ⟨s1.fm f2 rfl (fun _ => rfl) (fun _ => rfl) rfl rfl rfl rfl, (j2.fm f1 rfl).fm f2 rfl, (j3.adv f1).fm f2 rfl (fun _ => rfl) (fun _ => rfl) (fun _ => rfl) (fun _ => rfl), j4, j5, fun j hj => ?_, ?_, fun o ho => ?_, ?_, by show P.2.1 + 1 ≤ 3; omega, j11, ?_, by omega, ?_⟩
        · rw [f2.1 _ _ rfl, f1.1 _ _ rfl]; exact j6 j hj
        · simp [gI_I]; rfl
        · have ho : o ≤ P.2.1 + 1 := ho
          show _ = nI (uf P.2.2.1 (P.2.1 + 1) (fi G.2.1 G.1 (nml t n q)) o) ∧ uf P.2.2.1 (P.2.1 + 1) (fi G.2.1 G.1 (nml t n q)) o < G.1
          by_cases e : o = P.2.1 + 1
          · rw [e, uf_s, gI_I, if_pos rfl, if_pos rfl]; exact ⟨rfl, hlt⟩
          · rw [uf_o _ _ e, f2.1 _ _ (decide_eq_false (by omega)), f1.1 _ _ rfl]; exact j8 o (by omega)
        · rw [f2.1 _ _ rfl, f1.1 _ _ rfl]; exact j9
        · rw [f2.1 _ _ rfl, f1.1 _ _ rfl]; exact j12
        · rw [f2.1 _ _ rfl, f1.1 _ _ rfl]; exact j14
      · refine ⟨ev, ev, ?_⟩
        rw [show (ab_I σ 92 44 (nI q)).2.1 103 p = nI P.2.1 by simp [gI_I, j7], nI_1]
        refine fe ⟨ev, ?_⟩
        rw [show (ab_I (ab_I σ 92 44 (nI q)) 103 p (nI (P.2.1 + 1))).2.1 103 p = nI (P.2.1 + 1) by simp [gI_I], show (4 : Int32) * nI p + nI (P.2.1 + 1) = nI (4 * p + (P.2.1 + 1)) by show nI 4 * nI p + _ = _; rw [nI_mulE, nI_add], nI_clampE (by omega)]
        refine ⟨by simp (disch := omega) only [nI_lit, nI_add, nI_mulE, nI_clampE, nI_eqE, nI_leE, nI_ltE, vp_nIE, true_and, and_true]; omega, fe ?_⟩
        have e4 : (pP4 t n G lm lc (pOcs t n G (f + 1) q P)).1 = false ∧ (pP4 t n G lm lc (pOcs t n G (f + 1) q P)).2.1 = q := by
          rw [pOcs]
          by_cases k2 : tkK t n q = 2
          · rw [if_pos k2, if_neg (fun z => hno ⟨k2, z⟩), pP4, if_neg (show ¬ (false = true) by decide)]; exact ⟨rfl, rfl⟩
          · rw [if_neg k2, pP4, if_pos rfl, pP5, if_neg (by have := km.mp k1; show ¬ tkK t n q = 123; omega)]; exact ⟨rfl, rfl⟩
        have B : MBad (ab_I (ab_I (ab_I σ 92 44 (nI q)) 103 p (nI (P.2.1 + 1))) 104 (4 * p + (P.2.1 + 1)) 0) q := MBad.I (MBad.I ⟨by simp [gI_I], by omega⟩ (by omega)) (by omega)
        refine pb110 j5 B (fun σ4 f4 b4 => h0 e4.1 σ4 (((((hF.mono SRm_SMr).I rfl).I rfl).I rfl).tr f4) (by rw [e4.2]; exact b4))
    · have hk2 : tkK t n q ≠ 2 := fun z => k1 (km.mpr (Or.inl z))
      have e4 : pP4 t n G lm lc (pOcs t n G (f + 1) q P) = pP5 t n G q P lm lc := by rw [pOcs, if_neg hk2, pP4, if_pos rfl]
      rw [e4] at h1 h0
      refine yes (by show ¬ nI _ = nI 1; rw [nI_eqE (by omega) (by omega)]; exact k1) ?_
      exact m_p5 σ0 hJ0 hF h1 h0
end ML
