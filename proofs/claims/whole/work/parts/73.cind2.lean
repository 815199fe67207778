/-! ===== order, the class's: the start, circles ===== -/
/-- what rules name is the same in both codes -/
def nmA (k : Nat) (l : List (Nat × Nat)) (y : Nat) : Bool := l.any (fun z => decide (z.1 = k ∧ z.2 = y))
theorem nmA_app (k : Nat) (a b : List (Nat × Nat)) (y : Nat) : nmA k (a ++ b) y = (nmA k a y || nmA k b y) := by unfold nmA; rw [List.any_append]
theorem nmA_1 {k a v : Nat} (h : a ≠ k) (y : Nat) : nmA k [(a, v)] y = false := by
  unfold nmA
  rw [List.any_cons, List.any_nil, Bool.or_false]
  exact decide_eq_false (fun z => h z.1)
theorem bo_lt : ∀ o, o ∈ mops → 7 ≤ bo o ∧ bo o ≤ 12 ∧ o < 18 := by decide
theorem CR_nm {ok : Nat → Prop} {lt : Bool} {h : Nat} {m c : List (Nat × Nat)} (hC : CR ok lt h m c) : (∀ y, nmA 50 m y = nmA 2 c y) ∧ ∀ y, nmA 2 c y = true → ok y := by
  refine hC (fun _ m c => (∀ y, nmA 50 m y = nmA 2 c y) ∧ ∀ y, nmA 2 c y = true → ok y) ⟨?_, ?_, ?_, ?_, ?_, ?_, ?_⟩
  · intro v hv
    exact ⟨fun y => by rw [nmA_1 (by decide), nmA_1 (by decide)], fun y hy => by rw [nmA_1 (by decide)] at hy; exact absurd hy Bool.false_ne_true⟩
  · intro _
    exact ⟨fun y => by rw [nmA_1 (by decide), nmA_1 (by decide)], fun y hy => by rw [nmA_1 (by decide)] at hy; exact absurd hy Bool.false_ne_true⟩
  · intro s hs
    have e : ∀ k y, nmA k [(k, s)] y = decide (s = y) := by
      intro k y
      unfold nmA
      rw [List.any_cons, List.any_nil, Bool.or_false]
      simp
    refine ⟨fun y => by rw [e, e], fun y hy => ?_⟩
    rw [e] at hy
    have := of_decide_eq_true hy
    rw [← this]; exact hs
  · intro h m c ih
    refine ⟨fun y => by rw [nmA_app, nmA_app, nmA_1 (by decide), nmA_1 (by decide), ih.1], fun y hy => ?_⟩
    rw [nmA_app, nmA_1 (by decide), Bool.or_false] at hy
    exact ih.2 y hy
  · intro o ho h m c m2 c2 i1 i2
    have hb := bo_lt o ho
    have e50 : ∀ y, nmA 50 [(o, 0)] y = false := fun y => nmA_1 (by show o ≠ 50; omega) y
    have e2 : ∀ y, nmA 2 [(bo o, 0)] y = false := fun y => nmA_1 (by show bo o ≠ 2; omega) y
    refine ⟨fun y => by rw [nmA_app, nmA_app, nmA_app, nmA_app, e50, e2, i1.1, i2.1], fun y hy => ?_⟩
    rw [nmA_app, nmA_app, e2, Bool.or_false, Bool.or_eq_true] at hy
    exact hy.elim (i1.2 y) (i2.2 y)
  · intro h m1 c1 m2 c2 m3 c3 i1 i2 i3
    refine ⟨fun y => by rw [nmA_app, nmA_app, nmA_app, nmA_app, nmA_app, nmA_app, nmA_app, nmA_1 (by decide), nmA_1 (by decide), nmA_1 (by decide), i1.1, i2.1, i3.1]; simp, fun y hy => ?_⟩
    rw [nmA_app, nmA_app, nmA_app, nmA_app, nmA_1 (by decide), nmA_1 (by decide), Bool.or_false, Bool.or_false, Bool.or_eq_true, Bool.or_eq_true] at hy
    rcases hy with (hy | hy) | hy
    · exact i1.2 y hy
    · exact i2.2 y hy
    · exact i3.2 y hy
  · intro h m c ih; exact ih
theorem nmF_b : ∀ (c : List (Nat × Nat)) (v : Int32) (f : Nat → Bool), B32 v f → (∀ y, nmA 2 c y = true → y < 32) → B32 (nmF v c) (fun y => f y || nmA 2 c y)
  | [], v, f, h, _ => h.cg (fun i _ => by simp [nmA])
  | x :: c, v, f, h, hs => by
    have hs2 : ∀ y, nmA 2 c y = true → y < 32 := fun y hy => hs y (by unfold nmA at hy ⊢; rw [List.any_cons, hy, Bool.or_true])
    rw [nmF]
    by_cases e : x.1 = 2
    · have h32 : x.2 < 32 := hs x.2 (by unfold nmA; rw [List.any_cons, decide_eq_true ⟨e, rfl⟩]; rfl)
      rw [if_pos e]
      refine (nmF_b c _ _ (h.or (B32.one h32)) hs2).cg (fun i _ => ?_)
      unfold nmA
      rw [List.any_cons, Bool.or_assoc]
      congr 2
      by_cases z : i = x.2
      · rw [decide_eq_true z, decide_eq_true ⟨e, z.symm⟩]
      · rw [decide_eq_false z, decide_eq_false (fun w => z w.2.symm)]
    · rw [if_neg e]
      refine (nmF_b c _ _ h hs2).cg (fun i _ => ?_)
      unfold nmA
      rw [List.any_cons, decide_eq_false (fun w => e w.1), Bool.false_or]
def ord0 (Γ : GRT) : OST := (nmd Γ, fun _ _ _ => false)
theorem nmd_A {Γ : GRT} {p x y : Nat} : nmd Γ p x y = ((Γ.2.2.1 p).2.2.2.2.1 x && nmA 2 ((Γ.2.2.1 p).2.2.2.2.2 x).2.2.2 y) := rfl
theorem ord0_V {Γ : GRT} (hV : GRV Γ) : oV Γ (ord0 Γ) := by
  refine ⟨fun p hp x y h => ?_, fun s a b h => absurd h Bool.false_ne_true⟩
  have h : nmd Γ p x y = true := h
  rw [nmd_A, Bool.and_eq_true] at h
  obtain ⟨a, b, c, d, e⟩ := (hV.2.2.2 p hp).2.1.2.2 x h.1
  have hs := (CR_nm e).2 y h.2
  refine ⟨?_, hs.1, hs.2.1⟩
  unfold dfn at b
  simp only [Bool.and_eq_true, decide_eq_true_eq] at b
  exact ⟨b.1, b.2.1⟩
theorem nmd_32 {Γ : GRT} (hV : GRV Γ) {p : Nat} (hp : p < Γ.2.1) {x : Nat} (hx : (Γ.2.2.1 p).2.2.2.2.1 x = true) : ∀ y, nmA 2 ((Γ.2.2.1 p).2.2.2.2.2 x).2.2.2 y = true → y < 32 := by
  intro y hy
  obtain ⟨a, b, c, d, e⟩ := (hV.2.2.2 p hp).2.1.2.2 x hx
  have hs := (CR_nm e).2 y hy
  have h3 := (hV.2.2.2 p hp).2.1.1
  have : y / 8 ≤ (Γ.2.2.1 p).2.1 := hs.1
  omega
section CL
variable {σ : ab_S} {g : Nat} {Γ : GRT} {E : String → ab_S → Prop}
theorem c_fl2 {A An : Nat} (hA : An < 100000) {v : Int32} {Q : ab_S → Prop} (h : ∀ σ', FM (Sfi A 0 An) σ σ' → (∀ j, j < An → σ'.2.1 A j = v) → Q σ') : wJ7_fill_53178 A An v Q E σ := by
  unfold wJ7_fill_53178
  refine fe ⟨An + 1, ?_⟩
  suffices H : ∀ f i τ, An - i = f → i ≤ An → FM (Sfi A 0 An) σ τ → (∀ j, j < i → τ.2.1 A j = v) → wJ7_fill_53178_l5 A An v Q E (f + 1) (nI i) (nI An) τ from H An 0 σ rfl (Nat.zero_le _) (FM.rf _ _) (fun j hj => absurd hj (by omega))
  intro f
  induction f with
  | zero =>
    intro i τ hf hi hF hv
    exact yes (by simp (disch := omega) only [nI_lit, nI_add, nI_mulE, nI_clampE, nI_eqE, nI_leE, nI_ltE, vp_nIE, true_and, and_true]; omega) (h τ hF (fun j hj => hv j (by omega)))
  | succ f ih =>
    intro i τ hf hi hF hv
    show wJ7_fill_53178_l5_b A An v Q E (wJ7_fill_53178_l5 A An v Q E (f + 1)) (nI i) (nI An) τ
    unfold wJ7_fill_53178_l5_b
    rw [nI_clampE (by omega), nI_1]
    refine no (by simp (disch := omega) only [nI_lit, nI_add, nI_mulE, nI_clampE, nI_eqE, nI_leE, nI_ltE, vp_nIE, true_and, and_true]; omega) ⟨by simp (disch := omega) only [nI_lit, nI_add, nI_mulE, nI_clampE, nI_eqE, nI_leE, nI_ltE, vp_nIE, true_and, and_true]; omega, fe (fe ?_)⟩
    refine ih (i + 1) _ (by omega) (by omega) (hF.I (decide_eq_true (by omega))) (fun j hj => ?_)
    rw [gI_I, if_pos rfl]
    by_cases e : j = i
    · rw [if_pos e]
    · rw [if_neg e]; exact hv j (by omega)
/-- the rules' names copied into the rows -/
theorem c_cpy (hV : GRV Γ) (hg : isG g) (hC : CGr σ g Γ) : ab_cpy 0 0 (nI Γ.2.1 * 32) 960 960 ∧ ∀ σ', σ' = ab_cpI σ (g + 10) 10 (0 : Int32).toNatClampNeg (0 : Int32).toNatClampNeg (nI Γ.2.1 * 32).toNatClampNeg → FM (fun a _ => decide (a = 10)) σ σ' ∧ ∀ p, p < Γ.2.1 → RwC σ' p (nmd Γ p) := by
  have h30 := hV.2.1
  have hgb := isG_b hg
  have e : nI Γ.2.1 * 32 = nI (Γ.2.1 * 32) := by show nI Γ.2.1 * nI 32 = _; rw [nI_mulE]
  have e0 : (0 : Int32).toNatClampNeg = 0 := by decide
  rw [e]
  constructor
  · unfold ab_cpy
    rw [nI_clampE (by omega), e0]
    refine ⟨⟨by decide, by decide, nI_pos (by omega)⟩, by omega, by omega⟩
  · intro σ' hσ
    rw [nI_clampE (by omega), e0] at hσ
    subst hσ
    refine ⟨⟨fun a i z => ?_, fun a i _ => rfl, fun a i _ => rfl⟩, fun p hp x hx => ?_⟩
    · have z := of_decide_eq_false z
      show (if a = 10 then _ else σ.2.1 a i) = _
      rw [if_neg z]
    · show B32 (if 10 = 10 then va_cpy (σ.2.1 (g + 10)) (σ.2.1 10) 0 0 (Γ.2.1 * 32) (p * 32 + x) else _) (nmd Γ p x)
      rw [if_pos rfl]
      unfold va_cpy
      rw [if_pos (by omega), show 0 + (p * 32 + x - 0) = p * 32 + x by omega]
      have hc := (hC.2.2.2 p hp).2.2.2.2.2 x hx
      cases hd : (Γ.2.2.1 p).2.2.2.2.1 x
      · rw [hc.2 hd]
        refine B32.z.cg (fun i _ => ?_)
        rw [nmd_A, hd]; rfl
      · rw [(hc.1 hd).2.2.1]
        refine (nmF_b _ 0 _ B32.z (nmd_32 hV hp hd)).cg (fun i _ => ?_)
        rw [nmd_A, hd, Bool.true_and, Bool.false_or]
theorem c_induce (hV : GRV Γ) (hg : isG g) (hC : CGr σ g Γ) {Q : ab_S → Prop} (h : ∀ τ, FM (So g) σ τ → CO τ g Γ (oIt Γ 769 (ord0 Γ)) → Q τ) : wX3_induce g Q E σ := by
  have h30 := hV.2.1
  have hgb := isG_b hg
  unfold wX3_induce
  rw [hC.2.1]
  obtain ⟨c1, c2⟩ := c_cpy hV hg hC
  refine ⟨c1, fun σ1 h1 => ?_⟩
  obtain ⟨F1, R1⟩ := c2 σ1 h1
  clear c2 h1
  refine c_fl2 (by omega) (fun σ2 F2 v2 => ⟨771, ?_⟩)
  have F12 : FM (So g) σ σ2 := (F1.mono (fun a i y => by have y := of_decide_eq_false y; exact decide_eq_false (by omega))).tr (F2.mono (fun a i y => by have y := of_decide_eq_false y; exact decide_eq_false (by omega)))
  refine c_its hV hg hC 769 (ord0 Γ) σ2 (Nat.le_refl _) (ord0_V hV) F12 ⟨fun p hp x hx => ?_, fun s hs a ha => ?_⟩ h
  · rw [F2.1 _ _ (decide_eq_false (by omega))]; exact R1 p hp x hx
  · rw [v2 _ (by omega)]; exact B32.z
/-- whether something depends on itself; the first production where -/
def crc (r : MX2) : Bool := (List.range 32).any (fun x => r x x)
def fcF (R : MX3) : Nat → Nat → Nat
  | 0, i => i
  | f + 1, i => if crc (R i) then i else fcF R f (i + 1)
def fcr (R : MX3) (N : Nat) : Nat := fcF R N 0
theorem crc_i {r : MX2} : crc r = true ↔ ∃ x, x < 32 ∧ r x x = true := by
  unfold crc
  rw [List.any_eq_true]
  exact ⟨fun ⟨x, a, b⟩ => ⟨x, List.mem_range.mp a, b⟩, fun ⟨x, a, b⟩ => ⟨x, List.mem_range.mpr a, b⟩⟩
theorem c_hc {p : Nat} (hp : p < 30) {r : MX2} (hR : RwC σ p r) {Q : Int32 → ab_S → Prop} (h : Q (if crc r then 1 else 0) σ) : wX3_hasCircle (nI p) Q E σ := by
  refine ⟨33, ?_⟩
  suffices H : ∀ f x, 32 - x = f → x ≤ 32 → (∀ y, y < x → r y y = false) → wX3_hasCircle_l2 (nI p) Q E (f + 1) (nI x) σ from H 32 0 rfl (by omega) (fun y hy => absurd hy (by omega))
  intro f
  induction f with
  | zero =>
    intro x hf hx hn
    refine yes (by simp (disch := omega) only [nI_lit, nI_add, nI_mulE, nI_clampE, nI_eqE, nI_leE, nI_ltE, vp_nIE, true_and, and_true]; omega) ?_
    have e : crc r = false := by
      cases hc : crc r
      · rfl
      · obtain ⟨y, h1, h2⟩ := crc_i.mp hc
        rw [hn y (by omega)] at h2; exact absurd h2 Bool.false_ne_true
    rw [e] at h; exact h
  | succ f ih =>
    intro x hf hx hn
    have e32 : nI p * 32 + nI x = nI (p * 32 + x) := by show nI p * nI 32 + _ = _; rw [nI_mulE, nI_add]
    show wX3_hasCircle_l2_b (nI p) Q E (wX3_hasCircle_l2 (nI p) Q E (f + 1)) (nI x) σ
    unfold wX3_hasCircle_l2_b
    rw [e32, nI_clampE (by omega), nI_1]
    refine no (by simp (disch := omega) only [nI_lit, nI_add, nI_mulE, nI_clampE, nI_eqE, nI_leE, nI_ltE, vp_nIE, true_and, and_true]; omega) ⟨by simp (disch := omega) only [nI_lit, nI_add, nI_mulE, nI_clampE, nI_eqE, nI_leE, nI_ltE, vp_nIE, true_and, and_true]; omega, ?_⟩
    have hb := (hR x (by omega)).bit (x := x) (by omega)
    cases hr : r x x
    · refine yes (hb.mpr hr) (fe (ih (x + 1) (by omega) (by omega) (fun y hy => ?_)))
      by_cases e : y = x
      · rw [e]; exact hr
      · exact hn y (by omega)
    · refine no (fun z => by rw [hb.mp z] at hr; exact absurd hr (by decide)) ?_
      rw [crc_i.mpr ⟨x, by omega, hr⟩] at h
      exact h
theorem fcF_le (R : MX3) : ∀ f i, i ≤ fcF R f i ∧ fcF R f i ≤ i + f
  | 0, i => ⟨Nat.le_refl _, Nat.le_refl _⟩
  | f + 1, i => by
    rw [fcF]
    split
    · omega
    · have := fcF_le R f (i + 1); omega
theorem c_fc (h5 : σ.2.1 g 5 = nI Γ.2.1) (h30 : Γ.2.1 ≤ 30) {R : MX3} (hR : ∀ p, p < Γ.2.1 → RwC σ p (R p)) {Q : Int32 → ab_S → Prop} (h : Q (if fcr R Γ.2.1 < Γ.2.1 then nI (fcr R Γ.2.1) else -1) σ) : wX3_firstCircular g Q E σ := by
  refine ⟨Γ.2.1 + 1, ?_⟩
  suffices H : ∀ f p, Γ.2.1 - p = f → p ≤ Γ.2.1 → fcF R f p = fcr R Γ.2.1 → wX3_firstCircular_l2 g Q E (f + 1) (nI p) σ from H Γ.2.1 0 rfl (Nat.zero_le _) rfl
  intro f
  induction f with
  | zero =>
    intro p hf hp he
    show wX3_firstCircular_l2_b _ _ _ _ _ _
    unfold wX3_firstCircular_l2_b
    rw [h5]
    refine yes (by simp (disch := omega) only [nI_lit, nI_add, nI_mulE, nI_clampE, nI_eqE, nI_leE, nI_ltE, vp_nIE, true_and, and_true]; omega) ?_
    have : p = fcr R Γ.2.1 := he
    rw [if_neg (by omega)] at h
    exact h
  | succ f ih =>
    intro p hf hp he
    show wX3_firstCircular_l2_b g Q E (wX3_firstCircular_l2 g Q E (f + 1)) (nI p) σ
    unfold wX3_firstCircular_l2_b
    rw [h5, nI_1]
    refine no (by simp (disch := omega) only [nI_lit, nI_add, nI_mulE, nI_clampE, nI_eqE, nI_leE, nI_ltE, vp_nIE, true_and, and_true]; omega) ?_
    refine c_hc (by omega) (hR p (by omega)) ?_
    rw [fcF] at he
    cases hc : crc (R p)
    · rw [if_neg (by rw [hc]; decide)] at he
      exact yes rfl (fe (ih (p + 1) (by omega) (by omega) he))
    · rw [if_pos hc] at he
      rw [← he, if_pos (by omega)] at h
      exact no (by decide) h
end CL
