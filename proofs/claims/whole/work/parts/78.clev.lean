/-! ===== levels, the class's ===== -/
theorem i_mod2 : ∀ k, k < 12 → nI k - nI k / 2 * 2 = nI (k % 2) := by decide +kernel
theorem i_div2 : ∀ k, k < 12 → nI k / 2 = nI (k / 2) := by decide +kernel
/-- how far the choosing has come -/
def chI (J : MX2) (dn : Nat → Bool) (n k : Nat) (L : Nat → Nat) (m : Nat) (X : Nat → Bool) : Prop := (∀ a, lck J dn n k L a = true → X a = true) ∧ ∀ a, X a = true → lfr dn n k L a = true ∧ ∀ b, b < m → J b a = true → 0 < L b ∨ lfr dn n k L b = true
theorem B32.andn {v w : Int32} {f g : Nat → Bool} (h : B32 v f) (k : B32 w g) : B32 (v &&& (w ^^^ (-1))) (fun i => f i && !(g i)) := fun i hi => by rw [b_and, b_xor, b_m1 i hi, h i hi, k i hi, Bool.xor_true]
theorem B32.and {v w : Int32} {f g : Nat → Bool} (h : B32 v f) (k : B32 w g) : B32 (v &&& w) (fun i => f i && g i) := fun i hi => by rw [b_and, h i hi, k i hi]
theorem B32.not {v : Int32} {f : Nat → Bool} (h : B32 v f) : B32 (v ^^^ (-1)) (fun i => !(f i)) := fun i hi => by rw [b_xor, b_m1 i hi, h i hi, Bool.xor_true]
section CL
variable {σ : ab_S} {g s n k : Nat} {J : MX2} {dn : Nat → Bool} {L : Nat → Nat} {E : String → ab_S → Prop}
theorem c_chL (hg : isG g) (hs : s < 12) (h8 : n ≤ 8) (hcn : σ.2.1 (g + 2) s = nI n) (hI : ∀ b, b < n → B32 (σ.2.1 (g + 15) (s * 8 + b)) (J b)) (hJ : lOd J n) {d fr : Int32} (hD : B32 d (fun b => decide (0 < L b))) {Q : Int32 → ab_S → Prop} {K64 : Int32 → Int32 → ab_S → Prop} {x5 : Int32} (h : ∀ x X, B32 x X → chI J dn n k L n X → K64 x x5 σ) : ∀ f b m x X, n - b = f → b ≤ n → b ≤ m → B32 x X → chI J dn n k L m X → wX3_choose_l16 g (nI s) d fr Q E K64 (f + 1) x x5 (nI b) σ := by
  intro f
  induction f with
  | zero =>
    intro b m x X hf hb hm hX hc
    show wX3_choose_l16_b _ _ _ _ _ _ _ _ _ _ _ _
    unfold wX3_choose_l16_b
    rw [nI_clampE (by omega), hcn]
    exact ⟨by simp (disch := omega) only [nI_lit, nI_add, nI_mulE, nI_clampE, nI_eqE, nI_leE, nI_ltE, vp_nIE, true_and, and_true]; omega, yes (by simp (disch := omega) only [nI_lit, nI_add, nI_mulE, nI_clampE, nI_eqE, nI_leE, nI_ltE, vp_nIE, true_and, and_true]; omega) (h x X hX ⟨hc.1, fun a ha => ⟨(hc.2 a ha).1, fun b' hb' => (hc.2 a ha).2 b' (by omega)⟩⟩)⟩
  | succ f ih =>
    intro b m x X hf hb hm hX hc
    have e8 : nI s * 8 + nI b = nI (s * 8 + b) := by show nI s * nI 8 + _ = _; rw [nI_mulE, nI_add]
    show wX3_choose_l16_b g (nI s) d fr Q E K64 (wX3_choose_l16 g (nI s) d fr Q E K64 (f + 1)) x x5 (nI b) σ
    unfold wX3_choose_l16_b
    rw [e8, nI_clampE (show s < 2147483648 by omega), nI_clampE (show s * 8 + b < 2147483648 by omega), hcn]
    refine ⟨by simp (disch := omega) only [nI_lit, nI_add, nI_mulE, nI_clampE, nI_eqE, nI_leE, nI_ltE, vp_nIE, true_and, and_true]; omega, no (by simp (disch := omega) only [nI_lit, nI_add, nI_mulE, nI_clampE, nI_eqE, nI_leE, nI_ltE, vp_nIE, true_and, and_true]; omega) ?_⟩
    have hbit := (hD.or hX).bit (x := b) (by omega)
    cases hz : (decide (0 < L b) || X b)
    · refine no (fun z => z (hbit.mpr hz)) ⟨by simp (disch := omega) only [nI_lit, nI_add, nI_mulE, nI_clampE, nI_eqE, nI_leE, nI_ltE, vp_nIE, true_and, and_true]; omega, fe ?_⟩
      rw [Bool.or_eq_false_iff] at hz
      unfold wX3_choose_j58
      rw [nI_1]
      refine fe (ih (b + 1) (max m (b + 1)) _ _ (by omega) (by omega) (by omega) (hX.andn (hI b (by omega))) ⟨fun a ha => ?_, fun a ha => ?_⟩)
      · rw [Bool.and_eq_true]
        refine ⟨hc.1 a ha, ?_⟩
        cases hj : J b a
        · rfl
        · exfalso
          rcases lck_cl hJ ha hj with z | z
          · exact absurd z (of_decide_eq_false hz.1)
          · rw [hc.1 b z] at hz; exact absurd hz.2 (by decide)
      · rw [Bool.and_eq_true, Bool.not_eq_true'] at ha
        refine ⟨(hc.2 a ha.1).1, fun b' hb' hj => ?_⟩
        by_cases e : b' = b
        · rw [e, ha.2] at hj; exact absurd hj Bool.false_ne_true
        · exact (hc.2 a ha.1).2 b' (by omega) hj
    · refine yes (fun z => by rw [hbit.mp z] at hz; exact absurd hz (by decide)) ?_
      unfold wX3_choose_j58
      rw [nI_1]
      refine fe (ih (b + 1) (max m (b + 1)) x X (by omega) (by omega) (by omega) hX ⟨hc.1, fun a ha => ⟨(hc.2 a ha).1, fun b' hb' hj => ?_⟩⟩)
      by_cases e : b' = b
      · rw [e]
        rw [Bool.or_eq_true, decide_eq_true_eq] at hz
        exact hz.elim Or.inl (fun z => Or.inr (hc.2 b z).1)
      · exact (hc.2 a ha).2 b' (by omega) hj
theorem c_ch (hg : isG g) (hs : s < 12) (h8 : n ≤ 8) (hcn : σ.2.1 (g + 2) s = nI n) (hI : ∀ b, b < n → B32 (σ.2.1 (g + 15) (s * 8 + b)) (J b)) (hJ : lOd J n) {d fr : Int32} (hD : B32 d (fun b => decide (0 < L b))) (hF : B32 fr (lfr dn n k L)) {Q : Int32 → ab_S → Prop} (h : ∀ x, B32 x (lck J dn n k L) → Q x σ) : wX3_choose g (nI s) d fr Q E σ := by
  refine ⟨9, ?_⟩
  suffices H : ∀ f i x X, 8 - i = f → i ≤ 8 → B32 x X → chI J dn n k L (if i = 0 then 0 else n) X → wX3_choose_l6 g (nI s) d fr Q E (f + 1) x (nI i) σ by
    refine H 8 0 fr _ rfl (by omega) hF ⟨fun a ha => (lck_i.mp ha).1, fun a ha => ⟨ha, fun b hb => absurd hb (by rw [if_pos rfl]; omega)⟩⟩
  intro f
  induction f with
  | zero =>
    intro i x X hf hi hX hc
    rw [if_neg (by omega)] at hc
    refine yes (by simp (disch := omega) only [nI_lit, nI_add, nI_mulE, nI_clampE, nI_eqE, nI_leE, nI_ltE, vp_nIE, true_and, and_true]; omega) (h x (hX.cg (fun a _ => ?_)))
    rw [Bool.eq_iff_iff]
    exact ⟨fun z => lck_i.mpr (hc.2 a z), fun z => hc.1 a z⟩
  | succ f ih =>
    intro i x X hf hi hX hc
    show wX3_choose_l6_b g (nI s) d fr Q E (wX3_choose_l6 g (nI s) d fr Q E (f + 1)) x (nI i) σ
    unfold wX3_choose_l6_b
    refine no (by simp (disch := omega) only [nI_lit, nI_add, nI_mulE, nI_clampE, nI_eqE, nI_leE, nI_ltE, vp_nIE, true_and, and_true]; omega) ⟨n + 1, ?_⟩
    refine c_chL hg hs h8 hcn hI hJ hD (fun x' X' hX' hc' => ?_) n 0 _ x X rfl (Nat.zero_le _) (Nat.zero_le _) hX hc
    unfold wX3_choose_j64
    rw [nI_1]
    exact fe (ih (i + 1) x' X' (by omega) (by omega) hX' (by rw [if_neg (by omega)]; exact hc'))
def Slv (g s : Nat) : Nat → Nat → Bool := fun a i => decide (a = g + 16 ∧ s * 8 ≤ i ∧ i < s * 8 + 8)
def CLv (σ : ab_S) (g s n : Nat) (L : Nat → Nat) : Prop := ∀ a, a < n → 0 < L a → σ.2.1 (g + 16) (s * 8 + a) = nI (L a)
/-- those chosen get their level -/
theorem c_giv (hg : isG g) (hs : s < 12) (h8 : n ≤ 8) (hcn : σ.2.1 (g + 2) s = nI n) (hL : CLv σ g s n L) (hk : k < 12) {x8 : Int32} (hX : B32 x8 (lck J dn n k L)) {Q : ab_S → Prop} {K127 : Int32 → Int32 → Int32 → Int32 → Int32 → ab_S → Prop} {x3 x4 : Int32} (h : ∀ τ, FM (Slv g s) σ τ → CLv τ g s n (lsk J dn n k L) → K127 (nI s) x3 x4 (nI k) x8 τ) : ∃ m, wX3_setLevels_l86 g Q E K127 m (nI s) x3 x4 (nI k) x8 0 σ := by
  have hgb := isG_b hg
  refine ⟨n + 1, ?_⟩
  suffices H : ∀ f a τ, n - a = f → a ≤ n → FM (Slv g s) σ τ → (∀ b, b < n → 0 < (if b < a then lsk J dn n k L b else L b) → τ.2.1 (g + 16) (s * 8 + b) = nI (if b < a then lsk J dn n k L b else L b)) → wX3_setLevels_l86 g Q E K127 (f + 1) (nI s) x3 x4 (nI k) x8 (nI a) τ from H n 0 σ rfl (Nat.zero_le _) (FM.rf _ _) (fun b hb hp => by rw [if_neg (by omega)] at hp ⊢; exact hL b hb hp)
  intro f
  induction f with
  | zero =>
    intro a τ hf ha hF hc
    show wX3_setLevels_l86_b _ _ _ _ _ _ _ _ _ _ _ _
    unfold wX3_setLevels_l86_b
    rw [nI_clampE (by omega), hF.1 _ _ (decide_eq_false (by omega)), hcn]
    refine ⟨by simp (disch := omega) only [nI_lit, nI_add, nI_mulE, nI_clampE, nI_eqE, nI_leE, nI_ltE, vp_nIE, true_and, and_true]; omega, yes (by simp (disch := omega) only [nI_lit, nI_add, nI_mulE, nI_clampE, nI_eqE, nI_leE, nI_ltE, vp_nIE, true_and, and_true]; omega) (h τ hF (fun b hb hp => ?_))⟩
    have := hc b hb
    rw [if_pos (by omega)] at this
    exact this hp
  | succ f ih =>
    intro a τ hf ha hF hc
    have e8 : nI s * 8 + nI a = nI (s * 8 + a) := by show nI s * nI 8 + _ = _; rw [nI_mulE, nI_add]
    show wX3_setLevels_l86_b g Q E K127 (wX3_setLevels_l86 g Q E K127 (f + 1)) (nI s) x3 x4 (nI k) x8 (nI a) τ
    unfold wX3_setLevels_l86_b
    rw [e8, nI_clampE (show s < 2147483648 by omega), nI_clampE (show s * 8 + a < 2147483648 by omega), hF.1 (g + 2) _ (decide_eq_false (by omega)), hcn]
    refine ⟨by simp (disch := omega) only [nI_lit, nI_add, nI_mulE, nI_clampE, nI_eqE, nI_leE, nI_ltE, vp_nIE, true_and, and_true]; omega, no (by simp (disch := omega) only [nI_lit, nI_add, nI_mulE, nI_clampE, nI_eqE, nI_leE, nI_ltE, vp_nIE, true_and, and_true]; omega) ?_⟩
    have hbit := hX.bit (x := a) (by omega)
    cases hz : lck J dn n k L a
    · refine yes (hbit.mpr hz) ?_
      unfold wX3_setLevels_j121
      rw [nI_1]
      refine fe (ih (a + 1) τ (by omega) (by omega) hF (fun b hb hp => ?_))
      by_cases e : b = a
      · subst e
        rw [if_pos (by omega)] at hp ⊢
        have e2 : lsk J dn n k L b = L b := by unfold lsk; rw [hz, if_neg (by decide)]
        rw [e2] at hp ⊢
        have := hc b hb
        rw [if_neg (by omega)] at this
        exact this hp
      · have := hc b hb
        by_cases z : b < a
        · rw [if_pos z] at this; rw [if_pos (by omega)] at hp ⊢; exact this hp
        · rw [if_neg z] at this; rw [if_neg (by omega)] at hp ⊢; exact this hp
    · refine no (fun z => by rw [hbit.mp z] at hz; exact absurd hz (by decide)) ⟨by simp (disch := omega) only [nI_lit, nI_add, nI_mulE, nI_clampE, nI_eqE, nI_leE, nI_ltE, vp_nIE, true_and, and_true]; omega, fe ?_⟩
      unfold wX3_setLevels_j121
      rw [nI_1]
      refine fe (ih (a + 1) _ (by omega) (by omega) (hF.I (decide_eq_true (by omega))) (fun b hb hp => ?_))
      rw [gI_I, if_pos rfl]
      by_cases e : b = a
      · subst e
        rw [if_pos rfl, if_pos (by omega)]
        unfold lsk; rw [if_pos hz]
      · rw [if_neg (by omega)]
        have := hc b hb
        by_cases z : b < a
        · rw [if_pos z] at this; rw [if_pos (by omega)] at hp ⊢; exact this hp
        · rw [if_neg z] at this; rw [if_neg (by omega)] at hp ⊢; exact this hp
theorem c_lvs (hg : isG g) (hs : s < 12) (h8 : n ≤ 8) (hJ : lOd J n) {all : Int32} (hA : B32 all (fun a => decide (a < n))) {Q : ab_S → Prop} {K144 : Int32 → Int32 → ab_S → Prop} (σ0 : ab_S) (hcn : σ0.2.1 (g + 2) s = nI n) (hdn : σ0.2.1 (g + 3) s = bm dn n) (hI : ∀ b, b < n → B32 (σ0.2.1 (g + 15) (s * 8 + b)) (J b)) : ∀ f k L h d σ, k + f = 10 → 1 ≤ k → h < 10 → (∀ a, n ≤ a → L a = 0) → FM (Slv g s) σ0 σ → CLv σ g s n L → B32 d (fun b => decide (0 < L b)) → (∀ τ, FM (Slv g s) σ0 τ → CLv τ g s n (lvI J dn n f k L) → lhI J dn n f k L h < 10 → K144 (nI s) (nI (lhI J dn n f k L h)) τ) → wX3_setLevels_l25 g Q E K144 (f + 1) (nI s) all d (nI h) (nI k) σ := by
  have hgb := isG_b hg
  intro f
  induction f with
  | zero =>
    intro k L h d σ hk h1 hh hLn hF hL hD hK
    show wX3_setLevels_l25_b _ _ _ _ _ _ _ _ _ _ _
    unfold wX3_setLevels_l25_b
    have := hK σ hF hL hh
    refine ⟨fun _ => this, fun _ => yes (by simp (disch := omega) only [nI_lit, nI_add, nI_mulE, nI_clampE, nI_eqE, nI_leE, nI_ltE, vp_nIE, true_and, and_true]; omega) this⟩
  | succ f ih =>
    intro k L h d σ hk h1 hh hLn hF hL hD hK
    have hcn1 : σ.2.1 (g + 2) s = nI n := by rw [hF.1 _ _ (decide_eq_false (by omega))]; exact hcn
    have hdn1 : σ.2.1 (g + 3) s = bm dn n := by rw [hF.1 _ _ (decide_eq_false (by omega))]; exact hdn
    have hI1 : ∀ b, b < n → B32 (σ.2.1 (g + 15) (s * 8 + b)) (J b) := fun b hb => by rw [hF.1 _ _ (decide_eq_false (by omega))]; exact hI b hb
    show wX3_setLevels_l25_b g Q E K144 (wX3_setLevels_l25 g Q E K144 (f + 1)) (nI s) all d (nI h) (nI k) σ
    unfold wX3_setLevels_l25_b
    rw [lvI, lhI] at hK
    have hall : d = all ↔ lal n L = true := by
      constructor
      · intro e
        refine lal_i.mpr (fun a ha => ?_)
        have q1 : bt d a = decide (0 < L a) := hD a (by omega)
        have q2 : bt all a = decide (a < n) := hA a (by omega)
        rw [e, q2, decide_eq_true ha] at q1
        exact of_decide_eq_true q1.symm
      · intro e
        refine hD.eq (hA.cg (fun i _ => ?_))
        by_cases z : i < n
        · rw [decide_eq_true z, decide_eq_true (show 0 < L i from lal_i.mp e i z)]
        · rw [decide_eq_false z, decide_eq_false (show ¬ 0 < L i by rw [hLn i (by omega)]; omega)]
    cases hal : lal n L
    · rw [if_neg (by rw [hal]; decide), if_neg (by rw [hal]; decide)] at hK
      refine no (fun z => by rw [hall.mp z] at hal; exact absurd hal (by decide)) (no (by simp (disch := omega) only [nI_lit, nI_add, nI_mulE, nI_clampE, nI_eqE, nI_leE, nI_ltE, vp_nIE, true_and, and_true]; omega) ?_)
      rw [i_mod2 k (by omega), nI_clampE (by omega), hdn1]
      have evs : vp_in (nI s) 12 := by simp (disch := omega) only [nI_lit, nI_add, nI_mulE, nI_clampE, nI_eqE, nI_leE, nI_ltE, vp_nIE, true_and, and_true]; omega
      have hdb : B32 (bm dn n) (fun i => decide (i < n) && dn i) := fun i hi => bm_bt (by omega) hi
      have go : ∀ y, (∀ i, i < 32 → (bt y i && decide (i < n)) = (decide (i < n) && (dn i == decide (k % 2 = 0)))) → wX3_setLevels_j63 g Q E K144 (wX3_setLevels_l25 g Q E K144 (f + 1)) (nI s) all d (nI k) y σ := by
        intro y hy
        unfold wX3_setLevels_j63
        have hF2 : B32 ((y &&& all) &&& (d ^^^ (-1))) (lfr dn n k L) := by
          have hb : B32 y (fun i => bt y i) := fun i _ => rfl
          refine ((hb.and hA).andn hD).cg (fun i hi => ?_)
          rw [hy i hi]
          unfold lfr
          by_cases z : i < n
          · rw [decide_eq_true z]
            rcases Nat.eq_zero_or_pos (L i) with w | w
            · rw [decide_eq_false (show ¬ 0 < L i by omega), decide_eq_true (show i < n ∧ L i = 0 from ⟨z, w⟩)]; simp
            · rw [decide_eq_true (show 0 < L i from w), decide_eq_false (show ¬ (i < n ∧ L i = 0) by omega)]; simp
          · rw [decide_eq_false z, decide_eq_false (show ¬ (i < n ∧ L i = 0) from fun q => z q.1)]; simp
        refine c_ch hg hs h8 hcn1 hI1 hJ hD hF2 (fun x hX => ?_)
        refine c_giv (J := J) (dn := dn) (L := L) hg hs h8 hcn1 hL (by omega) hX (fun τ F2 L2 => ?_)
        unfold wX3_setLevels_j127
        rw [nI_1]
        refine fe (fe (ih (k + 1) _ k _ τ (by omega) (by omega) (by omega) (fun a ha => ?_) (hF.tr F2) L2 ?_ hK))
        · unfold lsk
          have : lck J dn n k L a = false := by
            cases hc : lck J dn n k L a
            · rfl
            · have := (lfr_i.mp (lck_i.mp hc).1).1; omega
          rw [this, if_neg (by decide)]; exact hLn a ha
        · refine (hD.or hX).cg (fun i _ => ?_)
          unfold lsk
          cases hc : lck J dn n k L i
          · rw [if_neg (by decide), Bool.or_false]
          · rw [if_pos rfl, Bool.or_true, decide_eq_true (show 0 < k by omega)]
      by_cases hp : k % 2 = 1
      · rw [hp]
        refine no (fun z => z rfl) ⟨evs, go _ (fun i hi => ?_)⟩
        rw [hdb.not i hi, decide_eq_false (show ¬ k % 2 = 0 by omega)]
        dsimp only
        cases decide (i < n) <;> cases dn i <;> rfl
      · have hp0 : k % 2 = 0 := by omega
        rw [hp0]
        refine yes (by decide) ⟨evs, go _ (fun i hi => ?_)⟩
        rw [hdb i hi, decide_eq_true hp0]
        dsimp only
        cases decide (i < n) <;> cases dn i <;> rfl
    · rw [if_pos hal, if_pos hal] at hK
      exact yes (hall.mpr hal) (hK σ hF hL hh)
end CL
/-- the class's levels and visits -/
def Svl (g : Nat) : Nat → Nat → Bool := fun a _ => decide (a = g + 16 ∨ a = g + 17)
def slv (Γ : GRT) (s : Nat) : Nat → Nat := lvl ((oEnd Γ).2 s) (Γ.1.2.2.2.1 s) (Γ.1.2.2.1 s)
def svs (Γ : GRT) (s : Nat) : Nat := (lvh ((oEnd Γ).2 s) (Γ.1.2.2.2.1 s) (Γ.1.2.2.1 s) + 1) / 2
def CLs (σ : ab_S) (g : Nat) (Γ : GRT) : Prop := ∀ s, s < Γ.1.1 → (∀ a, a < Γ.1.2.2.1 s → σ.2.1 (g + 16) (s * 8 + a) = nI (slv Γ s a)) ∧ σ.2.1 (g + 17) s = nI (svs Γ s)
theorem oEnd_lod {Γ : GRT} (hV : GRV Γ) (hc : ∀ p, p < Γ.2.1 → crc ((oEnd Γ).1 p) = false) (s : Nat) : lOd ((oEnd Γ).2 s) (Γ.1.2.2.1 s) := by
  obtain ⟨h1, h2⟩ := oEnd_ord hV hc
  exact ⟨h1 s, h2 s, fun a b h => ((oEnd_fx hV).1.2 s a b h).2⟩
theorem slv_pos {Γ : GRT} (hV : GRV Γ) (hc : ∀ p, p < Γ.2.1 → crc ((oEnd Γ).1 p) = false) {s : Nat} (hs : s < Γ.1.1) {a : Nat} (ha : a < Γ.1.2.2.1 s) : 0 < slv Γ s a := lal_i.mp (lvl_al (oEnd_lod hV hc s) (hV.1.2.2 s hs).2.1) a ha
theorem c_slv {σ : ab_S} {g : Nat} {Γ : GRT} {E : String → ab_S → Prop} (hV : GRV Γ) (hg : isG g) (hC : CSy σ g Γ.1) (hI : InC σ g (oEnd Γ).2) (hc : ∀ p, p < Γ.2.1 → crc ((oEnd Γ).1 p) = false) {Q : ab_S → Prop} (h : ∀ τ, FM (Svl g) σ τ → CLs τ g Γ → Q τ) : wX3_setLevels g Q E σ := by
  have hgb := isG_b hg
  have h12 := hV.1.1
  refine ⟨Γ.1.1 + 1, ?_⟩
  suffices H : ∀ f s τ, Γ.1.1 - s = f → s ≤ Γ.1.1 → FM (Svl g) σ τ → (∀ s', s' < s → (∀ a, a < Γ.1.2.2.1 s' → τ.2.1 (g + 16) (s' * 8 + a) = nI (slv Γ s' a)) ∧ τ.2.1 (g + 17) s' = nI (svs Γ s')) → wX3_setLevels_l2 g Q E (f + 1) (nI s) τ from H _ 0 σ rfl (Nat.zero_le _) (FM.rf _ _) (fun s' hs' => absurd hs' (by omega))
  intro f
  induction f with
  | zero =>
    intro s τ hf hs hF hL
    show wX3_setLevels_l2_b _ _ _ _ _ _
    unfold wX3_setLevels_l2_b
    rw [hF.1 g 0 (decide_eq_false (by omega)), hC.1]
    exact yes (by simp (disch := omega) only [nI_lit, nI_add, nI_mulE, nI_clampE, nI_eqE, nI_leE, nI_ltE, vp_nIE, true_and, and_true]; omega) (h τ hF (fun s' hs' => hL s' (by omega)))
  | succ f ih =>
    intro s τ hf hs hF hL
    have hs1 : s < Γ.1.1 := by omega
    obtain ⟨a1, a2, a3, a4⟩ := hC.2 s hs1
    have h8 := (hV.1.2.2 s hs1).2.1
    show wX3_setLevels_l2_b g Q E (wX3_setLevels_l2 g Q E (f + 1)) (nI s) τ
    unfold wX3_setLevels_l2_b wX0_allOf
    rw [hF.1 g 0 (decide_eq_false (by omega)), hC.1, nI_clampE (by omega), hF.1 (g + 2) _ (decide_eq_false (by omega)), a2]
    have evs : vp_in (nI s) 12 := by simp (disch := omega) only [nI_lit, nI_add, nI_mulE, nI_clampE, nI_eqE, nI_leE, nI_ltE, vp_nIE, true_and, and_true]; omega
    refine no (by simp (disch := omega) only [nI_lit, nI_add, nI_mulE, nI_clampE, nI_eqE, nI_leE, nI_ltE, vp_nIE, true_and, and_true]; omega) ⟨evs, 10, ?_⟩
    have hA : B32 (((1 : Int32) <<< (nI (Γ.1.2.2.1 s) &&& 31)) - 1) (fun a => decide (a < Γ.1.2.2.1 s)) := fun i hi => b_all _ (by omega) i hi
    refine c_lvs hg (by omega) h8 (oEnd_lod hV hc s) hA τ (by rw [hF.1 (g + 2) _ (decide_eq_false (by omega))]; exact a2) (by rw [hF.1 (g + 3) _ (decide_eq_false (by omega))]; exact a3) (fun b hb => by rw [hF.1 (g + 15) _ (decide_eq_false (by omega))]; exact hI s (by omega) b (by omega)) 9 1 lv0 1 0 τ (by omega) (by omega) (by omega) (fun _ _ => rfl) (FM.rf _ _) (fun a _ hp => absurd hp (by show ¬ 0 < 0; omega)) (fun i _ => by rw [b_0]; rfl) (fun τ2 F2 L2 hh => ?_)
    unfold wX3_setLevels_j144
    have hh2 : lhI ((oEnd Γ).2 s) (Γ.1.2.2.2.1 s) (Γ.1.2.2.1 s) 9 1 lv0 1 = lvh ((oEnd Γ).2 s) (Γ.1.2.2.2.1 s) (Γ.1.2.2.1 s) := rfl
    rw [hh2] at hh ⊢
    rw [nI_1, i_div2 _ (by omega), nI_clampE (by omega), nI_1]
    refine ⟨evs, fe (fe ?_)⟩
    refine ih (s + 1) _ (by omega) (by omega) ((hF.tr (F2.mono (fun a i y => by have y := of_decide_eq_false y; exact decide_eq_false (by omega)))).I (decide_eq_true (by omega))) (fun s' hs' => ?_)
    by_cases e : s' = s
    · subst e
      refine ⟨fun a ha => ?_, by rw [gI_I, if_pos rfl, if_pos rfl]; rfl⟩
      rw [gI_I, if_neg (by omega)]
      exact L2 a ha (slv_pos hV hc hs1 ha)
    · obtain ⟨b1, b2⟩ := hL s' (by omega)
      have h8' := (hV.1.2.2 s' (by omega)).2.1
      refine ⟨fun a ha => ?_, ?_⟩
      · rw [gI_I, if_neg (by omega), F2.1 _ _ (decide_eq_false (by omega))]; exact b1 a ha
      · rw [gI_I, if_pos rfl, if_neg e, F2.1 _ _ (decide_eq_false (by omega))]; exact b2
