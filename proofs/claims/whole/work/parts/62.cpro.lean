/-! ===== productions, the class's ===== -/
def Sfi (A a b : Nat) : Nat → Nat → Bool := fun x i => decide (x = A ∧ a ≤ i ∧ i < b)
section CL
variable {σ : ab_S} {t : Nat → Nat} {n q g p lm lc : Nat} {G : SYT} {P : PRO} {E : String → ab_S → Prop}
theorem c_fillL {A An a b : Nat} (hb : b ≤ An) (hA : An < 100000) {v : Int32} {Q : ab_S → Prop} (σ0 : ab_S) : ∀ f i σ, b - i = f → a ≤ i → i ≤ b → FM (Sfi A a b) σ0 σ → (∀ j, a ≤ j → j < i → σ.2.1 A j = v) → (∀ σ', FM (Sfi A a b) σ0 σ' → (∀ j, a ≤ j → j < b → σ'.2.1 A j = v) → Q σ') → wJ7_fill_fda19_l10 A An (nI a) (nI b) v Q E (f + 1) (nI i) σ := by
  intro f
  induction f with
  | zero =>
    intro i σ hf h1 h2 hF hv h
    exact yes (by simp (disch := omega) only [nI_lit, nI_add, nI_mulE, nI_clampE, nI_eqE, nI_leE, nI_ltE, vp_nIE, true_and, and_true]; omega) (h σ hF (fun j x y => hv j x (by omega)))
  | succ f ih =>
    intro i σ hf h1 h2 hF hv h
    show wJ7_fill_fda19_l10_b A An (nI a) (nI b) v Q E (wJ7_fill_fda19_l10 A An (nI a) (nI b) v Q E (f + 1)) (nI i) σ
    unfold wJ7_fill_fda19_l10_b
    rw [nI_clampE (by omega), nI_1]
    refine no (by simp (disch := omega) only [nI_lit, nI_add, nI_mulE, nI_clampE, nI_eqE, nI_leE, nI_ltE, vp_nIE, true_and, and_true]; omega) ⟨by simp (disch := omega) only [nI_lit, nI_add, nI_mulE, nI_clampE, nI_eqE, nI_leE, nI_ltE, vp_nIE, true_and, and_true]; omega, fe (fe ?_)⟩
    refine ih (i + 1) _ (by omega) (by omega) (by omega) (hF.I (decide_eq_true ⟨rfl, by omega, by omega⟩)) (fun j x y => ?_) h
    rw [gI_I, if_pos rfl]
    by_cases ej : j = i
    · rw [if_pos ej]
    · rw [if_neg ej]; exact hv j x (by omega)
theorem c_fill {A An a b : Nat} (ha : a ≤ b) (hb : b ≤ An) (hA : An < 100000) {v : Int32} {Q : ab_S → Prop} (h : ∀ σ', FM (Sfi A a b) σ σ' → (∀ j, a ≤ j → j < b → σ'.2.1 A j = v) → Q σ') : wJ7_fill_fda19 A An (nI a) (nI b) v Q E σ := by
  unfold wJ7_fill_fda19 wJ7_rangeCheck_23922
  refine yes (by simp (disch := omega) only [nI_lit, nI_add, nI_mulE, nI_clampE, nI_eqE, nI_leE, nI_ltE, vp_nIE, true_and, and_true]; omega) (yes (by show nI 0 ≤ nI a; simp (disch := omega) only [nI_lit, nI_add, nI_mulE, nI_clampE, nI_eqE, nI_leE, nI_ltE, vp_nIE, true_and, and_true]; omega) (yes (by simp (disch := omega) only [nI_lit, nI_add, nI_mulE, nI_clampE, nI_eqE, nI_leE, nI_ltE, vp_nIE, true_and, and_true]; omega) ?_))
  exact ⟨_, c_fillL hb hA σ _ a σ rfl (Nat.le_refl _) ha (FM.rf _ _) (fun j x y => absurd y (by omega)) h⟩
theorem b_all : ∀ c, c < 9 → ∀ i, i < 32 → bt (((1 : Int32) <<< (nI c &&& 31)) - 1) i = decide (i < c) := by decide +kernel
theorem b_not (x : Int32) {i : Nat} (hi : i < 32) : bt (x ^^^ (-1)) i = !bt x i := by rw [b_xor, b_m1 i hi, Bool.xor_true]
theorem c_defL (hg : isG g) (hC : CSy σ g G) (hV : GV G) (hp : p < 30) (hr : σ.2.1 (g + 6) p = nI P.2.1) (ho : ∀ o, o ≤ P.2.1 → σ.2.1 (g + 7) (p * 4 + o) = nI (P.2.2.1 o) ∧ P.2.2.1 o < G.1) (h3 : P.2.1 ≤ 3) {Q : Int32 → ab_S → Prop} (h : Q (bm (dfn G P) 32) σ) : ∀ f o, P.2.1 + 1 - o = f → 1 ≤ o → o ≤ P.2.1 + 1 → wX0_definable_l25 g (nI p) Q E (f + 1) (bm (fun x => decide (x / 8 < o) && dfn G P x) 32) (nI o) σ := by
  have ecp : (nI p).toNatClampNeg = p := nI_clampE (by omega)
  have evp : vp_in (nI p) 30 := by simp (disch := omega) only [nI_lit, nI_add, nI_mulE, nI_clampE, nI_eqE, nI_leE, nI_ltE, vp_nIE, true_and, and_true]; omega
  intro f
  induction f with
  | zero =>
    intro o hf h1 h2
    show wX0_definable_l25_b _ _ _ _ _ _ _ _
    unfold wX0_definable_l25_b
    rw [ecp, hr]
    refine ⟨evp, yes (by simp (disch := omega) only [nI_lit, nI_add, nI_mulE, nI_clampE, nI_eqE, nI_leE, nI_ltE, vp_nIE, true_and, and_true]; omega) ?_⟩
    have e : bm (fun x => decide (x / 8 < o) && dfn G P x) 32 = bm (dfn G P) 32 := by
      refine bm_congr (fun i hi => ?_)
      cases hd : dfn G P i
      · simp
      · unfold dfn at hd
        simp only [Bool.and_eq_true, decide_eq_true_eq] at hd
        simp; omega
    rw [e]; exact h
  | succ f ih =>
    intro o hf h1 h2
    obtain ⟨o1, o2⟩ := ho o (by omega)
    have hvs := hV.2.2 _ o2
    have h12 := hV.1
    show wX0_definable_l25_b g (nI p) Q E (wX0_definable_l25 g (nI p) Q E (f + 1)) _ (nI o) σ
    unfold wX0_definable_l25_b
    rw [ecp, hr]
    refine ⟨evp, no (by simp (disch := omega) only [nI_lit, nI_add, nI_mulE, nI_clampE, nI_eqE, nI_leE, nI_ltE, vp_nIE, true_and, and_true]; omega) ?_⟩
    have e4 : nI p * 4 + nI o = nI (p * 4 + o) := by show nI p * nI 4 + _ = _; rw [nI_mulE, nI_add]
    unfold wX0_symbolAt
    rw [e4, nI_clampE (by omega), o1]
    refine ⟨by simp (disch := omega) only [nI_lit, nI_add, nI_mulE, nI_clampE, nI_eqE, nI_leE, nI_ltE, vp_nIE, true_and, and_true]; omega, by simp (disch := omega) only [nI_lit, nI_add, nI_mulE, nI_clampE, nI_eqE, nI_leE, nI_ltE, vp_nIE, true_and, and_true]; omega, ?_⟩
    rw [nI_clampE (by omega), (hC.2 _ o2).2.2.1, nI_1]
    refine fe (fe ?_)
    have e8 : nI o * 8 = nI (8 * o) := by show nI o * nI 8 = _; rw [nI_mulE, Nat.mul_comm]
    rw [e8]
    have e : bm (fun x => decide (x / 8 < o) && dfn G P x) 32 ||| bm (G.2.2.2.1 (P.2.2.1 o)) (G.2.2.1 (P.2.2.1 o)) <<< (nI (8 * o) &&& 31) = bm (fun x => decide (x / 8 < o + 1) && dfn G P x) 32 := by
      apply b_ext
      intro i hi
      rw [b_or, bm_bt (by omega) hi, bm_bt (by omega) hi, b_shl (8 * o) (by omega) _ hi, bm_bt (by have := hvs.2.1; omega) (by omega), decide_eq_true hi, Bool.true_and, Bool.true_and]
      have hc8 := hvs.2.1
      by_cases z1 : i / 8 < o
      · rw [decide_eq_true z1, decide_eq_true (show i / 8 < o + 1 by omega), decide_eq_false (show ¬ 8 * o ≤ i by omega)]
        simp
      · by_cases z2 : i / 8 = o
        · have z3 : i - 8 * o = i % 8 := by omega
          rw [decide_eq_false z1, decide_eq_true (show i / 8 < o + 1 by omega), decide_eq_true (show 8 * o ≤ i by omega), z3]
          unfold dfn
          rw [z2, decide_eq_true (show o ≤ P.2.1 by omega), decide_eq_true (show 0 < o by omega)]
          cases G.2.2.2.1 (P.2.2.1 o) (i % 8) <;> simp
        · rw [decide_eq_false z1, decide_eq_false (show ¬ i / 8 < o + 1 by omega), decide_eq_false (show ¬ i - 8 * o < G.2.2.1 (P.2.2.1 o) by omega)]
          simp
    rw [e]
    exact ih (o + 1) (by omega) (by omega) (by omega)
theorem c_def (hg : isG g) (hC : CSy σ g G) (hV : GV G) (hp : p < 30) (hr : σ.2.1 (g + 6) p = nI P.2.1) (ho : ∀ o, o ≤ P.2.1 → σ.2.1 (g + 7) (p * 4 + o) = nI (P.2.2.1 o) ∧ P.2.2.1 o < G.1) (h3 : P.2.1 ≤ 3) {Q : Int32 → ab_S → Prop} (h : Q (bm (dfn G P) 32) σ) : wX0_definable g (nI p) Q E σ := by
  obtain ⟨o1, o2⟩ := ho 0 (by omega)
  have hvs := hV.2.2 _ o2
  have h12 := hV.1
  unfold wX0_definable wX0_symbolAt
  have e4 : nI p * 4 + 0 = nI (p * 4 + 0) := by show nI p * nI 4 + nI 0 = _; rw [nI_mulE, nI_add]
  rw [e4, nI_clampE (by omega), o1]
  refine ⟨by simp (disch := omega) only [nI_lit, nI_add, nI_mulE, nI_clampE, nI_eqE, nI_leE, nI_ltE, vp_nIE, true_and, and_true]; omega, ?_⟩
  unfold wX0_allOf
  have evs : vp_in (nI (P.2.2.1 0)) 12 := by simp (disch := omega) only [nI_lit, nI_add, nI_mulE, nI_clampE, nI_eqE, nI_leE, nI_ltE, vp_nIE, true_and, and_true]; omega
  dsimp only
  rw [nI_clampE (by omega), (hC.2 _ o2).2.1, (hC.2 _ o2).2.2.1]
  refine ⟨evs, evs, fe ⟨P.2.1 + 1, ?_⟩⟩
  have e : (((1 : Int32) <<< (nI (G.2.2.1 (P.2.2.1 0)) &&& 31)) - 1) &&& (bm (G.2.2.2.1 (P.2.2.1 0)) (G.2.2.1 (P.2.2.1 0)) ^^^ (-1)) = bm (fun x => decide (x / 8 < 1) && dfn G P x) 32 := by
    apply b_ext
    intro i hi
    have hc8 := hvs.2.1
    rw [b_and, b_all _ (by omega) i hi, b_not _ hi, bm_bt (by omega) hi, bm_bt (by omega) hi, decide_eq_true hi, Bool.true_and]
    by_cases z : i / 8 < 1
    · have z0 : i / 8 = 0 := by omega
      have z1 : i % 8 = i := by omega
      rw [decide_eq_true z, Bool.true_and]
      unfold dfn
      rw [z0, z1, decide_eq_true (Nat.zero_le _), decide_eq_false (Nat.lt_irrefl 0), Bool.true_and]
      cases G.2.2.2.1 (P.2.2.1 0) i <;> simp
    · rw [decide_eq_false z, decide_eq_false (show ¬ i < G.2.2.1 (P.2.2.1 0) by omega)]
      simp
  rw [e]
  exact c_defL hg hC hV hp hr ho h3 h P.2.1 1 (by omega) (by omega) (by omega)
/-- a production's state while its occurrences are read -/
def RJ (σ : ab_S) (t : Nat → Nat) (n g p : Nat) (G : SYT) (P : PRO) (k lc q : Nat) : Prop := CS σ t n q ∧ isG g ∧ σ.2.2.2 7 1 = some g ∧ CSy σ g G ∧ GV G ∧ σ.2.1 7 2 = nI p ∧ p < 30 ∧ CPo σ g p P k ∧ (∀ x, P.2.2.2.2.1 x = false) ∧ σ.2.1 g 14 = nI lc ∧ lc ≤ q ∧ σ.2.1 g 5 = nI (p + 1) ∧ k ≤ 4
theorem RJ.adv {k : Nat} {σ' : ab_S} {q' : Nat} (h : RJ σ t n g p G P k lc q) (f : Fr S3 σ σ') (hS : CS σ' t n q') (hq : q ≤ q') : RJ σ' t n g p G P k lc q' := by
  obtain ⟨h1, h2, h3, h4, h5, h6, h7, h8, h9, h10, h11, h12, h13⟩ := h
  have F := FrFM f
  have e : ∀ k, S3 (g + k) = false := fun k => S3_g h2
  refine ⟨hS, h2, refG f rfl h3, h4.adv h2 f, h5, by rw [f.1 7 rfl]; exact h6, h7, h8.keep (lc := lc) F h13 (e 5) (e 6) (fun o _ => e 7) (e 8) (e 9) (fun x _ => e 10) (fun x _ => e 11) (fun x _ => e 12) (Kc.fm F (fun _ => e 13) (fun _ => e 14)) (fun x hx => by rw [h9 x] at hx; exact absurd hx Bool.false_ne_true), h9, by rw [show σ'.2.1 g = σ.2.1 g from f.1 g (S3_g (k := 0) h2)]; exact h10, by omega, by rw [show σ'.2.1 g = σ.2.1 g from f.1 g (S3_g (k := 0) h2)]; exact h12, h13⟩
/-- a write into what is being read -/
theorem RJ.set {k k' : Nat} {σ' : ab_S} {P' : PRO} (h : RJ σ t n g p G P k lc q) (f : FM (fun a i => decide ((a = g + 6 ∧ i = p) ∨ (a = g + 7 ∧ p * 4 ≤ i ∧ i < p * 4 + 4) ∨ (a = g + 8 ∧ i = p))) σ σ') (hC : CPo σ' g p P' k') (hd : P'.2.2.2.2.1 = P.2.2.2.2.1) (hk : k' ≤ 4) : RJ σ' t n g p G P' k' lc q := by
  obtain ⟨h1, h2, h3, h4, h5, h6, h7, h8, h9, h10, h11, h12, h13⟩ := h
  have := isG_b h2
  exact ⟨h1.fm f (fun i => decide_eq_false (by omega)) (fun i => decide_eq_false (by omega)) (fun i => decide_eq_false (by omega)) (fun i => decide_eq_false (by omega)), h2, by rw [f.2.2 7 1 (decide_eq_false (by omega))]; exact h3, h4.fm f (decide_eq_false (by omega)) (fun i => decide_eq_false (by omega)) (fun i => decide_eq_false (by omega)) (fun i => decide_eq_false (by omega)) (fun i => decide_eq_false (by omega)), h5, by rw [f.1 7 2 (decide_eq_false (by omega))]; exact h6, h7, hC, fun x => by rw [hd]; exact h9 x, by rw [f.1 g 14 (decide_eq_false (by omega))]; exact h10, h11, by rw [f.1 g 5 (decide_eq_false (by omega))]; exact h12, hk⟩
theorem c_occ {k o : Nat} (hJ : RJ σ t n g p G P k lc q) (ho : o < 4) {Q : Int32 → ab_S → Prop} (h1 : tkK t n q = 2 → fi G.2.1 G.1 (nml t n q) < G.1 → ∀ σ', Fr S3 (ab_I σ (g + 7) (p * 4 + o) (nI (fi G.2.1 G.1 (nml t n q)))) σ' → CS σ' t n (nx t n q) → Q 1 σ') (h0 : ¬ (tkK t n q = 2 ∧ fi G.2.1 G.1 (nml t n q) < G.1) → Q 0 σ) : wX1_readOccurrence (nI o) Q E σ := by
  obtain ⟨hS, hg, h3, h4, h5, h6, h7, h8, h9, h10, h11, h12, h13⟩ := hJ
  have hgb := isG_b hg
  have hk := tkK_lt (t := t) (n := n) (q := q)
  unfold wX1_readOccurrence
  rw [hS.kind]
  by_cases k2 : tkK t n q = 2
  · obtain ⟨v1, v2, v3⟩ := nml_v k2
    refine no (by rw [k2]; exact fun z => z rfl) ⟨g, h3, hg, ?_⟩
    rw [hS.name k2, v2]
    refine c_findS h5.1 h4.1 (fun s hs => ⟨(h4.2 s hs).1, (h5.2.2 s hs).1⟩) v1 ?_
    unfold wX1_readOccurrence_j29
    by_cases kf : fi G.2.1 G.1 (nml t n q) = G.1
    · rw [fiI_no kf]
      exact no (fun z => z rfl) (h0 (fun z => by omega))
    · have hne := fiI_ne kf (by have := h5.1; omega)
      refine yes hne.1 ⟨g, h3, hg, ?_⟩
      have ei : fiI G.2.1 G.1 (nml t n q) = nI (fi G.2.1 G.1 (nml t n q)) := by unfold fiI; rw [if_pos hne.2]
      have e4 : nI p * 4 + nI o = nI (p * 4 + o) := by show nI p * nI 4 + _ = _; rw [nI_mulE, nI_add]
      rw [ei, h6, e4, nI_clampE (by omega)]
      refine ⟨by simp (disch := omega) only [nI_lit, nI_add, nI_mulE, nI_clampE, nI_eqE, nI_leE, nI_ltE, vp_nIE, true_and, and_true]; omega, fe ?_⟩
      have S2 : CS (ab_I σ (g + 7) (p * 4 + o) (nI (fi G.2.1 G.1 (nml t n q)))) t n q := hS.fm (S := fun a i => a == g + 7) ((FM.rf _ σ).I (by simp)) (fun i => by simp <;> omega) (fun i => by simp <;> omega) (fun i => by simp <;> omega) (fun i => by simp <;> omega)
      exact c_adv S2 (by omega) (fun σ' f s => h1 k2 hne.2 σ' f s)
  · refine yes (by simp (disch := omega) only [nI_lit, nI_add, nI_mulE, nI_clampE, nI_eqE, nI_leE, nI_ltE, vp_nIE, true_and, and_true]; exact k2) ?_
    unfold wX1_readOccurrence_j29
    exact no (fun z => z rfl) (h0 (fun z => k2 z.1))
theorem CPo_occ {o s : Nat} (h : CPo σ g p P o) (hg : isG g) (hd : ∀ x, P.2.2.2.2.1 x = false) (ho : o < 4) {P' : PRO} (e1 : P'.1 = P.1) (e2 : P'.2.1 = P.2.1) (e3 : P'.2.2.1 = uf P.2.2.1 o s) (e4 : P'.2.2.2 = P.2.2.2) : CPo (ab_I σ (g + 7) (p * 4 + o) (nI s)) g p P' (o + 1) := by
  obtain ⟨h1, h2, h3, h4, h5, h6⟩ := h
  refine ⟨by rw [e1]; exact h1, by rw [e2, gI_I, if_neg (by omega)]; exact h2, fun o' ho' => ?_, by rw [e4, gI_I, if_neg (by omega)]; exact h4, by rw [e4, gI_I, if_neg (by omega)]; exact h5, fun x hx => ⟨fun z => by rw [e4, hd] at z; exact absurd z Bool.false_ne_true, fun z => by rw [gI_I, if_neg (by omega)]; exact (h6 x hx).2 (hd x)⟩⟩
  rw [e3, gI_I, if_pos rfl]
  by_cases e : o' = o
  · rw [e, uf_s, if_pos rfl]
  · rw [uf_o _ _ e, if_neg (by omega)]; exact h3 o' (by omega)
theorem CPo_rt {k r : Nat} (h : CPo σ g p P k) (hd : ∀ x, P.2.2.2.2.1 x = false) {P' : PRO} (e1 : P'.1 = P.1) (e2 : P'.2.1 = r) (e3 : P'.2.2 = P.2.2) : CPo (ab_I σ (g + 6) p (nI r)) g p P' k := by
  obtain ⟨h1, h2, h3, h4, h5, h6⟩ := h
  refine ⟨by rw [e1]; exact h1, by rw [e2, gI_I, if_pos rfl, if_pos rfl], fun o ho => by rw [e3, gI_I, if_neg (by omega)]; exact h3 o ho, by rw [e3, gI_I, if_neg (by omega)]; exact h4, by rw [e3, gI_I, if_neg (by omega)]; exact h5, fun x hx => ⟨fun z => by rw [e3, hd] at z; exact absurd z Bool.false_ne_true, fun z => by rw [gI_I, if_neg (by omega)]; exact (h6 x hx).2 (hd x)⟩⟩
theorem CPo_lt {k : Nat} {b : Bool} (h : CPo σ g p P k) (hd : ∀ x, P.2.2.2.2.1 x = false) : CPo (ab_I σ (g + 8) p (if b then 1 else 0)) g p (plt P b) k := by
  obtain ⟨h1, h2, h3, h4, h5, h6⟩ := h
  refine ⟨h1, by rw [gI_I, if_neg (by omega)]; exact h2, fun o ho => by rw [gI_I, if_neg (by omega)]; exact h3 o ho, by rw [gI_I, if_pos rfl, if_pos rfl]; rfl, by rw [gI_I, if_neg (by omega)]; exact h5, fun x hx => ⟨fun z => absurd (z.symm.trans (hd x)) (by decide), fun z => by rw [gI_I, if_neg (by omega)]; exact (h6 x hx).2 (hd x)⟩⟩
theorem S3_w {k : Nat} (hg : isG g) {σ' : ab_S} {i : Nat} {x : Int32} (f : Fr S3 (ab_I σ (g + k) i x) σ') (hk : SR g p (g + k) i = true) : FM (SR g p) σ σ' := ((FM.rf _ σ).I hk).tr ((FrFM f).mono (fun a i y => S3_SR a i y))
theorem c_right {Q : Int32 → ab_S → Prop} (σ0 : ab_S) : ∀ f q P σ, P.2.1 + 1 + f = 4 → RJ σ t n g p G P (P.2.1 + 1) lc q → (∀ o, o ≤ P.2.1 → P.2.2.1 o < G.1) → FM (SR g p) σ0 σ → Kc σ0 σ g lc → (∀ σ', FM (SR g p) σ0 σ' → Kc σ0 σ' g lc → CS σ' t n (pOcs t n G f q P).2.1 → ((pOcs t n G f q P).1 = true → RJ σ' t n g p G (pOcs t n G f q P).2.2 ((pOcs t n G f q P).2.2.2.1 + 1) lc (pOcs t n G f q P).2.1 ∧ ∀ o, o ≤ (pOcs t n G f q P).2.2.2.1 → (pOcs t n G f q P).2.2.2.2.1 o < G.1) → Q (if (pOcs t n G f q P).1 then 1 else 0) σ') → wX1_readRight_l23 Q E (f + 1) (nI (P.2.1 + 1)) σ := by
  intro f
  induction f with
  | zero =>
    intro q P σ hf hJ hO hF hK h
    exact yes (by simp (disch := omega) only [nI_lit, nI_add, nI_mulE, nI_clampE, nI_eqE, nI_leE, nI_ltE, vp_nIE, true_and, and_true]; omega) (h σ hF hK hJ.1 (fun _ => ⟨hJ, hO⟩))
  | succ f ih =>
    intro q P σ hf hJ hO hF hK h
    have hJ0 := hJ
    obtain ⟨hS, hg, h3, h4, h5, h6, h7, h8, h9, h10, h11, h12, h13⟩ := hJ
    have hgb := isG_b hg
    have hk := tkK_lt (t := t) (n := n) (q := q)
    show wX1_readRight_l23_b Q E (wX1_readRight_l23 Q E (f + 1)) (nI (P.2.1 + 1)) σ
    unfold wX1_readRight_l23_b
    refine no (by simp (disch := omega) only [nI_lit, nI_add, nI_mulE, nI_clampE, nI_eqE, nI_leE, nI_ltE, vp_nIE, true_and, and_true]; omega) ?_
    rw [hS.kind]
    by_cases k2 : tkK t n q = 2
    · refine no (by rw [k2]; exact fun z => z rfl) ?_
      rw [pOcs, if_pos k2] at h
      refine c_occ hJ0 (by omega) (fun _ hlt σ1 f1 s1 => ?_) (fun hn => ?_)
      · rw [if_pos hlt] at h
        have hgt := nx_gt (t := t) (n := n) (q := q) (by omega)
        have J1 : RJ (ab_I σ (g + 7) (p * 4 + (P.2.1 + 1)) (nI (fi G.2.1 G.1 (nml t n q)))) t n g p G (P.1, P.2.1, uf P.2.2.1 (P.2.1 + 1) (fi G.2.1 G.1 (nml t n q)), P.2.2.2) (P.2.1 + 1 + 1) lc q := hJ0.set ((FM.rf _ σ).I (decide_eq_true (by omega))) (CPo_occ h8 hg h9 (by omega) rfl rfl rfl rfl) rfl (by omega)
        have J2 := J1.adv f1 s1 (by omega)
        have hF1 : FM (SR g p) σ σ1 := S3_w (k := 7) hg f1 (decide_eq_true (by omega))
        have K1 : Kc σ σ1 g lc := (Kc.fm (S := fun a i => decide (a = g + 7)) ((FM.rf _ σ).I (decide_eq_true rfl)) (fun i => decide_eq_false (by omega)) (fun i => decide_eq_false (by omega))).tr (Kc.fm (lc := lc) (FrFM f1) (fun i => S3_g hg) (fun i => S3_g hg)) (Nat.le_refl _)
        refine yes (by decide) ⟨g, J2.2.2.1, hg, ?_⟩
        have evp : vp_in (nI p) 30 := by simp (disch := omega) only [nI_lit, nI_add, nI_mulE, nI_clampE, nI_eqE, nI_leE, nI_ltE, vp_nIE, true_and, and_true]; omega
        rw [J2.2.2.2.2.2.1, nI_clampE (by omega), nI_1]
        refine ⟨evp, fe (fe ?_)⟩
        have J3 : RJ (ab_I σ1 (g + 6) p (nI (P.2.1 + 1))) t n g p G (pao P (fi G.2.1 G.1 (nml t n q))) (P.2.1 + 1 + 1) lc (nx t n q) := J2.set ((FM.rf _ σ1).I (decide_eq_true (by omega))) (CPo_rt J2.2.2.2.2.2.2.2.1 h9 rfl rfl rfl) rfl (by omega)
        refine ih (nx t n q) (pao P (fi G.2.1 G.1 (nml t n q))) _ (by show P.2.1 + 1 + 1 + f = 4; omega) J3 (fun o ho => ?_) ((hF.tr hF1).I (decide_eq_true (by omega))) ((hK.tr K1 (Nat.le_refl _)).tr (Kc.fm (lc := lc) (S := fun a i => decide (a = g + 6)) ((FM.rf _ σ1).I (decide_eq_true rfl)) (fun i => decide_eq_false (by omega)) (fun i => decide_eq_false (by omega))) (Nat.le_refl _)) h
        have ho : o ≤ P.2.1 + 1 := ho
        show uf P.2.2.1 (P.2.1 + 1) (fi G.2.1 G.1 (nml t n q)) o < G.1
        by_cases e : o = P.2.1 + 1
        · rw [e, uf_s]; exact hlt
        · rw [uf_o _ _ e]; exact hO o (by omega)
      · rw [if_neg (fun z => hn ⟨k2, z⟩)] at h
        exact no (fun z => z rfl) (h σ hF hK hS (fun z => absurd z Bool.false_ne_true))
    · rw [pOcs, if_neg k2] at h
      exact yes (by simp (disch := omega) only [nI_lit, nI_add, nI_mulE, nI_clampE, nI_eqE, nI_leE, nI_ltE, vp_nIE, true_and, and_true]; exact k2) (h σ hF hK hS (fun _ => ⟨hJ0, hO⟩))
theorem c_addP {l : List Nat} (hg : isG g) (h5 : σ.2.1 g 5 = nI p) (hp : p < 30) {Q : ab_S → Prop} (h : ∀ σ', FM (fun a i => decide ((a = g ∧ i = 5) ∨ ((a = g + 5 ∨ a = g + 6 ∨ a = g + 8 ∨ a = g + 9) ∧ i = p) ∨ (a = g + 10 ∧ p * 32 ≤ i ∧ i < p * 32 + 32))) σ σ' → CPo σ' g p (pnew l) 0 → σ'.2.1 g 5 = nI (p + 1) → Q σ') : wX0_addProduction g (pkL l 0) Q E σ := by
  have hgb := isG_b hg
  have evp : vp_in (nI p) 30 := by simp (disch := omega) only [nI_lit, nI_add, nI_mulE, nI_clampE, nI_eqE, nI_leE, nI_ltE, vp_nIE, true_and, and_true]; omega
  have ecp : (nI p).toNatClampNeg = p := nI_clampE (by omega)
  unfold wX0_addProduction
  rw [h5, ecp]
  refine ⟨evp, fe ?_⟩
  rw [show (ab_L σ (g + 5) p (pkL l 0)).2.1 g 5 = nI p from h5, ecp]
  refine ⟨evp, fe ?_⟩
  generalize hσ2 : ab_I (ab_L σ (g + 5) p (pkL l 0)) (g + 6) p 0 = σ2
  have e2 : σ2.2.1 g 5 = nI p := by rw [← hσ2, gI_I, if_neg (by omega)]; exact h5
  rw [e2, ecp, show vp_nar .boolean (0 : Int32) = 0 from by decide]
  refine ⟨evp, fe ?_⟩
  generalize hσ3 : ab_I σ2 (g + 8) p 0 = σ3
  have e3 : σ3.2.1 g 5 = nI p := by rw [← hσ3, gI_I, if_neg (by omega)]; exact e2
  rw [e3, ecp]
  refine ⟨evp, fe ?_⟩
  generalize hσ4 : ab_I σ3 (g + 9) p 0 = σ4
  have e4 : σ4.2.1 g 5 = nI p := by rw [← hσ4, gI_I, if_neg (by omega)]; exact e3
  rw [e4, show nI p * 32 = nI (p * 32) by show nI p * nI 32 = _; rw [nI_mulE], show (nI p + 1) * 32 = nI (p * 32 + 32) by rw [nI_1]; show nI (p + 1) * nI 32 = _; rw [nI_mulE]; congr 1; omega]
  have F4 : FM (fun a i => decide ((a = g ∧ i = 5) ∨ ((a = g + 5 ∨ a = g + 6 ∨ a = g + 8 ∨ a = g + 9) ∧ i = p) ∨ (a = g + 10 ∧ p * 32 ≤ i ∧ i < p * 32 + 32))) σ σ4 := by
    rw [← hσ4, ← hσ3, ← hσ2]
    exact ((((FM.rf _ σ).L (by simp)).I (by simp)).I (by simp)).I (by simp)
  refine c_fill (by omega) (by omega) (by omega) (fun σ5 f5 v5 => fe ?_)
  have E5 : ∀ a i, a ≠ g + 10 → σ5.2.1 a i = σ4.2.1 a i := fun a i z => f5.1 a i (decide_eq_false (by omega))
  rw [E5 g 5 (by omega), e4, nI_1]
  have F5 := F4.tr (f5.mono (fun a i y => by have y := of_decide_eq_false y; exact decide_eq_false (by omega)))
  refine h _ (F5.I (decide_eq_true (by omega))) ⟨?_, ?_, fun o ho => absurd ho (by omega), ?_, ?_, fun x hx => ⟨fun z => absurd z Bool.false_ne_true, fun _ => ?_⟩⟩ (by rw [gI_I, if_pos rfl, if_pos rfl])
  · show σ5.2.2.1 (g + 5) p = _
    rw [f5.2.1 _ _ (decide_eq_false (by omega)), ← hσ4, ← hσ3, ← hσ2]
    show (ab_L σ (g + 5) p (pkL l 0)).2.2.1 (g + 5) p = _
    rw [gL_L, if_pos rfl, if_pos rfl]; rfl
  · rw [gI_I, if_neg (by omega), E5 _ _ (by omega), ← hσ4, gI_I, if_neg (by omega), ← hσ3, gI_I, if_neg (by omega), ← hσ2, gI_I, if_pos rfl, if_pos rfl]; rfl
  · rw [gI_I, if_neg (by omega), E5 _ _ (by omega), ← hσ4, gI_I, if_neg (by omega), ← hσ3, gI_I, if_pos rfl, if_pos rfl]; rfl
  · rw [gI_I, if_neg (by omega), E5 _ _ (by omega), ← hσ4, gI_I, if_pos rfl, if_pos rfl]; show (0 : Int32) = bm (fun _ => false) 32; decide +kernel
  · rw [gI_I, if_neg (by omega)]
    exact v5 _ (by omega) (by omega)
end CL
