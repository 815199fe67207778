/-! ===== plans, the class's ===== -/
theorem B32.e0 {v : Int32} {f : Nat → Bool} (h : B32 v f) : v = 0 ↔ ∀ i, i < 32 → f i = false := by
  constructor
  · intro z i hi; rw [← h i hi, z, b_0]
  · intro z; exact b_ext (fun i hi => by rw [h i hi, z i hi, b_0])
/-- a grammar with its levels, as plans read it -/
def CX (σ : ab_S) (g : Nat) (Γ : GRT) : Prop := isG g ∧ σ.2.2.2 11 7 = some g ∧ CGr σ g Γ ∧ CLs σ g Γ
def Spl (p B : Nat) : Nat → Nat → Bool := fun a i => decide ((a = 11 ∧ 8 ≤ i ∧ i ≤ 10) ∨ (12 ≤ a ∧ a ≤ 14 ∧ B ≤ i) ∨ (a = 15 ∧ p * 7 ≤ i ∧ i < p * 7 + 7) ∨ (a = 16 ∧ p * 32 ≤ i ∧ i < p * 32 + 32) ∨ (a = 17 ∧ p * 28 ≤ i ∧ i < p * 28 + 28) ∨ a = 18)
theorem CGr.fm {S : Nat → Nat → Bool} {σ σ' : ab_S} {g : Nat} {Γ : GRT} (hC : CGr σ g Γ) (hV : GRV Γ) (f : FM S σ σ') (e : ∀ k i, k ≤ 14 → S (g + k) i = false) : CGr σ' g Γ := by
  refine ⟨hC.1.fm f (e 0 _ (by omega)) (fun i => e 1 _ (by omega)) (fun i => e 2 _ (by omega)) (fun i => e 3 _ (by omega)) (fun i => e 4 _ (by omega)), by rw [f.1 g 5 (e 0 _ (by omega))]; exact hC.2.1, by rw [f.1 g 14 (e 0 _ (by omega))]; exact hC.2.2.1, fun p hp => ?_⟩
  have hpv := (hV.2.2.2 p hp).2.1
  exact (hC.2.2.2 p hp).keep (lc := Γ.2.2.2.2) f (by have := hpv.1; omega) (e 5 _ (by omega)) (e 6 _ (by omega)) (fun o _ => e 7 _ (by omega)) (e 8 _ (by omega)) (e 9 _ (by omega)) (fun x _ => e 10 _ (by omega)) (fun x _ => e 11 _ (by omega)) (fun x _ => e 12 _ (by omega)) (Kc.fm f (fun i => e 13 _ (by omega)) (fun i => e 14 _ (by omega))) (fun x hx => (hpv.2.2 x hx).2.2.2.1)
theorem CX.fm {S : Nat → Nat → Bool} {σ σ' : ab_S} {g : Nat} {Γ : GRT} (h : CX σ g Γ) (hV : GRV Γ) (f : FM S σ σ') (e : ∀ k i, k ≤ 17 → S (g + k) i = false) (e7 : S 11 7 = false) : CX σ' g Γ := by
  obtain ⟨a, b, c, d⟩ := h
  exact ⟨a, by rw [f.2.2 11 7 e7]; exact b, c.fm hV f (fun k i hk => e k i (by omega)), fun s hs => ⟨fun x hx => by rw [f.1 _ _ (e 16 _ (by omega))]; exact (d s hs).1 x hx, by rw [f.1 _ _ (e 17 _ (by omega))]; exact (d s hs).2⟩⟩
theorem CX.pl {σ σ' : ab_S} {g p B : Nat} {Γ : GRT} (h : CX σ g Γ) (hV : GRV Γ) (f : FM (Spl p B) σ σ') : CX σ' g Γ := by
  have := isG_b h.1
  exact h.fm hV f (fun k i hk => decide_eq_false (by omega)) (decide_eq_false (by omega))
def Spe (p B : Nat) : Nat → Nat → Bool := fun a i => decide ((a = 11 ∧ 8 ≤ i ∧ i ≤ 10) ∨ (12 ≤ a ∧ a ≤ 14 ∧ B ≤ i) ∨ (a = 16 ∧ p * 32 ≤ i ∧ i < p * 32 + 32) ∨ (a = 17 ∧ p * 28 ≤ i ∧ i < p * 28 + 28) ∨ a = 18)
theorem Spe_Spl {p B : Nat} : ∀ a i, Spl p B a i = false → Spe p B a i = false := fun a i y => by have y := of_decide_eq_false y; exact decide_eq_false (by omega)
theorem CX.pe {σ σ' : ab_S} {g p B : Nat} {Γ : GRT} (h : CX σ g Γ) (hV : GRV Γ) (f : FM (Spe p B) σ σ') : CX σ' g Γ := h.pl hV (f.mono Spe_Spl)
section CL
variable {σ : ab_S} {g p B v : Nat} {Γ : GRT} {T : PLT} {E : String → ab_S → Prop}
theorem c_vOf (hX : CX σ g Γ) (hV : GRV Γ) (hL : LVF Γ) {s a : Nat} (hs : s < Γ.1.1) (ha : a < Γ.1.2.2.1 s) {Q : Int32 → ab_S → Prop} (h : Q (nI (vOf Γ s a)) σ) : wX0_visitOf g (nI s) (nI a) Q E σ := by
  have h12 := hV.1.1
  have h8 := (hV.1.2.2 s hs).2.1
  have hv := hL.vof s hs a ha
  have e8 : nI s * 8 + nI a = nI (s * 8 + a) := by show nI s * nI 8 + _ = _; rw [nI_mulE, nI_add]
  unfold wX0_visitOf
  rw [e8, nI_clampE (show s < 2147483648 by omega), nI_clampE (show s * 8 + a < 2147483648 by omega), (hX.2.2.2 s hs).2, (hX.2.2.2 s hs).1 a ha, nI_1, nI_1, i_div2 _ (by omega)]
  refine ⟨by simp (disch := omega) only [nI_lit, nI_add, nI_mulE, nI_clampE, nI_eqE, nI_leE, nI_ltE, vp_nIE, true_and, and_true]; omega, by simp (disch := omega) only [nI_lit, nI_add, nI_mulE, nI_clampE, nI_eqE, nI_leE, nI_ltE, vp_nIE, true_and, and_true]; omega, ?_⟩
  have hle : (slv Γ s a + 1) / 2 ≤ svs Γ s + 1 := by have := hv.1; unfold vOf at this; omega
  rw [nI_subE hle]
  exact h
theorem c_inV (hX : CX σ g Γ) (hV : GRV Γ) (hL : LVF Γ) {s w : Nat} (hs : s < Γ.1.1) (hw : w < 100) {Q : Int32 → ab_S → Prop} (h : ∀ x, B32 x (inV Γ s w) → Q x σ) : wX0_inVisit g (nI s) (nI w) Q E σ := by
  have h12 := hV.1.1
  have h8 := (hV.1.2.2 s hs).2.1
  have hcn := (hX.2.2.1.1.2 s hs).2.1
  refine ⟨Γ.1.2.2.1 s + 1, ?_⟩
  suffices H : ∀ f b x, Γ.1.2.2.1 s - b = f → b ≤ Γ.1.2.2.1 s → B32 x (fun c => decide (c < b) && inV Γ s w c) → wX0_inVisit_l5 g (nI s) (nI w) Q E (f + 1) x (nI b) σ from H _ 0 0 rfl (Nat.zero_le _) (B32.z.cg (fun i _ => by rw [decide_eq_false (Nat.not_lt_zero i)]; rfl))
  intro f
  induction f with
  | zero =>
    intro b x hf hb hx
    show wX0_inVisit_l5_b _ _ _ _ _ _ _ _ _
    unfold wX0_inVisit_l5_b
    rw [nI_clampE (by omega), hcn]
    refine ⟨by simp (disch := omega) only [nI_lit, nI_add, nI_mulE, nI_clampE, nI_eqE, nI_leE, nI_ltE, vp_nIE, true_and, and_true]; omega, yes (by simp (disch := omega) only [nI_lit, nI_add, nI_mulE, nI_clampE, nI_eqE, nI_leE, nI_ltE, vp_nIE, true_and, and_true]; omega) (h x (hx.cg (fun i _ => ?_)))⟩
    by_cases z : i < b
    · rw [decide_eq_true z, Bool.true_and]
    · rw [decide_eq_false z, Bool.false_and]
      unfold inV
      exact (decide_eq_false (fun q => z (by have := q.1; omega))).symm
  | succ f ih =>
    intro b x hf hb hx
    show wX0_inVisit_l5_b g (nI s) (nI w) Q E (wX0_inVisit_l5 g (nI s) (nI w) Q E (f + 1)) x (nI b) σ
    unfold wX0_inVisit_l5_b
    rw [nI_clampE (by omega), hcn]
    refine ⟨by simp (disch := omega) only [nI_lit, nI_add, nI_mulE, nI_clampE, nI_eqE, nI_leE, nI_ltE, vp_nIE, true_and, and_true]; omega, no (by simp (disch := omega) only [nI_lit, nI_add, nI_mulE, nI_clampE, nI_eqE, nI_leE, nI_ltE, vp_nIE, true_and, and_true]; omega) ?_⟩
    refine c_vOf hX hV hL hs (by omega) ?_
    have hvb := hL.vof s hs b (by omega)
    have hv5 := (hL.vis s hs).2
    by_cases e : vOf Γ s b = w
    · refine no (fun z => z (by rw [e])) (fe ?_)
      unfold wX0_inVisit_j34
      rw [nI_1]
      refine fe (ih (b + 1) _ (by omega) (by omega) ((hx.or (B32.one (s := b) (by omega))).cg (fun i _ => ?_)))
      by_cases ei : i = b
      · subst ei
        rw [decide_eq_true (show i = i from rfl), Bool.or_true, decide_eq_true (show i < i + 1 by omega), Bool.true_and]
        unfold inV
        exact (decide_eq_true ⟨by omega, e⟩).symm
      · rw [decide_eq_false ei, Bool.or_false]
        congr 1
        rw [decide_eq_decide]; omega
    · refine yes (by simp (disch := omega) only [nI_lit, nI_add, nI_mulE, nI_clampE, nI_eqE, nI_leE, nI_ltE, vp_nIE, true_and, and_true]; exact e) ?_
      unfold wX0_inVisit_j34
      rw [nI_1]
      refine fe (ih (b + 1) x (by omega) (by omega) (hx.cg (fun i _ => ?_)))
      by_cases ei : i = b
      · subst ei
        rw [decide_eq_false (show ¬ i < i by omega), decide_eq_true (show i < i + 1 by omega), Bool.true_and, Bool.false_and]
        unfold inV
        exact (decide_eq_false (fun q => e q.2)).symm
      · congr 1
        rw [decide_eq_decide]; omega
theorem dnB (hX : CX σ g Γ) (hV : GRV Γ) {s : Nat} (hs : s < Γ.1.1) : B32 (σ.2.1 (g + 3) s) (fun a => decide (a < Γ.1.2.2.1 s) && Γ.1.2.2.2.1 s a) := by
  have h8 := (hV.1.2.2 s hs).2.1
  rw [(hX.2.2.1.1.2 s hs).2.2.1]
  exact fun i hi => bm_bt (by omega) hi
theorem c_dns (hX : CX σ g Γ) (hV : GRV Γ) (hL : LVF Γ) {s w : Nat} (hs : s < Γ.1.1) (hw : w < 100) {Q : Int32 → ab_S → Prop} (h : ∀ x, B32 x (fun a => inV Γ s w a && (Γ.1.2.2.2.1 s a == true)) → Q x σ) : wX0_downs g (nI s) (nI w) Q E σ := by
  have h12 := hV.1.1
  unfold wX0_downs
  refine c_inV hX hV hL hs hw (fun x hx => ?_)
  rw [nI_clampE (by omega)]
  refine ⟨by simp (disch := omega) only [nI_lit, nI_add, nI_mulE, nI_clampE, nI_eqE, nI_leE, nI_ltE, vp_nIE, true_and, and_true]; omega, h _ ((hx.and (dnB hX hV hs)).cg (fun i _ => ?_))⟩
  unfold inV
  by_cases z : i < Γ.1.2.2.1 s
  · rw [decide_eq_true z, Bool.true_and]; cases Γ.1.2.2.2.1 s i <;> rfl
  · rw [decide_eq_false (show ¬ (i < Γ.1.2.2.1 s ∧ vOf Γ s i = w) from fun q => z q.1)]; rfl
theorem c_ups (hX : CX σ g Γ) (hV : GRV Γ) (hL : LVF Γ) {s w : Nat} (hs : s < Γ.1.1) (hw : w < 100) {Q : Int32 → ab_S → Prop} (h : ∀ x, B32 x (fun a => inV Γ s w a && (Γ.1.2.2.2.1 s a == false)) → Q x σ) : wX0_ups g (nI s) (nI w) Q E σ := by
  have h12 := hV.1.1
  unfold wX0_ups
  refine c_inV hX hV hL hs hw (fun x hx => ?_)
  rw [nI_clampE (by omega)]
  refine ⟨by simp (disch := omega) only [nI_lit, nI_add, nI_mulE, nI_clampE, nI_eqE, nI_leE, nI_ltE, vp_nIE, true_and, and_true]; omega, h _ ((hx.andn (dnB hX hV hs)).cg (fun i _ => ?_))⟩
  unfold inV
  by_cases z : i < Γ.1.2.2.1 s
  · rw [decide_eq_true z, Bool.true_and]; cases Γ.1.2.2.2.1 s i <;> rfl
  · rw [decide_eq_false (show ¬ (i < Γ.1.2.2.1 s ∧ vOf Γ s i = w) from fun q => z q.1)]; rfl
/-- eight bits set in their occurrence -/
theorem addV_b {th : Nat → Bool} {t8 : Int32} {o w : Nat} {d : Bool} {y x : Int32} (ho : o < 4) (h8 : Γ.1.2.2.1 ((Γ.2.2.1 p).2.2.1 o) ≤ 8) (ht : B32 y th) (hx : B32 x (fun a => inV Γ ((Γ.2.2.1 p).2.2.1 o) w a && (Γ.1.2.2.2.1 ((Γ.2.2.1 p).2.2.1 o) a == d))) : B32 (y ||| (x <<< (nI (8 * o) &&& 31))) (addV Γ p o w d th) := by
  refine (ht.or (hx.shl ho)).cg (fun i hi => ?_)
  unfold addV
  congr 1
  by_cases z : i / 8 = o
  · rw [decide_eq_true (show 8 * o ≤ i by omega), decide_eq_true z, show i - 8 * o = i % 8 by omega]
  · rw [decide_eq_false z, Bool.false_and]
    by_cases w' : 8 * o ≤ i
    · rw [decide_eq_true w', Bool.true_and]
      unfold inV
      rw [decide_eq_false (show ¬ (i - 8 * o < Γ.1.2.2.1 ((Γ.2.2.1 p).2.2.1 o) ∧ vOf Γ ((Γ.2.2.1 p).2.2.1 o) (i - 8 * o) = w) from fun q => by have := q.1; omega)]
      rfl
    · rw [decide_eq_false w', Bool.false_and]
/-- the class while it makes the plan of p -/
def CPl (σ : ab_S) (B p : Nat) (T : PLT) : Prop := σ.2.1 11 8 = nI (B + T.es.length) ∧ B32 (σ.2.1 11 9) T.th ∧ B32 (σ.2.1 11 10) T.ev ∧ (∀ o, o < 4 → σ.2.1 18 o = nI (T.vs o)) ∧ (∀ i, i < T.es.length → σ.2.1 12 (B + i) = nI (T.es.getD i (0, 0, 0)).1 ∧ σ.2.1 13 (B + i) = nI (T.es.getD i (0, 0, 0)).2.1 ∧ σ.2.1 14 (B + i) = nI (T.es.getD i (0, 0, 0)).2.2) ∧ (∀ x, x < 32 → T.ev x = true → σ.2.1 16 (p * 32 + x) = nI (B + T.ea x)) ∧ ∀ o w, o < 4 → 1 ≤ w → w ≤ T.vs o → σ.2.1 17 ((p * 4 + o) * 7 + w) = nI (B + T.va o w)
/-- an entry added -/
theorem c_padd (hB : B + T.es.length < 1410) (h8 : σ.2.1 11 8 = nI (B + T.es.length)) {a w : Nat} {Q : ab_S → Prop} (h : ∀ τ, FM (fun x i => decide ((x = 11 ∧ i = 8) ∨ (12 ≤ x ∧ x ≤ 14 ∧ i = B + T.es.length))) σ τ → τ.2.1 11 8 = nI (B + T.es.length + 1) → τ.2.1 12 (B + T.es.length) = nI a → τ.2.1 13 (B + T.es.length) = nI v → τ.2.1 14 (B + T.es.length) = nI w → Q τ) : wX4_add (nI a) (nI v) (nI w) Q E σ := by
  have ec : (nI (B + T.es.length)).toNatClampNeg = B + T.es.length := nI_clampE (by omega)
  have ev : vp_in (nI (B + T.es.length)) 1410 := by simp (disch := omega) only [nI_lit, nI_add, nI_mulE, nI_clampE, nI_eqE, nI_leE, nI_ltE, vp_nIE, true_and, and_true]; omega
  unfold wX4_add
  rw [h8, ec]
  refine no (by simp (disch := omega) only [nI_lit, nI_add, nI_mulE, nI_clampE, nI_eqE, nI_leE, nI_ltE, vp_nIE, true_and, and_true]; omega) ⟨ev, fe ?_⟩
  rw [show (ab_I σ 12 (B + T.es.length) (nI a)).2.1 11 8 = nI (B + T.es.length) by simp [gI_I, h8], ec]
  refine ⟨ev, fe ?_⟩
  rw [show (ab_I (ab_I σ 12 (B + T.es.length) (nI a)) 13 (B + T.es.length) (nI v)).2.1 11 8 = nI (B + T.es.length) by simp [gI_I, h8], ec]
  refine ⟨ev, fe ?_⟩
  rw [show (ab_I (ab_I (ab_I σ 12 (B + T.es.length) (nI a)) 13 (B + T.es.length) (nI v)) 14 (B + T.es.length) (nI w)).2.1 11 8 = nI (B + T.es.length) by simp [gI_I, h8], nI_1]
  exact fe (h _ ((((((FM.rf _ σ).I (by simp)).I (by simp)).I (by simp)).I (by simp))) (by simp [gI_I]) (by simp [gI_I]) (by simp [gI_I]) (by simp [gI_I]))
theorem plEs_I (hV : GRV Γ) (hp : p < Γ.2.1) (h : plI Γ p T) (k : Nat) : plI Γ p (plEs Γ p v k T) := plI_Es hV hp k h
theorem rdy_i {x : Nat} {th : Nat → Bool} : rdy Γ p x th = true ↔ (Γ.2.2.1 p).2.2.2.2.1 x = true ∧ ∀ y, y < 32 → nmd Γ p x y = true → th y = true := by
  unfold rdy
  rw [Bool.and_eq_true, List.all_eq_true]
  constructor
  · rintro ⟨a, b⟩
    refine ⟨a, fun y hy hn => ?_⟩
    have := b y (List.mem_range.mpr hy)
    rw [hn] at this
    exact this
  · rintro ⟨a, b⟩
    refine ⟨a, fun y hy => ?_⟩
    cases hn : nmd Γ p x y
    · rfl
    · rw [b y (List.mem_range.mp hy) hn]; rfl
theorem c_evR (hV : GRV Γ) (hL : LVF Γ) (hp : p < Γ.2.1) (hX : CX σ g Γ) (hBp : B ≤ 47 * p) (hI : plI Γ p T) (hC : CPl σ B p T) {Q : ab_S → Prop} (h : ∀ τ, FM (Spe p B) σ τ → CPl τ B p (plEs Γ p v 32 T) → Q τ) : wX4_evaluateReady (nI p) (nI v) Q E σ := by
  have h30 := hV.2.1
  have hgb := isG_b hX.1
  refine ⟨33, ?_⟩
  suffices H : ∀ f x τ, 32 - x = f → x ≤ 32 → FM (Spe p B) σ τ → CPl τ B p (plEs Γ p v x T) → wX4_evaluateReady_l2 (nI p) (nI v) Q E (f + 1) (nI x) τ from H 32 0 σ rfl (by omega) (FM.rf _ _) hC
  intro f
  induction f with
  | zero =>
    intro x τ hf hx hF hc
    have e : x = 32 := by omega
    subst e
    exact yes (by simp (disch := omega) only [nI_lit, nI_add, nI_mulE, nI_clampE, nI_eqE, nI_leE, nI_ltE, vp_nIE, true_and, and_true]; omega) (h τ hF hc)
  | succ f ih =>
    intro x τ hf hx hF hc
    have X1 := hX.pe hV hF
    have I1 := plEs_I (v := v) hV hp hI x
    have hcp := X1.2.2.1.2.2.2 p hp
    have h47 := plI_47 I1
    generalize hT1 : plEs Γ p v x T = T1 at hc I1 h47
    have hcc := hc
    obtain ⟨c1, c2, c3, c4, c5, c6, c7⟩ := hc
    have evp : vp_in (nI p) 30 := by simp (disch := omega) only [nI_lit, nI_add, nI_mulE, nI_clampE, nI_eqE, nI_leE, nI_ltE, vp_nIE, true_and, and_true]; omega
    have ecp : (nI p).toNatClampNeg = p := nI_clampE (by omega)
    have e32 : nI p * 32 + nI x = nI (p * 32 + x) := by show nI p * nI 32 + _ = _; rw [nI_mulE, nI_add]
    have ev32 : vp_in (nI (p * 32 + x)) 960 := by simp (disch := omega) only [nI_lit, nI_add, nI_mulE, nI_clampE, nI_eqE, nI_leE, nI_ltE, vp_nIE, true_and, and_true]; omega
    have ec32 : (nI (p * 32 + x)).toNatClampNeg = p * 32 + x := nI_clampE (by omega)
    show wX4_evaluateReady_l2_b (nI p) (nI v) Q E (wX4_evaluateReady_l2 (nI p) (nI v) Q E (f + 1)) (nI x) τ
    unfold wX4_evaluateReady_l2_b
    refine no (by simp (disch := omega) only [nI_lit, nI_add, nI_mulE, nI_clampE, nI_eqE, nI_leE, nI_ltE, vp_nIE, true_and, and_true]; omega) (fe ⟨g, X1.2.1, X1.1, ?_⟩)
    rw [ecp, hcp.2.2.2.2.1]
    refine ⟨evp, ?_⟩
    have hone := B32.one (s := x) (by omega)
    have hw0 := (((B32.bm (f := (Γ.2.2.1 p).2.2.2.2.1)).andn c3).and hone).e0
    have skip : ¬ (rdy Γ p x T1.th = true ∧ T1.ev x = false) → wX4_evaluateReady_j129 (nI p) (nI v) Q E (wX4_evaluateReady_l2 (nI p) (nI v) Q E (f + 1)) (nI x) τ := by
      intro hno
      unfold wX4_evaluateReady_j129
      rw [nI_1]
      have e : plEs Γ p v (x + 1) T = T1 := by rw [plEs, hT1]; unfold plE; rw [if_neg hno]
      exact fe (ih (x + 1) τ (by omega) (by omega) hF (by rw [e]; exact hcc))
    by_cases hd : (Γ.2.2.1 p).2.2.2.2.1 x = true ∧ T1.ev x = false
    · refine no (fun z => ?_) ?_
      · have := hw0.mp z x (by omega)
        rw [hd.1, hd.2, decide_eq_true rfl] at this
        exact absurd this (by decide)
      · unfold wX4_evaluateReady_j40
        rw [e32, ec32]
        refine no (by decide) ⟨g, X1.2.1, X1.1, ev32, ?_⟩
        have hnm : B32 (τ.2.1 (g + 10) (p * 32 + x)) (nmd Γ p x) := by
          rw [((hcp.2.2.2.2.2 x (by omega)).1 hd.1).2.2.1]
          refine (nmF_b _ 0 _ B32.z (nmd_32 hV hp hd.1)).cg (fun i _ => ?_)
          rw [nmd_A, hd.1, Bool.true_and, Bool.false_or]
        have hnew := hnm.new c2
        by_cases hr : ∀ i, i < 32 → nmd Γ p x i = true → T1.th i = true
        · refine no (fun z => z (hnew.mpr hr)) (fe (fe ⟨ev32, fe ?_⟩))
          have hrd : rdy Γ p x T1.th = true ∧ T1.ev x = false := ⟨rdy_i.mpr ⟨hd.1, hr⟩, hd.2⟩
          have e : plEs Γ p v (x + 1) T = (uf T1.th x true, uf T1.ev x true, T1.vs, T1.es ++ [(enc x, v, 0)], uf T1.ea x T1.es.length, T1.va) := by rw [plEs, hT1]; unfold plE; rw [if_pos hrd]
          have h46 : T1.es.length ≤ 46 := by
            have I2 := plI_47 (plEs_I (v := v) hV hp hI (x + 1))
            rw [e] at I2
            have I2 : (T1.es ++ [(enc x, v, 0)]).length ≤ 47 := I2
            rw [List.length_append, List.length_singleton] at I2; omega
          generalize hτ1 : ab_I (ab_I (ab_I τ 11 10 (τ.2.1 11 10 ||| (1 : Int32) <<< (nI x &&& 31))) 11 9 ((ab_I τ 11 10 (τ.2.1 11 10 ||| (1 : Int32) <<< (nI x &&& 31))).2.1 11 9 ||| (1 : Int32) <<< (nI x &&& 31))) 16 (p * 32 + x) ((ab_I (ab_I τ 11 10 (τ.2.1 11 10 ||| (1 : Int32) <<< (nI x &&& 31))) 11 9 ((ab_I τ 11 10 (τ.2.1 11 10 ||| (1 : Int32) <<< (nI x &&& 31))).2.1 11 9 ||| (1 : Int32) <<< (nI x &&& 31))).2.1 11 8) = τ1
          have F1 : FM (fun a i => decide ((a = 11 ∧ (i = 9 ∨ i = 10)) ∨ (a = 16 ∧ i = p * 32 + x))) τ τ1 := by
            rw [← hτ1]; exact (((FM.rf _ τ).I (by simp)).I (by simp)).I (by simp)
          have w10 : τ1.2.1 11 10 = τ.2.1 11 10 ||| (1 : Int32) <<< (nI x &&& 31) := by rw [← hτ1]; simp [gI_I]
          have w9 : τ1.2.1 11 9 = τ.2.1 11 9 ||| (1 : Int32) <<< (nI x &&& 31) := by rw [← hτ1]; simp [gI_I]
          have w16 : τ1.2.1 16 (p * 32 + x) = nI (B + T1.es.length) := by rw [← hτ1, gI_I, if_pos rfl, if_pos rfl]; simp [gI_I]; exact c1
          have w8 : τ1.2.1 11 8 = nI (B + T1.es.length) := by rw [F1.1 _ _ (decide_eq_false (by omega))]; exact c1
          have ent : (10 : Int32) + 10 * (nI x / 8) + (nI x - nI x / 8 * 8) = nI (enc x) := by
            have : ∀ x, x < 32 → (10 : Int32) + 10 * (nI x / 8) + (nI x - nI x / 8 * 8) = nI (10 + 10 * (x / 8) + x % 8) := by decide +kernel
            exact this x (by omega)
          rw [ent]
          refine c_padd (T := T1) (v := v) (a := enc x) (w := 0) (by omega) w8 (fun τ2 F2 v8 v12 v13 v14 => ?_)
          unfold wX4_evaluateReady_j129
          rw [nI_1]
          have F12 : FM (Spe p B) τ τ2 := (F1.mono (fun a i y => by have y := of_decide_eq_false y; exact decide_eq_false (by omega))).tr (F2.mono (fun a i y => by have y := of_decide_eq_false y; exact decide_eq_false (by omega)))
          refine fe (ih (x + 1) τ2 (by omega) (by omega) (hF.tr F12) ?_)
          rw [e]
          refine ⟨?_, ?_, ?_, fun o ho => ?_, fun i hi => ?_, fun y hy hey => ?_, fun o w ho w1 w2 => ?_⟩
          · rw [v8]; show _ = nI (B + (T1.es ++ [(enc x, v, 0)]).length); rw [List.length_append]; rfl
          · rw [F2.1 _ _ (decide_eq_false (by omega)), w9]
            refine (c2.or hone).cg (fun i _ => ?_)
            show _ = uf T1.th x true i
            by_cases ei : i = x
            · rw [ei, uf_s, decide_eq_true rfl, Bool.or_true]
            · rw [uf_o _ _ ei, decide_eq_false ei, Bool.or_false]
          · rw [F2.1 _ _ (decide_eq_false (by omega)), w10]
            refine (c3.or hone).cg (fun i _ => ?_)
            show _ = uf T1.ev x true i
            by_cases ei : i = x
            · rw [ei, uf_s, decide_eq_true rfl, Bool.or_true]
            · rw [uf_o _ _ ei, decide_eq_false ei, Bool.or_false]
          · rw [F2.1 _ _ (decide_eq_false (by omega)), F1.1 _ _ (decide_eq_false (by omega))]; exact c4 o ho
          · have hi : i < (T1.es ++ [(enc x, v, 0)]).length := hi
            rw [List.length_append, List.length_singleton] at hi
            show _ = nI ((T1.es ++ [(enc x, v, 0)]).getD i (0, 0, 0)).1 ∧ _ = nI ((T1.es ++ [(enc x, v, 0)]).getD i (0, 0, 0)).2.1 ∧ _ = nI ((T1.es ++ [(enc x, v, 0)]).getD i (0, 0, 0)).2.2
            by_cases ei : i = T1.es.length
            · subst ei
              rw [ge_e]; exact ⟨v12, v13, v14⟩
            · rw [ge_l (by omega), F2.1 _ _ (decide_eq_false (by omega)), F2.1 _ _ (decide_eq_false (by omega)), F2.1 _ _ (decide_eq_false (by omega)), F1.1 _ _ (decide_eq_false (by omega)), F1.1 _ _ (decide_eq_false (by omega)), F1.1 _ _ (decide_eq_false (by omega))]
              exact c5 i (by omega)
          · have hey : uf T1.ev x true y = true := hey
            show _ = nI (B + uf T1.ea x T1.es.length y)
            rw [F2.1 _ _ (decide_eq_false (by omega))]
            by_cases ey : y = x
            · subst ey; rw [uf_s]; exact w16
            · rw [uf_o _ _ ey] at hey ⊢
              rw [F1.1 _ _ (decide_eq_false (by omega))]; exact c6 y hy hey
          · rw [F2.1 _ _ (decide_eq_false (by omega)), F1.1 _ _ (decide_eq_false (by omega))]; exact c7 o w ho w1 w2
        · refine yes (fun z => hr (hnew.mp z)) (skip (fun q => hr (rdy_i.mp q.1).2))
    · refine yes ?_ ?_
      · refine hw0.mpr (fun i hi => ?_)
        by_cases ei : i = x
        · rw [ei]
          cases h1 : (Γ.2.2.1 p).2.2.2.2.1 x
          · rfl
          · cases h2 : T1.ev x
            · exact absurd ⟨h1, h2⟩ hd
            · rfl
        · rw [decide_eq_false ei, Bool.and_false]
      · unfold wX4_evaluateReady_j40
        exact yes rfl (skip (fun q => hd ⟨(rdy_i.mp q.1).1, q.2⟩))
end CL
