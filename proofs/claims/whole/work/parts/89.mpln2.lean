/-! ===== plans, the model's: a round ===== -/
def plJ (T : PLT) : Prop := ∀ i, i < T.es.length → 1 ≤ (T.es.getD i (0, 0, 0)).2.1 ∧ (T.es.getD i (0, 0, 0)).2.1 ≤ 5
theorem plJ_app {T : PLT} {T' : PLT} {a v w : Nat} (h : plJ T) (e : T'.es = T.es ++ [(a, v, w)]) (h1 : 1 ≤ v) (h5 : v ≤ 5) : plJ T' := by
  intro i hi
  rw [e] at hi ⊢
  rw [List.length_append, List.length_singleton] at hi
  by_cases ei : i = T.es.length
  · rw [ei, ge_e]; exact ⟨h1, h5⟩
  · rw [ge_l (by omega)]; exact h i (by omega)
section PJ
variable {Γ : GRT} {p v : Nat}
theorem plJ_E {T : PLT} (x : Nat) (h : plJ T) (h1 : 1 ≤ v) (h5 : v ≤ 5) : plJ (plE Γ p v x T) := by
  unfold plE
  split
  · exact plJ_app h rfl h1 h5
  · exact h
theorem plJ_V {T : PLT} (o : Nat) (h : plJ T) (h1 : 1 ≤ v) (h5 : v ≤ 5) : plJ (plV Γ p v o T) := by
  unfold plV
  split
  · exact plJ_app h rfl h1 h5
  · exact h
theorem plJ_Es (h1 : 1 ≤ v) (h5 : v ≤ 5) : ∀ k {T : PLT}, plJ T → plJ (plEs Γ p v k T)
  | 0, _, h => h
  | k + 1, _, h => plJ_E k (plJ_Es h1 h5 k h) h1 h5
theorem plJ_Vs (h1 : 1 ≤ v) (h5 : v ≤ 5) : ∀ k {T : PLT}, plJ T → plJ (plVs Γ p v k T)
  | 0, _, h => h
  | k + 1, _, h => plJ_V (k + 1) (plJ_Vs h1 h5 k h) h1 h5
theorem plJ_L (h1 : 1 ≤ v) (h5 : v ≤ 5) : ∀ f {T : PLT}, plJ T → plJ (plL Γ p v f T)
  | 0, _, h => h
  | f + 1, T, h => by
    have hr : plJ (plR Γ p v T) := plJ_Vs h1 h5 _ (plJ_Es h1 h5 32 h)
    rw [plL]
    split
    · exact plJ_L h1 h5 f hr
    · exact hr
theorem plJ_A : ∀ v, v ≤ 5 → plJ (plA Γ p v pl0)
  | 0, _ => fun i hi => absurd hi (Nat.not_lt_zero _)
  | v + 1, h => plJ_L (by omega) h 48 (T := plD Γ p (v + 1) (plA Γ p v pl0)) (plJ_A v (by omega))
theorem plE_len {T : PLT} (x : Nat) : T.es.length ≤ (plE Γ p v x T).es.length := by
  unfold plE
  split
  · show T.es.length ≤ (T.es ++ [(enc x, v, 0)]).length
    rw [List.length_append]; omega
  · exact Nat.le_refl _
theorem plV_len {T : PLT} (o : Nat) : T.es.length ≤ (plV Γ p v o T).es.length := by
  unfold plV
  split
  · show T.es.length ≤ (T.es ++ [(o, v, T.vs o + 1)]).length
    rw [List.length_append]; omega
  · exact Nat.le_refl _
theorem plEs_len {T : PLT} : ∀ k, T.es.length ≤ (plEs Γ p v k T).es.length
  | 0 => Nat.le_refl _
  | k + 1 => Nat.le_trans (plEs_len k) (plE_len k)
theorem plVs_len {T : PLT} : ∀ k, T.es.length ≤ (plVs Γ p v k T).es.length
  | 0 => Nat.le_refl _
  | k + 1 => Nat.le_trans (plVs_len k) (plV_len (k + 1))
/-- slots that there are not -/
theorem plEs_skip {T : PLT} {z z' : Nat} (hz : z ≤ z') (h : ∀ x, z ≤ x → x < z' → (Γ.2.2.1 p).2.2.2.2.1 x = false) : plEs Γ p v z' T = plEs Γ p v z T := by
  obtain ⟨d, rfl⟩ : ∃ d, z' = z + d := ⟨z' - z, by omega⟩
  clear hz
  induction d with
  | zero => rfl
  | succ d ih =>
    rw [← Nat.add_assoc, plEs, ih (fun x a b => h x a (by omega))]
    unfold plE
    rw [if_neg (fun q => by have := (rdy_i.mp q.1).1; rw [h (z + d) (by omega) (by omega)] at this; exact absurd this Bool.false_ne_true)]
end PJ
def Spm (p B : Nat) : Nat → Nat → Bool := fun a i => decide ((a = 92 ∧ i = 28) ∨ (a = 113 ∧ B ≤ i) ∨ ((a = 116 ∨ a = 117) ∧ 32 * p ≤ i ∧ i < 32 * p + 32) ∨ ((a = 118 ∨ a = 119) ∧ 24 * p ≤ i ∧ i < 24 * p + 24) ∨ a = 120 ∨ a = 121)
theorem MXg.pm {σ σ' : ab_S} {Γ : GRT} {p B : Nat} (h : MXg σ Γ) (hV : GRV Γ) (f : FM (Spm p B) σ σ') : MXg σ' Γ := h.fm hV f ⟨decide_eq_false (by omega), decide_eq_false (by omega), decide_eq_false (by omega)⟩ (fun a i h1 h2 => decide_eq_false (by omega))
/-- the model while it makes the plan of p -/
def MPl (σ : ab_S) (B p : Nat) (T : PLT) : Prop := σ.2.1 92 28 = nI (B + T.es.length) ∧ MTh σ T.th ∧ (∀ o, o < 4 → σ.2.1 121 o = nI (T.vs o)) ∧ (∀ i, i < T.es.length → σ.2.1 113 (B + i) = nI (T.es.getD i (0, 0, 0)).1) ∧ (∀ x, x < 32 → σ.2.1 116 (32 * p + x) = nI (if T.ev x then (T.es.getD (T.ea x) (0, 0, 0)).2.1 else 0)) ∧ (∀ x, x < 32 → T.ev x = true → σ.2.1 117 (32 * p + x) = nI (B + T.ea x)) ∧ (∀ o w, o < 4 → w < 6 → σ.2.1 118 (24 * p + 6 * o + w) = nI (if 1 ≤ w ∧ w ≤ T.vs o then (T.es.getD (T.va o w) (0, 0, 0)).2.1 else 0)) ∧ ∀ o w, o < 4 → 1 ≤ w → w ≤ T.vs o → σ.2.1 119 (24 * p + 6 * o + w) = nI (B + T.va o w)
section ML
variable {σ : ab_S} {p B v : Nat} {Γ : GRT} {T : PLT} {E : String → ab_S → Prop}
theorem m_come (hX : MXg σ Γ) (hV : GRV Γ) (hL : LVF Γ) (hp : p < Γ.2.1) {k w : Nat} (hk : k ≤ (Γ.2.2.1 p).2.1) (hw : w < 100) (d : Bool) {th : Nat → Bool} (hT : MTh σ th) {Q : ab_S → Prop} (h : ∀ τ, FM (fun a _ => decide (a = 120)) σ τ → MTh τ (addV Γ p k w d th) → Q τ) : wX12_comes (nI p) (nI k) (nI w) (if d then 1 else 0) Q E σ := by
  have h30 := hV.2.1
  have h12 := hV.1.1
  have hpv := (hV.2.2.2 p hp).2.1
  have h3 := hpv.1
  have hs := hpv.2.1 k hk
  have c8 := (hV.1.2.2 _ hs).2.1
  have hvis := hL.vis _ hs
  have hoc := (hX.1.2.2.2 p hp).2.2.1 k (by omega)
  have e4 : (4 : Int32) * nI p + nI k = nI (4 * p + k) := by show nI 4 * nI p + _ = _; rw [nI_mulE, nI_add]
  have ecs : (nI ((Γ.2.2.1 p).2.2.1 k)).toNatClampNeg = (Γ.2.2.1 p).2.2.1 k := nI_clampE (by omega)
  have evs : vp_in (nI ((Γ.2.2.1 p).2.2.1 k)) 13 := by simp (disch := omega) only [nI_lit, nI_add, nI_mulE, nI_clampE, nI_eqE, nI_leE, nI_ltE, vp_nIE, true_and, and_true]; omega
  unfold wX12_comes
  rw [e4, nI_clampE (by omega), hoc]
  refine ⟨by simp (disch := omega) only [nI_lit, nI_add, nI_mulE, nI_clampE, nI_eqE, nI_leE, nI_ltE, vp_nIE, true_and, and_true]; omega, fe ⟨Γ.1.2.2.1 ((Γ.2.2.1 p).2.2.1 k) + 1, ?_⟩⟩
  suffices H : ∀ f a τ, Γ.1.2.2.1 ((Γ.2.2.1 p).2.2.1 k) - a = f → a ≤ Γ.1.2.2.1 ((Γ.2.2.1 p).2.2.1 k) → FM (fun a _ => decide (a = 120)) σ τ → (∀ x, x < 32 → τ.2.1 120 x = if (if x < 8 * k + a then addV Γ p k w d th x else th x) then 1 else 0) → wX12_comes_l15 (nI p) (nI k) (nI w) (if d then 1 else 0) Q E (f + 1) (nI ((Γ.2.2.1 p).2.2.1 k)) (nI a) τ by
    refine H _ 0 σ rfl (Nat.zero_le _) (FM.rf _ _) (fun x hx => ?_)
    by_cases z : x < 8 * k + 0
    · rw [if_pos z]
      have : addV Γ p k w d th x = th x := by unfold addV; rw [decide_eq_false (show ¬ x / 8 = k by omega)]; simp
      rw [this]; exact hT x hx
    · rw [if_neg z]; exact hT x hx
  intro f
  induction f with
  | zero =>
    intro a τ hf ha hF hc
    have X1 : MXg τ Γ := hX.fm hV hF ⟨rfl, rfl, rfl⟩ (fun a i h1 h2 => decide_eq_false (by omega))
    show wX12_comes_l15_b _ _ _ _ _ _ _ _ _ _
    unfold wX12_comes_l15_b
    rw [ecs, (X1.1.1.2 _ hs).2.1]
    refine ⟨evs, yes (by simp (disch := omega) only [nI_lit, nI_add, nI_mulE, nI_clampE, nI_eqE, nI_leE, nI_ltE, vp_nIE, true_and, and_true]; omega) (h τ hF (fun x hx => ?_))⟩
    rw [hc x hx]
    by_cases z : x < 8 * k + a
    · rw [if_pos z]
    · rw [if_neg z]
      have : addV Γ p k w d th x = th x := by
        unfold addV
        by_cases z2 : x / 8 = k
        · unfold inV
          rw [decide_eq_false (show ¬ (x % 8 < Γ.1.2.2.1 ((Γ.2.2.1 p).2.2.1 k) ∧ vOf Γ ((Γ.2.2.1 p).2.2.1 k) (x % 8) = w) from fun q => by have := q.1; omega)]; simp
        · rw [decide_eq_false z2]; simp
      rw [this]
  | succ f ih =>
    intro a τ hf ha hF hc
    have X1 : MXg τ Γ := hX.fm hV hF ⟨rfl, rfl, rfl⟩ (fun a i h1 h2 => decide_eq_false (by omega))
    have hal : a < Γ.1.2.2.1 ((Γ.2.2.1 p).2.2.1 k) := by omega
    obtain ⟨s1, s2, s3, s4⟩ := X1.1.1.2 _ hs
    have e8 : (8 : Int32) * nI k + nI a = nI (8 * k + a) := by show nI 8 * nI k + _ = _; rw [nI_mulE, nI_add]
    have ec8 : (nI (8 * k + a)).toNatClampNeg = 8 * k + a := nI_clampE (by omega)
    have ev8 : vp_in (nI (8 * k + a)) 32 := by simp (disch := omega) only [nI_lit, nI_add, nI_mulE, nI_clampE, nI_eqE, nI_leE, nI_ltE, vp_nIE, true_and, and_true]; omega
    show wX12_comes_l15_b (nI p) (nI k) (nI w) (if d then 1 else 0) Q E (wX12_comes_l15 (nI p) (nI k) (nI w) (if d then 1 else 0) Q E (f + 1)) _ (nI a) τ
    unfold wX12_comes_l15_b
    rw [ecs, s2, s3]
    refine ⟨evs, no (by simp (disch := omega) only [nI_lit, nI_add, nI_mulE, nI_clampE, nI_eqE, nI_leE, nI_ltE, vp_nIE, true_and, and_true]; omega) ⟨evs, ?_⟩⟩
    have hone := b_one (bm (Γ.1.2.2.2.1 ((Γ.2.2.1 p).2.2.1 k)) (Γ.1.2.2.1 ((Γ.2.2.1 p).2.2.1 k))) (a := a) (by omega)
    rw [bm_bt (by omega) (by omega), decide_eq_true hal, Bool.true_and] at hone
    have hcur := hc (8 * k + a) (by omega)
    rw [if_neg (show ¬ 8 * k + a < 8 * k + a by omega)] at hcur
    have hadd : addV Γ p k w d th (8 * k + a) = (th (8 * k + a) || (decide (vOf Γ ((Γ.2.2.1 p).2.2.1 k) a = w) && (Γ.1.2.2.2.1 ((Γ.2.2.1 p).2.2.1 k) a == d))) := by
      unfold addV inV
      rw [show (8 * k + a) / 8 = k by omega, show (8 * k + a) % 8 = a by omega, decide_eq_true (show k = k from rfl), Bool.true_and]
      congr 2
      rw [decide_eq_decide]
      exact ⟨fun q => q.2, fun q => ⟨hal, q⟩⟩
    -- the cell is written
    have j108 : ∀ b : Bool, b = addV Γ p k w d th (8 * k + a) → wX12_comes_j108 (nI p) (nI k) (nI w) (if d then 1 else 0) Q E (wX12_comes_l15 (nI p) (nI k) (nI w) (if d then 1 else 0) Q E (f + 1)) (nI ((Γ.2.2.1 p).2.2.1 k)) (nI a) (if b then 1 else 0) (nI (8 * k + a)) τ := by
      intro b hb
      unfold wX12_comes_j108
      rw [ec8, nI_1, show vp_nar .boolean (if b then (1 : Int32) else 0) = if b then 1 else 0 by cases b <;> decide]
      refine ⟨ev8, fe (fe (ih (a + 1) _ (by omega) (by omega) (hF.I (decide_eq_true rfl)) (fun x hx => ?_)))⟩
      rw [gI_I, if_pos rfl]
      by_cases e : x = 8 * k + a
      · rw [if_pos e, e, if_pos (show 8 * k + a < 8 * k + (a + 1) by omega), hb]
      · rw [if_neg e, hc x hx]
        by_cases z : x < 8 * k + a
        · rw [if_pos z, if_pos (show x < 8 * k + (a + 1) by omega)]
        · rw [if_neg z, if_neg (show ¬ x < 8 * k + (a + 1) by omega)]
    have j70 : ∀ y : Bool, y = (decide (vOf Γ ((Γ.2.2.1 p).2.2.1 k) a = w) && (Γ.1.2.2.2.1 ((Γ.2.2.1 p).2.2.1 k) a == d)) → wX12_comes_j70 (nI p) (nI k) (nI w) (if d then 1 else 0) Q E (wX12_comes_l15 (nI p) (nI k) (nI w) (if d then 1 else 0) Q E (f + 1)) (nI ((Γ.2.2.1 p).2.2.1 k)) (nI a) (if y then 1 else 0) τ := by
      intro y hy
      rw [← hy] at hadd
      unfold wX12_comes_j70
      rw [e8, ec8, hcur]
      refine ⟨ev8, ?_⟩
      cases ht : th (8 * k + a)
      · rw [ht, Bool.false_or] at hadd
        refine no (fun z => z rfl) ?_
        cases y
        · exact yes rfl (j108 false hadd.symm)
        · refine no (by decide) ?_
          unfold wX12_comes_j103
          exact j108 true hadd.symm
      · rw [ht, Bool.true_or] at hadd
        refine yes (by decide) ?_
        unfold wX12_comes_j103
        exact j108 true hadd.symm
    have j48 : wX12_comes_j48 (nI p) (nI k) (nI w) (if d then 1 else 0) Q E (wX12_comes_l15 (nI p) (nI k) (nI w) (if d then 1 else 0) Q E (f + 1)) (nI ((Γ.2.2.1 p).2.2.1 k)) (nI a) (if Γ.1.2.2.2.1 ((Γ.2.2.1 p).2.2.1 k) a then 1 else 0) τ := by
      unfold wX12_comes_j48
      by_cases hd : Γ.1.2.2.2.1 ((Γ.2.2.1 p).2.2.1 k) a = d
      · rw [hd]
        refine no (fun z => z rfl) ?_
        refine m_vOf X1 hV hL hs hal ?_
        have hvo := hL.vof _ hs a hal
        by_cases hv : vOf Γ ((Γ.2.2.1 p).2.2.1 k) a = w
        · refine no (fun z => z (by rw [hv])) (j70 true ?_)
          rw [decide_eq_true hv, hd]; cases d <;> rfl
        · refine yes (by simp (disch := omega) only [nI_lit, nI_add, nI_mulE, nI_clampE, nI_eqE, nI_leE, nI_ltE, vp_nIE, true_and, and_true]; exact hv) ?_
          unfold wX12_comes_j69
          exact j70 false (by rw [decide_eq_false hv]; rfl)
      · refine yes (fun z => hd ?_) ?_
        · cases h1 : Γ.1.2.2.2.1 ((Γ.2.2.1 p).2.2.1 k) a <;> cases h2 : d
          · rfl
          · rw [h1, h2] at z; exact absurd z (by decide)
          · rw [h1, h2] at z; exact absurd z (by decide)
          · rfl
        · unfold wX12_comes_j69
          refine j70 false ?_
          have : (Γ.1.2.2.2.1 ((Γ.2.2.1 p).2.2.1 k) a == d) = false := by
            cases hz : (Γ.1.2.2.2.1 ((Γ.2.2.1 p).2.2.1 k) a == d)
            · rfl
            · exact absurd (eq_of_beq hz) hd
          rw [this, Bool.and_false]
    cases hd : Γ.1.2.2.2.1 ((Γ.2.2.1 p).2.2.1 k) a
    · rw [hd] at j48
      exact yes (fun z => by rw [hone.mp z] at hd; exact absurd hd (by decide)) j48
    · rw [hd] at j48
      exact no (fun z => z (hone.mpr hd)) j48
end ML
