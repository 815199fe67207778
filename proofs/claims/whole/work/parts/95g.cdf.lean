/-! ===== what visits define, the class's ===== -/
def S20 : Nat → Nat → Bool := fun a _ => decide (a = 20)
/-- a grammar with its plans, as the class's stores read it -/
def CZ (σ : ab_S) (g : Nat) (Γ : GRT) : Prop := CX σ g Γ ∧ σ.2.2.2 19 1 = some g ∧ ∀ p, p < Γ.2.1 → CPf σ Γ p
theorem CPf.fm {S : Nat → Nat → Bool} {σ σ' : ab_S} {Γ : GRT} {p : Nat} (h : CPf σ Γ p) (f : FM S σ σ') (s : ∀ a i, 12 ≤ a → a ≤ 17 → S a i = false) : CPf σ' Γ p := by
  obtain ⟨a1, a2, a3, a4⟩ := h
  refine ⟨fun v v1 v2 => ?_, fun i hi => ?_, fun x hx hex => ?_, fun o w ho w1 w2 => ?_⟩
  · rw [f.1 _ _ (s _ _ (by omega) (by omega))]; exact a1 v v1 v2
  · rw [f.1 12 _ (s _ _ (by omega) (by omega)), f.1 13 _ (s _ _ (by omega) (by omega)), f.1 14 _ (s _ _ (by omega) (by omega))]; exact a2 i hi
  · rw [f.1 _ _ (s _ _ (by omega) (by omega))]; exact a3 x hx hex
  · rw [f.1 _ _ (s _ _ (by omega) (by omega))]; exact a4 o w ho w1 w2
theorem CZ.fm {S : Nat → Nat → Bool} {σ σ' : ab_S} {g : Nat} {Γ : GRT} (h : CZ σ g Γ) (hV : GRV Γ) (f : FM S σ σ') (e : ∀ k i, k ≤ 17 → S (g + k) i = false) (e7 : S 11 7 = false) (e1 : S 19 1 = false) (s : ∀ a i, 12 ≤ a → a ≤ 17 → S a i = false) : CZ σ' g Γ := ⟨h.1.fm hV f e e7, by rw [f.2.2 _ _ e1]; exact h.2.1, fun p hp => (h.2.2 p hp).fm f s⟩
theorem CZ.s20 {σ σ' : ab_S} {g : Nat} {Γ : GRT} (h : CZ σ g Γ) (hV : GRV Γ) (f : FM S20 σ σ') : CZ σ' g Γ := by
  have hgb := isG_b h.1.1
  exact h.fm hV f (fun k i hk => decide_eq_false (by omega)) (decide_eq_false (by omega)) (decide_eq_false (by omega)) (fun a i h1 h2 => decide_eq_false (by omega))
def YC (σ : ab_S) (Y : Nat → Bool) : Prop := ∀ j, j < 1008 → B32 (σ.2.1 20 j) (fun a => decide (a < 8) && Y (8 * j + a))
def yAd (Y : Nat → Bool) (j : Nat) (f : Nat → Bool) : Nat → Bool := fun m => Y m || (decide (m / 8 = j) && f (m % 8))
section CD
variable {σ : ab_S} {g p i : Nat} {Γ : GRT} {Y : Nat → Bool} {E : String → ab_S → Prop}
theorem c_addD {j : Nat} (hj : j < 1008) {x : Int32} {f : Nat → Bool} (hx : B32 x (fun a => decide (a < 8) && f a)) (hY : YC σ Y) {Q : Int32 → ab_S → Prop} (h : ∀ (b : Bool) τ, FM S20 σ τ → YC τ (yAd Y j f) → (b = true → ∃ a, a < 8 ∧ f a = true ∧ Y (8 * j + a) = false) → (b = false → ∀ a, a < 8 → f a = true → Y (8 * j + a) = true) → Q (if b then 1 else 0) τ) : wX7_addDefined (nI j) x Q E σ := by
  have ec : (nI j).toNatClampNeg = j := nI_clampE (by omega)
  have ev : vp_in (nI j) 1008 := by simp (disch := omega) only [nI_lit, nI_add, nI_mulE, nI_clampE, nI_eqE, nI_leE, nI_ltE, vp_nIE, true_and, and_true]; omega
  have hand : ∀ a, a < 32 → bt (x &&& ((σ.2.1 20 j) ^^^ (-1 : Int32))) a = ((decide (a < 8) && f a) && !(decide (a < 8) && Y (8 * j + a))) := hx.andn (hY j hj)
  have hF : FM S20 σ (ab_I σ 20 j (σ.2.1 20 j ||| x)) := (FM.rf _ σ).I (decide_eq_true rfl)
  have hYC : YC (ab_I σ 20 j (σ.2.1 20 j ||| x)) (yAd Y j f) := by
    intro j' hj'
    rw [gI_I, if_pos rfl]
    by_cases e : j' = j
    · rw [if_pos e, e]
      refine ((hY j hj).or hx).cg (fun a _ => ?_)
      unfold yAd
      by_cases h8 : a < 8
      · rw [decide_eq_true h8, show (8 * j + a) / 8 = j by omega, show (8 * j + a) % 8 = a by omega, decide_eq_true (show j = j from rfl)]; rfl
      · rw [decide_eq_false h8]; rfl
    · rw [if_neg e]
      refine (hY j' hj').cg (fun a _ => ?_)
      unfold yAd
      by_cases h8 : a < 8
      · rw [show (8 * j' + a) / 8 = j' by omega, decide_eq_false e, Bool.false_and, Bool.or_false]
      · rw [decide_eq_false h8]; rfl
  unfold wX7_addDefined
  rw [ec]
  refine ⟨ev, ?_⟩
  by_cases hz : (x &&& ((σ.2.1 20 j) ^^^ (-1 : Int32))) = 0
  · refine yes hz ?_
    unfold wX7_addDefined_j18
    rw [ec]
    refine ⟨ev, ev, fe ⟨Or.inl rfl, h false _ hF hYC (fun z => absurd z (by decide)) (fun _ a ha hfa => ?_)⟩⟩
    have := hand a (by omega)
    rw [hz, b_0, decide_eq_true ha, hfa, Bool.true_and, Bool.true_and] at this
    cases hy : Y (8 * j + a)
    · rw [hy] at this; exact absurd this (by decide)
    · rfl
  · refine no hz ?_
    unfold wX7_addDefined_j18
    rw [ec]
    refine ⟨ev, ev, fe ⟨Or.inr rfl, h true _ hF hYC (fun _ => ?_) (fun z => absurd z (by decide))⟩⟩
    apply Classical.byContradiction
    intro hn
    apply hz
    apply b_ext
    intro a ha
    rw [hand a ha, b_0]
    by_cases h8 : a < 8
    · rw [decide_eq_true h8, Bool.true_and, Bool.true_and]
      cases hf : f a
      · rfl
      · cases hy : Y (8 * j + a)
        · exact absurd ⟨a, h8, hf, hy⟩ hn
        · rfl
    · rw [decide_eq_false h8]; rfl
end CD
