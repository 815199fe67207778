/-! ===== stores: the picture; the class's names ===== -/
/-- all rules that name y are evaluated in visit v -/
def nOI (Γ : GRT) (p y v : Nat) : Prop := ∀ x, x < 32 → nmd Γ p x y = true → (gE (plP Γ p) ((plP Γ p).ea x)).2.1 = v
/-- behind the last entry whose rule names y; 0 if none -/
def lNm (Γ : GRT) (p y : Nat) : Nat → Nat
  | 0 => 0
  | k + 1 => if nmd Γ p k y then max (lNm Γ p y k) ((plP Γ p).ea k + 1) else lNm Γ p y k
def lnI (Γ : GRT) (p m : Nat) : Int32 := if m = 0 then -1 else nI (plB Γ p + (m - 1))
section CS
variable {σ : ab_S} {g p y : Nat} {Γ : GRT} {E : String → ab_S → Prop}
theorem nm_ev (hV : GRV Γ) (hL : LVF Γ) (hp : p < Γ.2.1) (hx : crc (xR Γ p) = false) {x : Nat} (h : nmd Γ p x y = true) : (plP Γ p).ev x = true ∧ (plP Γ p).ea x < plN Γ p := by
  have hd : (Γ.2.2.1 p).2.2.2.2.1 x = true := by rw [nmd_A, Bool.and_eq_true] at h; exact h.1
  have he : (plP Γ p).ev x = true := by rw [(plC_ev hV hL hp hx).1 x]; exact hd
  exact ⟨he, ((plI_A hL hV hp (svs Γ (hdS Γ p))).2.2.2.1 x he).1⟩
theorem c_nmB (hC : CGr σ g Γ) (hV : GRV Γ) (hp : p < Γ.2.1) {x : Nat} (hx : x < 32) : B32 (σ.2.1 (g + 10) (p * 32 + x)) (nmd Γ p x) := by
  have hc := (hC.2.2.2 p hp).2.2.2.2.2 x hx
  cases hd : (Γ.2.2.1 p).2.2.2.2.1 x
  · rw [hc.2 hd]
    refine B32.z.cg (fun i _ => ?_)
    rw [nmd_A, hd]; rfl
  · rw [(hc.1 hd).2.2.1]
    refine (nmF_b _ 0 _ B32.z (nmd_32 hV hp hd)).cg (fun i _ => ?_)
    rw [nmd_A, hd, Bool.true_and, Bool.false_or]
theorem c_nms (hZ : CZ σ g Γ) (hV : GRV Γ) (hp : p < Γ.2.1) {x : Nat} (hx : x < 32) (hy : y < 32) {Q : Int32 → ab_S → Prop} (h : Q (if nmd Γ p x y then 1 else 0) σ) : wX7_names (nI p) (nI x) (nI y) Q E σ := by
  have h30 := hV.2.1
  have e32 : nI p * 32 + nI x = nI (p * 32 + x) := by show nI p * nI 32 + _ = _; rw [nI_mulE, nI_add]
  have hb := (c_nmB hZ.1.2.2.1 hV hp hx).bit hy
  unfold wX7_names
  refine ⟨g, hZ.2.1, hZ.1.1, ?_⟩
  rw [e32, nI_clampE (show p * 32 + x < 2147483648 by omega)]
  refine ⟨by simp (disch := omega) only [nI_lit, nI_add, nI_mulE, nI_clampE, nI_eqE, nI_leE, nI_ltE, vp_nIE, true_and, and_true]; omega, ?_⟩
  cases hn : nmd Γ p x y
  · rw [hn] at h
    exact yes (hb.mpr hn) h
  · rw [hn] at h
    exact no (fun z => by rw [hb.mp z] at hn; exact absurd hn (by decide)) h
theorem c_eR (hZ : CZ σ g Γ) (hV : GRV Γ) (hp : p < Γ.2.1) {x : Nat} (hx : x < 32) (he : (plP Γ p).ev x = true) {Q : Int32 → ab_S → Prop} (h : Q (nI (plB Γ p + (plP Γ p).ea x)) σ) : wX4_entryOfRule (nI p) (nI x) Q E σ := by
  have h30 := hV.2.1
  have e32 : nI p * 32 + nI x = nI (p * 32 + x) := by show nI p * nI 32 + _ = _; rw [nI_mulE, nI_add]
  unfold wX4_entryOfRule
  rw [e32, nI_clampE (show p * 32 + x < 2147483648 by omega), (hZ.2.2 p hp).2.2.1 x hx he]
  exact ⟨by simp (disch := omega) only [nI_lit, nI_add, nI_mulE, nI_clampE, nI_eqE, nI_leE, nI_ltE, vp_nIE, true_and, and_true]; omega, h⟩
theorem c_nOI (hZ : CZ σ g Γ) (hV : GRV Γ) (hL : LVF Γ) (hp : p < Γ.2.1) (hx : crc (xR Γ p) = false) (hy : y < 32) {v : Nat} (hv : v < 100) {Q : Int32 → ab_S → Prop} (h1 : nOI Γ p y v → Q 1 σ) (h0 : ¬ nOI Γ p y v → Q 0 σ) : wX7_namedOnlyIn (nI p) (nI y) (nI v) Q E σ := by
  have h30 := hV.2.1
  have hB := plB_le hL hV p (by omega)
  have hN := plN_le hL hV hp
  have hhd : hdS Γ p < Γ.1.1 := (hV.2.2.2 p hp).2.1.2.1 0 (Nat.zero_le _)
  refine ⟨33, ?_⟩
  suffices H : ∀ f k, 32 - k = f → k ≤ 32 → (∀ x, x < k → nmd Γ p x y = true → (gE (plP Γ p) ((plP Γ p).ea x)).2.1 = v) → wX7_namedOnlyIn_l3 (nI p) (nI y) (nI v) Q E (f + 1) (nI k) σ from H 32 0 rfl (Nat.zero_le _) (fun x hx => absurd hx (Nat.not_lt_zero _))
  intro f
  induction f with
  | zero =>
    intro k hf hk hD
    show wX7_namedOnlyIn_l3_b _ _ _ _ _ _ _ _
    unfold wX7_namedOnlyIn_l3_b
    exact yes (by simp (disch := omega) only [nI_lit, nI_add, nI_mulE, nI_clampE, nI_eqE, nI_leE, nI_ltE, vp_nIE, true_and, and_true]; omega) (h1 (fun x hx => hD x (by omega)))
  | succ f ih =>
    intro k hf hk hD
    have q1 : 32 - (k + 1) = f := by omega
    have q2 : k + 1 ≤ 32 := by omega
    show wX7_namedOnlyIn_l3_b (nI p) (nI y) (nI v) Q E (wX7_namedOnlyIn_l3 (nI p) (nI y) (nI v) Q E (f + 1)) (nI k) σ
    unfold wX7_namedOnlyIn_l3_b
    refine no (by simp (disch := omega) only [nI_lit, nI_add, nI_mulE, nI_clampE, nI_eqE, nI_leE, nI_ltE, vp_nIE, true_and, and_true]; omega) ?_
    refine c_nms hZ hV hp q2 hy ?_
    have next : (nmd Γ p k y = true → (gE (plP Γ p) ((plP Γ p).ea k)).2.1 = v) → wX7_namedOnlyIn_j45 (nI p) (nI y) (nI v) Q E (wX7_namedOnlyIn_l3 (nI p) (nI y) (nI v) Q E (f + 1)) (nI k) σ := by
      intro hk1
      unfold wX7_namedOnlyIn_j45
      rw [nI_1]
      refine fe (ih (k + 1) q1 q2 (fun x hx => ?_))
      by_cases e : x = k
      · rw [e]; exact hk1
      · exact hD x (by omega)
    cases hn : nmd Γ p k y
    · exact yes rfl (next (fun z => by rw [hn] at z; exact absurd z (by decide)))
    · refine no (by decide) ?_
      obtain ⟨he, hlt⟩ := nm_ev hV hL hp hx hn
      refine c_eR hZ hV hp q2 he ⟨by simp (disch := omega) only [nI_lit, nI_add, nI_mulE, nI_clampE, nI_eqE, nI_leE, nI_ltE, vp_nIE, true_and, and_true]; omega, ?_⟩
      have hvi : (gE (plP Γ p) ((plP Γ p).ea k)).2.1 ≤ 5 := (plJ_A (Γ := Γ) (p := p) _ (hL.vis _ hhd).2 _ hlt).2
      rw [nI_clampE (show plB Γ p + (plP Γ p).ea k < 2147483648 by omega), (c_ent hZ hp hlt).2.1]
      by_cases e : (gE (plP Γ p) ((plP Γ p).ea k)).2.1 = v
      · exact yes (by rw [e]) (next (fun _ => e))
      · exact no (by rw [nI_eqE (by omega) (by omega)]; exact e) (h0 (fun z => e (z k q2 hn)))
end CS
