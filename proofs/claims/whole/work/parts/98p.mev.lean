/-! ===== evaluation, the model's: an expression worked out ===== -/
def okz (z : Nat × Nat) (s : List VL8) : Prop := (z.1 = 30 → 1 ≤ s.length) ∧ (z.1 = 31 → 3 ≤ s.length) ∧ (z.1 ≠ 40 → z.1 ≠ 41 → z.1 ≠ 50 → z.1 ≠ 30 → z.1 ≠ 31 → 2 ≤ s.length ∧ z.1 ∈ mops)
def WOk (g : Nat → VL8) (l : VL8) (H : Nat) : List (Nat × Nat) → List VL8 → Prop
  | [], s => s.length ≤ H
  | z :: r, s => okz z s ∧ s.length ≤ H ∧ WOk g l H r (wo1 g l s z)
section MW
variable {g : Nat → VL8} {l : VL8}
theorem WOk.app {H : Nat} : ∀ {a c : List (Nat × Nat)} {s : List VL8}, WOk g l H a s → WOk g l H c (wo g l a s) → WOk g l H (a ++ c) s
  | [], c, s, _, h2 => h2
  | z :: r, c, s, h1, h2 => ⟨h1.1, h1.2.1, WOk.app h1.2.2 h2⟩
theorem WOk.mo {H H' : Nat} (h : H ≤ H') : ∀ {a : List (Nat × Nat)} {s : List VL8}, WOk g l H a s → WOk g l H' a s
  | [], s, h1 => Nat.le_trans h1 h
  | z :: r, s, h1 => ⟨h1.1, Nat.le_trans h1.2.1 h, WOk.mo h h1.2.2⟩
theorem CR_W {ok : Nat → Prop} {lt : Bool} {h : Nat} {m c : List (Nat × Nat)} (hC : CR ok lt h m c) : 1 ≤ h ∧ PXp g l h m c ∧ ∀ s, WOk g l (s.length + h) m s := by
  refine hC (fun h m c => 1 ≤ h ∧ PXp g l h m c ∧ ∀ s, WOk g l (s.length + h) m s) ⟨fun v hv => ?_, fun hl => ?_, fun s hs => ?_, fun h m c z => ?_, fun o ho h m c m2 c2 z y => ?_, fun h m1 c1 m2 c2 m3 c3 x y z => ?_, fun h m c z => ?_⟩
  · have := CR_PX (g := g) (l := l) ((CR_c ok lt).1 v hv)
    refine ⟨this.1, this.2, fun s => ⟨⟨fun q => absurd q (by show ¬ (40 : Nat) = 30; omega), fun q => absurd q (by show ¬ (40 : Nat) = 31; omega), fun q => absurd rfl q⟩, by omega, ?_⟩⟩
    show (wo1 g l s (40, v)).length ≤ _
    exact Nat.le_refl _
  · have := CR_PX (g := g) (l := l) ((CR_c ok lt).2.1 hl)
    refine ⟨this.1, this.2, fun s => ⟨⟨fun q => absurd q (by show ¬ (41 : Nat) = 30; omega), fun q => absurd q (by show ¬ (41 : Nat) = 31; omega), fun _ q => absurd rfl q⟩, by omega, ?_⟩⟩
    show (wo1 g l s (41, 0)).length ≤ _
    exact Nat.le_refl _
  · have := CR_PX (g := g) (l := l) ((CR_c ok lt).2.2.1 s hs)
    refine ⟨this.1, this.2, fun s' => ⟨⟨fun q => absurd q (by show ¬ (50 : Nat) = 30; omega), fun q => absurd q (by show ¬ (50 : Nat) = 31; omega), fun _ _ q => absurd rfl q⟩, by omega, ?_⟩⟩
    show (wo1 g l s' (50, s)).length ≤ _
    exact Nat.le_refl _
  · obtain ⟨z1, z2, z3⟩ := z
    refine ⟨z1, PX_neg z2 z1, fun s => (z3 s).app ?_⟩
    obtain ⟨v, w, _⟩ := z2
    rw [w]
    refine ⟨⟨fun _ => by rw [List.length_cons]; omega, fun q => absurd q (by show ¬ (30 : Nat) = 31; omega), fun _ _ _ q => absurd rfl q⟩, by rw [List.length_cons]; omega, ?_⟩
    show (vneg v :: s).length ≤ _
    rw [List.length_cons]; omega
  · obtain ⟨z1, z2, z3⟩ := z
    obtain ⟨y1, y2, y3⟩ := y
    have hP := PX_bin ho z2 y2 y1
    obtain ⟨v, w, _⟩ := z2
    obtain ⟨v2, w2, _⟩ := y2
    have hob : o = 13 ∨ o = 14 ∨ o = 15 ∨ o = 16 ∨ o = 17 ∨ o = 4 := by simpa [mops] using ho
    refine ⟨by omega, hP, fun s => (((z3 s).mo (by omega)).app ?_).app ?_⟩
    · rw [w]
      exact (y3 (v :: s)).mo (by rw [List.length_cons]; omega)
    · rw [wo_app, w, w2]
      refine ⟨⟨fun q => absurd q (by show ¬ o = 30; omega), fun q => absurd q (by show ¬ o = 31; omega), fun _ _ _ _ _ => ⟨by rw [List.length_cons, List.length_cons]; omega, ho⟩⟩, by rw [List.length_cons, List.length_cons]; omega, ?_⟩
      have e : wo1 g l (v2 :: v :: s) (o, 0) = vbin (bo o) v v2 :: s := by
        unfold wo1
        rw [if_neg (by show ¬ o = 40; omega), if_neg (by show ¬ o = 41; omega), if_neg (by show ¬ o = 50; omega), if_neg (by show ¬ o = 30; omega), if_neg (by show ¬ o = 31; omega)]
      rw [e]
      show (vbin (bo o) v v2 :: s).length ≤ _
      rw [List.length_cons]; omega
  · obtain ⟨x1, x2, x3⟩ := x
    obtain ⟨y1, y2, y3⟩ := y
    obtain ⟨z1, z2, z3⟩ := z
    have hP := PX_if x2 y2 z2 z1
    obtain ⟨v1, w1, _⟩ := x2
    obtain ⟨v2, w2, _⟩ := y2
    obtain ⟨v3, w3, _⟩ := z2
    refine ⟨by omega, hP, fun s => ((((x3 s).mo (by omega)).app ?_).app ?_).app ?_⟩
    · rw [w1]
      exact (y3 (v1 :: s)).mo (by rw [List.length_cons]; omega)
    · rw [wo_app, w1, w2]
      exact (z3 (v2 :: v1 :: s)).mo (by rw [List.length_cons, List.length_cons]; omega)
    · rw [wo_app, wo_app, w1, w2, w3]
      refine ⟨⟨fun q => absurd q (by show ¬ (31 : Nat) = 30; omega), fun _ => by rw [List.length_cons, List.length_cons, List.length_cons]; omega, fun _ _ _ _ q => absurd rfl q⟩, by rw [List.length_cons, List.length_cons, List.length_cons]; omega, ?_⟩
      show (vif v1 v2 v3 :: s).length ≤ _
      rw [List.length_cons]; omega
  · obtain ⟨z1, z2, z3⟩ := z
    refine ⟨by omega, ?_, fun s => (z3 s).mo (by omega)⟩
    obtain ⟨v, w, r⟩ := z2
    refine ⟨v, w, fun pre post s => ?_⟩
    obtain ⟨k, hk⟩ := r pre post s
    exact ⟨k, hk.mo (Nat.le_refl _) (Nat.le_refl _) (by omega)⟩
end MW
def vI (v : VL8) : Int32 := v.getD 0
def vB (v : VL8) : Int32 := if v.isNone then 1 else 0
/-- the model's stack of values -/
def WSt (σ : ab_S) : List VL8 → Prop
  | [] => True
  | v :: s => σ.2.1 145 s.length = vB v ∧ (∀ x, v = some x → σ.2.1 144 s.length = x) ∧ WSt σ s
def S144 : Nat → Nat → Bool := fun a _ => decide (a = 144 ∨ a = 145)
theorem WSt.cg {σ σ' : ab_S} : ∀ {s}, WSt σ s → (∀ i, i < s.length → σ'.2.1 144 i = σ.2.1 144 i ∧ σ'.2.1 145 i = σ.2.1 145 i) → WSt σ' s
  | [], _, _ => trivial
  | v :: s, h, k => ⟨by rw [(k _ (by rw [List.length_cons]; omega)).2]; exact h.1, fun x hx => by rw [(k _ (by rw [List.length_cons]; omega)).1]; exact h.2.1 x hx, WSt.cg h.2.2 (fun i hi => k i (by rw [List.length_cons]; omega))⟩
/-- values known so far -/
def MEv (σ : ab_S) (kn : Nat → Nat → Bool) (vl : Nat → Nat → VL8) : Prop := ∀ k a, k < 250 → a < 8 → σ.2.1 140 (8 * k + a) = (if kn k a then 1 else 0) ∧ σ.2.1 139 (8 * k + a) = (if kn k a then vI (vl k a) else 0) ∧ σ.2.1 141 (8 * k + a) = (if kn k a then vB (vl k a) else 0)
section ME
variable {σ : ab_S} {Γ : GRT} {T : TST} {n : Nat} {kn : Nat → Nat → Bool} {vl : Nat → Nat → VL8} {E : String → ab_S → Prop}
theorem m_vAt (hM : MTt σ Γ T) (hV : GRV Γ) (hT : TOK Γ T) (hn : n < T.N) {y : Nat} (h32 : y < 32) (hy : y / 8 ≤ rt Γ (T.pr n)) {Q : Int32 → ab_S → Prop} (h : Q (nI (8 * T.ch n (y / 8) + y % 8)) σ) : wX12_valueAt (nI n) (nI y) Q E σ := by
  obtain ⟨t1, t2⟩ := hT.2.2 n hn
  have hN := hT.2.1
  unfold wX12_valueAt
  rw [i_div8 y (by omega)]
  refine fe ?_
  have e8 : ∀ c, (8 : Int32) * nI c + (nI y - nI y / 8 * 8) = nI (8 * c + y % 8) := fun c => by rw [i_mod8 y (by omega)]; show nI 8 * _ + _ = _; rw [nI_mulE, nI_add]
  by_cases h0 : y / 8 = 0
  · refine no (fun z => z (by rw [h0]; rfl)) ?_
    unfold wX12_valueAt_j27
    rw [e8]
    rw [h0, t1.2.2.2.2.2.1] at h
    exact h
  · have hp := t1.1
    have hrt : rt Γ (T.pr n) ≤ 3 := (hV.2.2.2 _ hp).2.1.1
    have e3 : (3 : Int32) * nI n + nI (y / 8) - 1 = nI (3 * n + (y / 8 - 1)) := by
      show nI 3 * _ + _ - nI 1 = _
      rw [nI_mulE, nI_add, nI_subE (by omega)]; congr 1; omega
    rw [e3, nI_clampE (show 3 * n + (y / 8 - 1) < 2147483648 by omega), (hM.2 n hn).2.2.2.2 (y / 8) (by omega) hy]
    refine yes (by show ¬ _ = nI 0; rw [nI_eqE (by omega) (by omega)]; exact h0) ⟨by simp (disch := omega) only [nI_lit, nI_add, nI_mulE, nI_clampE, nI_eqE, nI_leE, nI_ltE, vp_nIE, true_and, and_true]; omega, ?_⟩
    unfold wX12_valueAt_j27
    rw [e8]; exact h
end ME
