/-! ===== order: what holds of what is induced ===== -/
theorem oCl_le {r : MX2} : ∀ k x y, r x y = true → oCl k r x y = true
  | 0, _, _, h => h
  | k + 1, x, y, h => by rw [oCl]; unfold oW; rw [oCl_le k x y h]; rfl
theorem oCl_t {r : MX2} : ∀ k y, y < k → ∀ x z, oCl k r x y = true → oCl k r y z = true → oCl k r x z = true
  | 0, y, h => absurd h (Nat.not_lt_zero _)
  | k + 1, y, hy => by
    have ih := oCl_t (r := r) k
    intro x z h1 h2
    rw [oCl] at h1 h2 ⊢
    unfold oW at h1 h2 ⊢
    rw [Bool.or_eq_true, Bool.and_eq_true] at h1 h2 ⊢
    by_cases e : y = k
    · subst e
      have a : oCl y r x y = true := h1.elim id (fun q => q.1)
      have b : oCl y r y z = true := h2.elim id (fun q => q.2)
      exact Or.inr ⟨a, b⟩
    · have hk : y < k := by omega
      rcases h1 with h1 | ⟨a1, a2⟩
      · rcases h2 with h2 | ⟨b1, b2⟩
        · exact Or.inl (ih y hk x z h1 h2)
        · exact Or.inr ⟨ih y hk x k h1 b1, b2⟩
      · rcases h2 with h2 | ⟨b1, b2⟩
        · exact Or.inr ⟨a1, ih y hk k z a2 h2⟩
        · exact Or.inr ⟨a1, b2⟩
theorem vSl_32 {G : SYT} {P : PRO} (h3 : P.2.1 ≤ 3) {x : Nat} (h : vSl G P x) : x < 32 := by have := h.1; omega
/-- a round that finds nothing new -/
theorem oRd_same {Γ : GRT} {S : OST} (hn : ∀ s a b, (oRd Γ Γ.2.1 S).2 s a b = true → S.2 s a b = true) : ∀ k, k ≤ Γ.2.1 → (oRd Γ k S).2 = S.2 ∧ ∀ p, p < k → (oRd Γ k S).1 p = oCl 32 (oAdd (Γ.2.2.1 p) S.2 (S.1 p)) ∧ oCo (Γ.2.2.1 p) (oCl 32 (oAdd (Γ.2.2.1 p) S.2 (S.1 p))) S.2 = S.2 := by
  have up : ∀ j k, k ≤ j → ∀ s a b, (oRd Γ k S).2 s a b = true → (oRd Γ j S).2 s a b = true := by
    intro j
    induction j with
    | zero => intro k hk s a b h; have : k = 0 := by omega
              rw [this] at h; exact h
    | succ j ih =>
      intro k hk s a b h
      by_cases e : k = j + 1
      · rw [e] at h; exact h
      · exact oIc_le s a b (ih k (by omega) s a b h)
  have eq : ∀ k, k ≤ Γ.2.1 → (oRd Γ k S).2 = S.2 := by
    intro k hk
    funext s a b
    rw [Bool.eq_iff_iff]
    exact ⟨fun h => hn s a b (up _ k hk s a b h), fun h => oRd_le k s a b h⟩
  have un : ∀ k p, k ≤ p → (oRd Γ k S).1 p = S.1 p := by
    intro k
    induction k with
    | zero => intro p _; rfl
    | succ k ih =>
      intro p hp
      show uf (oRd Γ k S).1 k _ p = _
      rw [uf_o _ _ (by omega)]; exact ih p (by omega)
  intro k
  induction k with
  | zero => intro _; exact ⟨rfl, fun p hp => absurd hp (by omega)⟩
  | succ k ih =>
    intro hk
    obtain ⟨h1, h2⟩ := ih (by omega)
    have e1 : oCl 32 (oAdd (Γ.2.2.1 k) (oRd Γ k S).2 ((oRd Γ k S).1 k)) = oCl 32 (oAdd (Γ.2.2.1 k) S.2 (S.1 k)) := by rw [h1, un k k (Nat.le_refl _)]
    refine ⟨eq (k + 1) hk, fun p hp => ?_⟩
    by_cases e : p = k
    · subst e
      refine ⟨?_, ?_⟩
      · show uf (oRd Γ p S).1 p (oCl 32 (oAdd (Γ.2.2.1 p) (oRd Γ p S).2 ((oRd Γ p S).1 p))) p = _
        rw [uf_s, e1]
      · have e2 : (oRd Γ (p + 1) S).2 = oCo (Γ.2.2.1 p) (oCl 32 (oAdd (Γ.2.2.1 p) (oRd Γ p S).2 ((oRd Γ p S).1 p))) (oRd Γ p S).2 := rfl
        rw [e1, h1, eq (p + 1) hk] at e2
        exact e2.symm
    · refine ⟨?_, (h2 p (by omega)).2⟩
      show uf (oRd Γ k S).1 k _ p = _
      rw [uf_o _ _ e]; exact (h2 p (by omega)).1
/-- what holds at the end -/
def oFx (Γ : GRT) (S : OST) : Prop := oV Γ S ∧ ∀ p, p < Γ.2.1 → (∀ x y, nmd Γ p x y = true → S.1 p x y = true) ∧ (∀ o a b, o ≤ (Γ.2.2.1 p).2.1 → a < 8 → b < 8 → (S.2 ((Γ.2.2.1 p).2.2.1 o) a b = true ↔ S.1 p (8 * o + a) (8 * o + b) = true)) ∧ ∀ x y z, S.1 p x y = true → S.1 p y z = true → S.1 p x z = true
theorem oIt_fx {Γ : GRT} (hV : GRV Γ) : ∀ f S, 769 ≤ f + oCn S.2 → oV Γ S → (∀ p, p < Γ.2.1 → ∀ x y, nmd Γ p x y = true → S.1 p x y = true) → oFx Γ (oIt Γ f S) := by
  have grow : ∀ S k p x y, S.1 p x y = true → (oRd Γ k S).1 p x y = true := by
    intro S k
    induction k with
    | zero => intro p x y h; exact h
    | succ k ih =>
      intro p x y h
      show uf (oRd Γ k S).1 k (oCl 32 (oAdd (Γ.2.2.1 k) (oRd Γ k S).2 ((oRd Γ k S).1 k))) p x y = true
      by_cases e : p = k
      · subst e
        rw [uf_s]
        refine oCl_le 32 x y ?_
        unfold oAdd
        rw [ih p x y h]; rfl
      · rw [uf_o _ _ e]; exact ih p x y h
  intro f
  induction f with
  | zero => intro S hf; have := oCn_le S.2; omega
  | succ f ih =>
    intro S hf hvS hN
    have hvR := oRd_V hV Γ.2.1 (Nat.le_refl _) hvS
    rw [oIt]
    cases hn : oNw S.2 (oRd Γ Γ.2.1 S).2
    · rw [if_neg (by decide)]
      have hsame : ∀ s a b, (oRd Γ Γ.2.1 S).2 s a b = true → S.2 s a b = true := by
        intro s a b h
        cases hs : S.2 s a b
        · obtain ⟨x1, x2, x3⟩ := hvR.2 s a b h
          have c8 := (hV.1.2.2 s x1).2.1
          have h12 := hV.1.1
          have := oNw_i.mpr ⟨s, a, b, by omega, by omega, by omega, h, hs⟩
          rw [hn] at this; exact absurd this Bool.false_ne_true
        · rfl
      obtain ⟨e2, e1⟩ := oRd_same hsame Γ.2.1 (Nat.le_refl _)
      refine ⟨hvR, fun p hp => ⟨fun x y h => grow S _ p x y (hN p hp x y h), fun o a b ho ha hb => ?_, fun x y z h1 h2 => ?_⟩⟩
      · obtain ⟨q1, q2⟩ := e1 p hp
        rw [e2, q1]
        constructor
        · intro h
          refine oCl_le 32 _ _ ?_
          unfold oAdd
          rw [show (8 * o + a) / 8 = o by omega, show (8 * o + b) / 8 = o by omega, show (8 * o + a) % 8 = a by omega, show (8 * o + b) % 8 = b by omega, h, decide_eq_true ho, decide_eq_true rfl]
          simp
        · intro h
          rw [← q2]
          exact oIc_i.mpr (Or.inr ⟨ha, hb, o, ho, by have := (hV.2.2.2 p hp).2.1.1; omega, rfl, h⟩)
      · have hy := vSl_32 (hV.2.2.2 p hp).2.1.1 (hvR.1 p hp x y h1).2
        rw [(e1 p hp).1] at h1 h2 ⊢
        exact oCl_t 32 y hy x z h1 h2
    · rw [if_pos rfl]
      have := oCn_lt (I := S.2) (J := (oRd Γ Γ.2.1 S).2) (fun s a b => oRd_le Γ.2.1 s a b) hn
      exact ih _ (by omega) hvR (fun p hp x y h => grow S _ p x y (hN p hp x y h))
/-- what is induced comes of a production -/
def oOc (Γ : GRT) (s : Nat) : Prop := ∃ p o, p < Γ.2.1 ∧ o ≤ (Γ.2.2.1 p).2.1 ∧ (Γ.2.2.1 p).2.2.1 o = s
theorem oRd_oc {Γ : GRT} {S : OST} (h : ∀ s a b, S.2 s a b = true → oOc Γ s) : ∀ k, k ≤ Γ.2.1 → ∀ s a b, (oRd Γ k S).2 s a b = true → oOc Γ s
  | 0, _, s, a, b, hx => h s a b hx
  | k + 1, hk, s, a, b, hx => by
    rcases oIc_i.mp hx with hx | ⟨_, _, o, h3, _, h5, _⟩
    · exact oRd_oc h k (by omega) s a b hx
    · exact ⟨k, o, by omega, h3, h5⟩
theorem oIt_oc {Γ : GRT} : ∀ f S, (∀ s a b, S.2 s a b = true → oOc Γ s) → ∀ s a b, (oIt Γ f S).2 s a b = true → oOc Γ s
  | 0, S, h, s, a, b, hx => h s a b hx
  | f + 1, S, h, s, a, b, hx => by
    rw [oIt] at hx
    split at hx
    · exact oIt_oc f _ (oRd_oc h _ (Nat.le_refl _)) s a b hx
    · exact oRd_oc h _ (Nat.le_refl _) s a b hx
def oEnd (Γ : GRT) : OST := oIt Γ 769 (ord0 Γ)
theorem oEnd_fx {Γ : GRT} (hV : GRV Γ) : oFx Γ (oEnd Γ) := oIt_fx hV 769 (ord0 Γ) (by omega) (ord0_V hV) (fun p _ x y h => h)
/-- no circle: what is induced is an order -/
theorem oEnd_ord {Γ : GRT} (hV : GRV Γ) (hc : ∀ p, p < Γ.2.1 → crc ((oEnd Γ).1 p) = false) : (∀ s a, (oEnd Γ).2 s a a = false) ∧ ∀ s a b c, (oEnd Γ).2 s a b = true → (oEnd Γ).2 s b c = true → (oEnd Γ).2 s a c = true := by
  obtain ⟨hv, hf⟩ := oEnd_fx hV
  have oc := oIt_oc (Γ := Γ) 769 (ord0 Γ) (fun s a b h => absurd h Bool.false_ne_true)
  constructor
  · intro s a
    cases h : (oEnd Γ).2 s a a
    · rfl
    · obtain ⟨p, o, hp, ho, he⟩ := oc s a a h
      obtain ⟨x1, x2, x3⟩ := hv.2 s a a h
      have c8 := (hV.1.2.2 s x1).2.1
      have h3 := (hV.2.2.2 p hp).2.1.1
      rw [← he] at h
      have := ((hf p hp).2.1 o a a ho (by omega) (by omega)).mp h
      have hcc := crc_i.mpr ⟨8 * o + a, by omega, this⟩
      rw [hc p hp] at hcc; exact absurd hcc Bool.false_ne_true
  · intro s a b c h1 h2
    obtain ⟨p, o, hp, ho, he⟩ := oc s a b h1
    obtain ⟨x1, x2, x3⟩ := hv.2 s a b h1
    obtain ⟨y1, y2, y3⟩ := hv.2 s b c h2
    have c8 := (hV.1.2.2 s x1).2.1
    subst he
    have q1 := ((hf p hp).2.1 o a b ho (by omega) (by omega)).mp h1
    have q2 := ((hf p hp).2.1 o b c ho (by omega) (by omega)).mp h2
    exact ((hf p hp).2.1 o a c ho (by omega) (by omega)).mpr ((hf p hp).2.2 _ _ _ q1 q2)
