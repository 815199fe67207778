/-! ===== trees: what holds when they are read ===== -/
section TR
variable {Γ : GRT} {t : Nat → Nat} {n q : Nat} {T : TST}
/-- ready for a node more -/
def TRy (Γ : GRT) (T : TST) : Prop := (T.ab = 0 → T.N = 0) ∧ (T.ab ≠ 0 → T.nc (T.ab - 1) < rt Γ (T.pr (T.ab - 1)))
/-- a node more, its children to be read -/
def TAf (Γ : GRT) (T T' : TST) : Prop := T'.N = T.N + 1 ∧ T'.ab = T.ab ∧ (∀ k, k < T'.N → TNo Γ T' k) ∧ (∀ k, k < T.N → T'.nc k < rt Γ (T'.pr k) → ∃ i, pit T' i T.ab = k + 1) ∧ T'.pr T.N < Γ.2.1 ∧ T'.nc T.N = 0 ∧ T'.pa T.N = T.ab
theorem tH_I (h : TI Γ T) (hr : TRy Γ T) (hs : (tH Γ t n T q).1 = true) : TAf Γ T (tH Γ t n T q).2.2 := by
  have key : ∀ p, p < Γ.2.1 → hdS Γ p = tSy Γ T → TAf Γ T (tAd T p) ∧ ∀ v, TAf Γ T (tLi (tAd T p) v) := by
    intro p hp hy
    obtain ⟨a1, a2, a3, a4, a5, a6⟩ := TI_ad h hp hy hr.1 hr.2
    have base : TAf Γ T (tAd T p) := ⟨rfl, rfl, a2, a3, by rw [a4]; exact hp, a5, a6⟩
    refine ⟨base, fun v => ⟨rfl, rfl, a2, fun k hk hn => ?_, by rw [← a4] at hp; exact hp, a5, a6⟩⟩
    obtain ⟨i, hi⟩ := a3 k hk hn
    refine ⟨i, ?_⟩
    have e : ∀ i a, pit (tLi (tAd T p) v) i a = pit (tAd T p) i a := by
      intro i
      induction i with
      | zero => intro a; rfl
      | succ i ih => intro a; rw [pit_s, pit_s, ih]; rfl
    rw [e]; exact hi
  unfold tH at hs ⊢
  split at hs
  · rename_i k
    rw [if_pos k]
    obtain ⟨k1, k2⟩ := key _ k.2.1 k.2.2
    split at hs
    · rename_i kl
      rw [if_pos kl]
      unfold tL at hs ⊢
      split at hs
      · rename_i k45
        rw [if_pos k45]
        split at hs
        · rename_i k3
          rw [if_pos k3]; exact k2 _
        · exact absurd hs Bool.false_ne_true
      · rename_i k45
        rw [if_neg k45]
        split at hs
        · rename_i k3
          rw [if_pos k3]; exact k2 _
        · exact absurd hs Bool.false_ne_true
    · rename_i kl
      rw [if_neg kl]; exact k1
  · exact absurd hs Bool.false_ne_true
theorem tAb_pit {b : Nat} : ∀ i a, pit (tAb T b) i a = pit T i a := by
  intro i
  induction i with
  | zero => intro a; rfl
  | succ i ih => intro a; rw [pit_s, pit_s, ih]; rfl
/-- a node with no children -/
theorem TAf.leaf {T' : TST} (h : TI Γ T) (a : TAf Γ T T') (h0 : rt Γ (T'.pr T.N) = 0) : TI Γ T' := by
  obtain ⟨a1, a2, a3, a4, a5, a6, a7⟩ := a
  have h1 := h.1
  refine ⟨by omega, a3, fun k hk hn => ?_⟩
  by_cases e : k = T.N
  · rw [e, a6, h0] at hn; exact absurd hn (by omega)
  · rw [a2]; exact a4 k (by omega) hn
/-- a node with children -/
theorem TAf.node {T' : TST} (h : TI Γ T) (a : TAf Γ T T') (h0 : 0 < rt Γ (T'.pr T.N)) : TI Γ (tAb T' (T.N + 1)) ∧ TRy Γ (tAb T' (T.N + 1)) := by
  obtain ⟨a1, a2, a3, a4, a5, a6, a7⟩ := a
  refine ⟨⟨by show T.N + 1 ≤ T'.N; omega, a3, fun k hk hn => ?_⟩, fun z => absurd z (by show T.N + 1 ≠ 0; omega), fun _ => ?_⟩
  · have hk : k < T'.N := hk
    by_cases e : k = T.N
    · exact ⟨0, by show T.N + 1 = k + 1; omega⟩
    · obtain ⟨i, hi⟩ := a4 k (by omega) hn
      refine ⟨i + 1, ?_⟩
      rw [tAb_pit, pit_s]
      show (if T.N + 1 = 0 then 0 else pit T' i (T'.pa (T.N + 1 - 1))) = k + 1
      rw [if_neg (by omega), show T.N + 1 - 1 = T.N by omega, a7]
      exact hi
  · show T'.nc (T.N + 1 - 1) < rt Γ (T'.pr (T.N + 1 - 1))
    rw [show T.N + 1 - 1 = T.N by omega, a6]; exact h0
theorem tC_I : ∀ f T q, TI Γ T → T.ab ≤ f → (tC Γ t n f T q).1 = true → TI Γ (tC Γ t n f T q).2.2 ∧ (tC Γ t n f T q).2.2.N = T.N ∧ ((tC Γ t n f T q).2.2.ab ≠ 0 → (tC Γ t n f T q).2.2.nc ((tC Γ t n f T q).2.2.ab - 1) < rt Γ ((tC Γ t n f T q).2.2.pr ((tC Γ t n f T q).2.2.ab - 1)))
  | 0, T, q, h, hf, _ => ⟨h, rfl, fun z => absurd (Nat.le_zero.mp hf) z⟩
  | f + 1, T, q, h, hf, hs => by
    rw [tC] at hs ⊢
    by_cases k : T.ab = 0 ∨ T.nc (T.ab - 1) < rt Γ (T.pr (T.ab - 1))
    · rw [if_pos k]
      exact ⟨h, rfl, fun z => k.resolve_left z⟩
    · rw [if_neg k] at hs ⊢
      by_cases k2 : tkK t n q = 41
      · rw [if_pos k2] at hs ⊢
        have h0 : T.ab ≠ 0 := fun z => k (Or.inl z)
        have hf2 : ¬ T.nc (T.ab - 1) < rt Γ (T.pr (T.ab - 1)) := fun z => k (Or.inr z)
        have h1 := h.1
        have hp := (h.2.1 (T.ab - 1) (by omega)).2.1
        obtain ⟨r1, r2, r3⟩ := tC_I f (tAb T (T.pa (T.ab - 1))) (nx t n q) (TI_cl h h0 hf2) (by show T.pa (T.ab - 1) ≤ f; omega) hs
        exact ⟨r1, r2, r3⟩
      · rw [if_neg k2] at hs; exact absurd hs Bool.false_ne_true
theorem tN_I (h : TI Γ T) (hr : TRy Γ T) (hN : T.N < 250) : ((tN Γ t n T q).1 = 2 → TI Γ (tN Γ t n T q).2.2 ∧ TRy Γ (tN Γ t n T q).2.2 ∧ (tN Γ t n T q).2.2.N = T.N + 1 ∧ (tN Γ t n T q).2.2.ab ≠ 0) ∧ ((tN Γ t n T q).1 = 1 → TI Γ (tN Γ t n T q).2.2 ∧ (tN Γ t n T q).2.2.N = T.N + 1 ∧ (tN Γ t n T q).2.2.ab = 0) := by
  have h1 := h.1
  unfold tN tJ
  by_cases k : (tH Γ t n T q).1 = true
  · rw [if_pos k]
    have a := tH_I h hr k
    generalize tH Γ t n T q = r at *
    by_cases k2 : 0 < rt Γ (r.2.2.pr T.N)
    · rw [if_pos k2]
      obtain ⟨b1, b2⟩ := a.node h k2
      by_cases k3 : tkK t n r.2.1 = 40
      · rw [if_pos k3]
        exact ⟨fun _ => ⟨b1, b2, a.1, by show T.N + 1 ≠ 0; omega⟩, fun z => absurd z (by show (2 : Nat) ≠ 1; omega)⟩
      · rw [if_neg k3]
        exact ⟨fun z => absurd z (by show (0 : Nat) ≠ 2; omega), fun z => absurd z (by show (0 : Nat) ≠ 1; omega)⟩
    · rw [if_neg k2]
      have b := a.leaf h (by omega)
      unfold tK
      by_cases k3 : (tC Γ t n 250 r.2.2 r.2.1).1 = true
      · rw [if_pos k3]
        obtain ⟨c1, c2, c3⟩ := tC_I 250 r.2.2 r.2.1 b (by have := a.2.1; omega) k3
        generalize tC Γ t n 250 r.2.2 r.2.1 = u at *
        have a1 := a.1
        by_cases k4 : u.2.2.ab = 0
        · rw [if_pos k4]
          by_cases k5 : tkK t n u.2.1 = 0
          · rw [if_pos k5]
            exact ⟨fun z => absurd z (by show (1 : Nat) ≠ 2; omega), fun _ => ⟨c1, by show u.2.2.N = _; omega, k4⟩⟩
          · rw [if_neg k5]
            exact ⟨fun z => absurd z (by show (0 : Nat) ≠ 2; omega), fun z => absurd z (by show (0 : Nat) ≠ 1; omega)⟩
        · rw [if_neg k4]
          by_cases k5 : tkK t n u.2.1 = 44
          · rw [if_pos k5]
            exact ⟨fun _ => ⟨c1, ⟨fun z => absurd z k4, c3⟩, by show u.2.2.N = _; omega, k4⟩, fun z => absurd z (by show (2 : Nat) ≠ 1; omega)⟩
          · rw [if_neg k5]
            exact ⟨fun z => absurd z (by show (0 : Nat) ≠ 2; omega), fun z => absurd z (by show (0 : Nat) ≠ 1; omega)⟩
      · rw [if_neg k3]
        exact ⟨fun z => absurd z (by show (0 : Nat) ≠ 2; omega), fun z => absurd z (by show (0 : Nat) ≠ 1; omega)⟩
  · rw [if_neg k]
    exact ⟨fun z => absurd z (by show (0 : Nat) ≠ 2; omega), fun z => absurd z (by show (0 : Nat) ≠ 1; omega)⟩
/-- a whole tree -/
def TOK (Γ : GRT) (T : TST) : Prop := 1 ≤ T.N ∧ T.N ≤ 250 ∧ ∀ k, k < T.N → TNo Γ T k ∧ T.nc k = rt Γ (T.pr k)
theorem TOK_of (h : TI Γ T) (h0 : T.ab = 0) (h1 : 1 ≤ T.N) (hN : T.N ≤ 250) : TOK Γ T := by
  refine ⟨h1, hN, fun k hk => ⟨h.2.1 k hk, ?_⟩⟩
  have a := (h.2.1 k hk).2.2.2.2.1
  by_cases e : T.nc k < rt Γ (T.pr k)
  · obtain ⟨i, hi⟩ := h.2.2 k hk e
    rw [h0, pit_0] at hi
    exact absurd hi (by omega)
  · omega
theorem tR_I : ∀ f T q, T.N + f = 250 → TI Γ T → TRy Γ T → (tR Γ t n f T q).1 = true → TOK Γ (tR Γ t n f T q).2.2
  | 0, T, q, _, _, _, hs => absurd hs Bool.false_ne_true
  | f + 1, T, q, hf, h, hr, hs => by
    obtain ⟨n2, n1⟩ := tN_I (t := t) (n := n) (q := q) h hr (by omega)
    rw [tR] at hs ⊢
    by_cases k : (tN Γ t n T q).1 = 2
    · rw [if_pos k] at hs ⊢
      obtain ⟨a1, a2, a3, _⟩ := n2 k
      exact tR_I f _ _ (by omega) a1 a2 hs
    · rw [if_neg k] at hs ⊢
      have k1 : (tN Γ t n T q).1 = 1 := of_decide_eq_true hs
      obtain ⟨a1, a2, a3⟩ := n1 k1
      show TOK Γ (tN Γ t n T q).2.2
      exact TOK_of a1 a3 (by omega) (by omega)
theorem pTr_I (h : (pTr Γ t n).1 = true) : TOK Γ (pTr Γ t n).2.2 := tR_I 250 t0 _ rfl (TI_0 Γ) ⟨fun _ => rfl, fun z => absurd rfl z⟩ h
end TR
