/-! ===== what holds of levels and visits ===== -/
/-- levels below k -/
def lIv (J : MX2) (dn : Nat → Bool) (n k : Nat) (L : Nat → Nat) : Prop := (∀ a, n ≤ a → L a = 0) ∧ (∀ a, 0 < L a → L a < k ∧ dn a = decide (L a % 2 = 0) ∧ ∀ b, J b a = true → 0 < L b ∧ L b ≤ L a) ∧ ∀ l, 2 ≤ l → l < k → ∃ b, b < n ∧ L b = l
section LV
variable {J : MX2} {dn : Nat → Bool} {n : Nat}
theorem lIv_s (hJ : lOd J n) {k : Nat} (hk : 0 < k) {L : Nat → Nat} (h : lIv J dn n k L) (hne : 2 ≤ k → ∃ a, lck J dn n k L a = true) : lIv J dn n (k + 1) (lsk J dn n k L) := by
  obtain ⟨h1, h2, h3⟩ := h
  have up : ∀ b, 0 < L b → lsk J dn n k L b = L b := by
    intro b hb
    unfold lsk
    cases hc : lck J dn n k L b
    · rfl
    · have := (lfr_i.mp (lck_i.mp hc).1).2.1; omega
  refine ⟨fun a ha => ?_, fun a ha => ?_, fun l hl1 hl2 => ?_⟩
  · unfold lsk
    have : lck J dn n k L a = false := by
      cases hc : lck J dn n k L a
      · rfl
      · have := (lfr_i.mp (lck_i.mp hc).1).1; omega
    rw [this, if_neg (by decide)]; exact h1 a ha
  · cases hc : lck J dn n k L a
    · have e : lsk J dn n k L a = L a := by unfold lsk; rw [hc, if_neg (by decide)]
      rw [e] at ha ⊢
      obtain ⟨x, y, z⟩ := h2 a ha
      refine ⟨by omega, y, fun b hb => ?_⟩
      obtain ⟨p, q⟩ := z b hb
      rw [up b p]; exact ⟨p, q⟩
    · have e : lsk J dn n k L a = k := by unfold lsk; rw [hc, if_pos rfl]
      rw [e]
      have hf := lfr_i.mp (lck_i.mp hc).1
      refine ⟨by omega, hf.2.2, fun b hb => ?_⟩
      rcases lck_cl hJ hc hb with z | z
      · rw [up b z]; have := (h2 b z).1; exact ⟨z, by omega⟩
      · have eb : lsk J dn n k L b = k := by unfold lsk; rw [z, if_pos rfl]
        rw [eb]; exact ⟨hk, Nat.le_refl _⟩
  · by_cases e : l = k
    · obtain ⟨a, ha⟩ := hne (by omega)
      exact ⟨a, (lfr_i.mp (lck_i.mp ha).1).1, by unfold lsk; rw [ha, if_pos rfl, e]⟩
    · obtain ⟨b, hb1, hb2⟩ := h3 l hl1 (by omega)
      exact ⟨b, hb1, by rw [up b (by omega)]; exact hb2⟩
/-- what the levels are -/
def lOk (J : MX2) (dn : Nat → Bool) (n h : Nat) (L : Nat → Nat) : Prop := ∃ k, lIv J dn n k L ∧ (h = k - 1 ∨ (k = 1 ∧ h = 1)) ∧ 0 < k ∧ k ≤ 10
theorem lv_ok (hJ : lOd J n) : ∀ f k L h, 0 < k → k + f ≤ 10 → lIv J dn n k L → (2 ≤ k → lSt J dn n k L) → (h = k - 1 ∨ (k = 1 ∧ h = 1)) → lOk J dn n (lhI J dn n f k L h) (lvI J dn n f k L)
  | 0, k, L, h, hk, hf, hi, hs, hh => ⟨k, hi, hh, hk, by omega⟩
  | f + 1, k, L, h, hk, hf, hi, hs, hh => by
    rw [lvI, lhI]
    cases ha : lal n L
    · rw [if_neg (by decide), if_neg (by decide)]
      exact lv_ok hJ f (k + 1) _ k (by omega) (by omega) (lIv_s hJ hk hi (fun h2 => l_some hJ (hs h2) ha)) (fun _ => lSt_s hJ hk) (Or.inl (by omega))
    · rw [if_pos rfl, if_pos rfl]
      exact ⟨k, hi, hh, hk, by omega⟩
theorem lvl_ok (hJ : lOd J n) : lOk J dn n (lvh J dn n) (lvl J dn n) := lv_ok hJ 9 1 lv0 1 (by omega) (by omega) ⟨fun _ _ => rfl, fun a h => absurd h (by show ¬ 0 < 0; omega), fun l h1 h2 => by omega⟩ (fun h => by omega) (Or.inr ⟨rfl, rfl⟩)
end LV
/-- the visit of an attribute -/
def vOf (Γ : GRT) (s a : Nat) : Nat := svs Γ s + 1 - (slv Γ s a + 1) / 2
/-- what later parts need of levels and visits -/
def LVF (Γ : GRT) : Prop := (∀ s, s < Γ.1.1 → ∀ a, a < Γ.1.2.2.1 s → 0 < slv Γ s a) ∧ (∀ s, s < Γ.1.1 → ∀ a, a < Γ.1.2.2.1 s → Γ.1.2.2.2.1 s a = decide (slv Γ s a % 2 = 0)) ∧ (∀ s, s < Γ.1.1 → ∀ a b, a < Γ.1.2.2.1 s → (oEnd Γ).2 s b a = true → slv Γ s b ≤ slv Γ s a) ∧ (∀ s, s < Γ.1.1 → ∀ a, a < Γ.1.2.2.1 s → ∀ l, 2 ≤ l → l ≤ slv Γ s a → ∃ b, b < Γ.1.2.2.1 s ∧ slv Γ s b = l) ∧ (∀ s, s < Γ.1.1 → 1 ≤ svs Γ s ∧ svs Γ s ≤ 5) ∧ (∀ s, s < Γ.1.1 → ∀ a, a < Γ.1.2.2.1 s → 1 ≤ vOf Γ s a ∧ vOf Γ s a ≤ svs Γ s ∧ slv Γ s a ≤ 9) ∧ (∀ s a, Γ.1.2.2.1 s ≤ a → slv Γ s a = 0)
theorem LVF.pos {Γ : GRT} (h : LVF Γ) : ∀ s, s < Γ.1.1 → ∀ a, a < Γ.1.2.2.1 s → 0 < slv Γ s a := h.1
theorem LVF.par {Γ : GRT} (h : LVF Γ) : ∀ s, s < Γ.1.1 → ∀ a, a < Γ.1.2.2.1 s → Γ.1.2.2.2.1 s a = decide (slv Γ s a % 2 = 0) := h.2.1
theorem LVF.mon {Γ : GRT} (h : LVF Γ) : ∀ s, s < Γ.1.1 → ∀ a b, a < Γ.1.2.2.1 s → (oEnd Γ).2 s b a = true → slv Γ s b ≤ slv Γ s a := h.2.2.1
theorem LVF.con {Γ : GRT} (h : LVF Γ) : ∀ s, s < Γ.1.1 → ∀ a, a < Γ.1.2.2.1 s → ∀ l, 2 ≤ l → l ≤ slv Γ s a → ∃ b, b < Γ.1.2.2.1 s ∧ slv Γ s b = l := h.2.2.2.1
theorem LVF.vis {Γ : GRT} (h : LVF Γ) : ∀ s, s < Γ.1.1 → 1 ≤ svs Γ s ∧ svs Γ s ≤ 5 := h.2.2.2.2.1
theorem LVF.vof {Γ : GRT} (h : LVF Γ) : ∀ s, s < Γ.1.1 → ∀ a, a < Γ.1.2.2.1 s → 1 ≤ vOf Γ s a ∧ vOf Γ s a ≤ svs Γ s ∧ slv Γ s a ≤ 9 := h.2.2.2.2.2.1
theorem LVF.zer {Γ : GRT} (h : LVF Γ) : ∀ s a, Γ.1.2.2.1 s ≤ a → slv Γ s a = 0 := h.2.2.2.2.2.2
theorem lvf {Γ : GRT} (hV : GRV Γ) (hc : ∀ p, p < Γ.2.1 → crc ((oEnd Γ).1 p) = false) : LVF Γ := by
  have key : ∀ s, lOk ((oEnd Γ).2 s) (Γ.1.2.2.2.1 s) (Γ.1.2.2.1 s) (lvh ((oEnd Γ).2 s) (Γ.1.2.2.2.1 s) (Γ.1.2.2.1 s)) (slv Γ s) := fun s => lvl_ok (oEnd_lod hV hc s)
  have pos : ∀ s, s < Γ.1.1 → ∀ a, a < Γ.1.2.2.1 s → 0 < slv Γ s a := fun s hs a ha => slv_pos hV hc hs ha
  have vis : ∀ s, s < Γ.1.1 → 1 ≤ svs Γ s ∧ svs Γ s ≤ 5 := by
    intro s hs
    obtain ⟨k, h1, h2, h3, h4⟩ := key s
    unfold svs
    rcases h2 with h2 | h2
    · rcases Nat.eq_or_lt_of_le h3 with z | z
      · -- k = 1
        have hk : k = 1 := by omega
        exfalso
        have : lvh ((oEnd Γ).2 s) (Γ.1.2.2.2.1 s) (Γ.1.2.2.1 s) ≠ 0 := by
          have H : ∀ f k L h, 0 < k → 0 < h → 0 < lhI ((oEnd Γ).2 s) (Γ.1.2.2.2.1 s) (Γ.1.2.2.1 s) f k L h := by
            intro f
            induction f with
            | zero => intro k L h _ hh; exact hh
            | succ f ih => intro k L h hk hh; rw [lhI]; split; exact hh; exact ih _ _ _ (by omega) hk
          have := H 9 1 lv0 1 (by omega) (by omega)
          unfold lvh
          omega
        omega
      · omega
    · omega
  refine ⟨pos, fun s hs a ha => ?_, fun s hs a b ha hb => ?_, fun s hs a ha l h1 h2 => ?_, vis, fun s hs a ha => ?_, fun s a ha => ?_⟩
  · obtain ⟨k, h1, _⟩ := key s
    exact (h1.2.1 a (pos s hs a ha)).2.1
  · obtain ⟨k, h1, _⟩ := key s
    exact ((h1.2.1 a (pos s hs a ha)).2.2 b hb).2
  · obtain ⟨k, h3, _⟩ := key s
    have := (h3.2.1 a (pos s hs a ha)).1
    exact h3.2.2 l h1 (by omega)
  · obtain ⟨k, h1, h2, h3, h4⟩ := key s
    have hp := pos s hs a ha
    have hlt := (h1.2.1 a hp).1
    have e : svs Γ s = (lvh ((oEnd Γ).2 s) (Γ.1.2.2.2.1 s) (Γ.1.2.2.1 s) + 1) / 2 := rfl
    unfold vOf
    omega
  · obtain ⟨k, h1, _⟩ := key s
    exact h1.1 a ha
