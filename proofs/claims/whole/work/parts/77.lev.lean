/-! ===== levels: the picture ===== -/
def lfr (dn : Nat → Bool) (n k : Nat) (L : Nat → Nat) (a : Nat) : Bool := decide (a < n ∧ L a = 0) && (dn a == decide (k % 2 = 0))
/-- those of level k -/
def lck (J : MX2) (dn : Nat → Bool) (n k : Nat) (L : Nat → Nat) (a : Nat) : Bool := lfr dn n k L a && (List.range n).all (fun b => !(J b a) || (decide (0 < L b) || lfr dn n k L b))
def lsk (J : MX2) (dn : Nat → Bool) (n k : Nat) (L : Nat → Nat) : Nat → Nat := fun a => if lck J dn n k L a then k else L a
def lal (n : Nat) (L : Nat → Nat) : Bool := (List.range n).all (fun a => decide (0 < L a))
def lvI (J : MX2) (dn : Nat → Bool) (n : Nat) : Nat → Nat → (Nat → Nat) → Nat → Nat
  | 0, _, L => L
  | f + 1, k, L => if lal n L then L else lvI J dn n f (k + 1) (lsk J dn n k L)
/-- the last level -/
def lhI (J : MX2) (dn : Nat → Bool) (n : Nat) : Nat → Nat → (Nat → Nat) → Nat → Nat
  | 0, _, _, h => h
  | f + 1, k, L, h => if lal n L then h else lhI J dn n f (k + 1) (lsk J dn n k L) k
def lv0 : Nat → Nat := fun _ => 0
def lvl (J : MX2) (dn : Nat → Bool) (n : Nat) : Nat → Nat := lvI J dn n 9 1 lv0
def lvh (J : MX2) (dn : Nat → Bool) (n : Nat) : Nat := lhI J dn n 9 1 lv0 1
theorem lfr_i {dn : Nat → Bool} {n k : Nat} {L : Nat → Nat} {a : Nat} : lfr dn n k L a = true ↔ a < n ∧ L a = 0 ∧ dn a = decide (k % 2 = 0) := by
  unfold lfr
  rw [Bool.and_eq_true, decide_eq_true_eq]
  exact ⟨fun h => ⟨h.1.1, h.1.2, eq_of_beq h.2⟩, fun h => ⟨⟨h.1, h.2.1⟩, by rw [h.2.2]; exact beq_self_eq_true _⟩⟩
theorem lck_i {J : MX2} {dn : Nat → Bool} {n k : Nat} {L : Nat → Nat} {a : Nat} : lck J dn n k L a = true ↔ lfr dn n k L a = true ∧ ∀ b, b < n → J b a = true → 0 < L b ∨ lfr dn n k L b = true := by
  unfold lck
  rw [Bool.and_eq_true, List.all_eq_true]
  constructor
  · rintro ⟨h1, h2⟩
    refine ⟨h1, fun b hb hj => ?_⟩
    have := h2 b (List.mem_range.mpr hb)
    rw [hj, Bool.not_true, Bool.false_or, Bool.or_eq_true, decide_eq_true_eq] at this
    exact this
  · rintro ⟨h1, h2⟩
    refine ⟨h1, fun b hb => ?_⟩
    have hb := List.mem_range.mp hb
    cases hj : J b a
    · rfl
    · rw [Bool.not_true, Bool.false_or, Bool.or_eq_true, decide_eq_true_eq]
      exact h2 b hb hj
theorem lal_i {n : Nat} {L : Nat → Nat} : lal n L = true ↔ ∀ a, a < n → 0 < L a := by
  unfold lal
  rw [List.all_eq_true]
  exact ⟨fun h a ha => of_decide_eq_true (h a (List.mem_range.mpr ha)), fun h a ha => decide_eq_true (h a (List.mem_range.mp ha))⟩
/-- an order on the attributes of a symbol -/
def lOd (J : MX2) (n : Nat) : Prop := (∀ a, J a a = false) ∧ (∀ a b c, J a b = true → J b c = true → J a c = true) ∧ ∀ a b, J a b = true → a < n ∧ b < n
section LV
variable {J : MX2} {dn : Nat → Bool} {n : Nat}
theorem lck_cl (hJ : lOd J n) {k : Nat} {L : Nat → Nat} {a b : Nat} (h : lck J dn n k L a = true) (hb : J b a = true) : 0 < L b ∨ lck J dn n k L b = true := by
  obtain ⟨h1, h2⟩ := lck_i.mp h
  rcases h2 b (hJ.2.2 b a hb).1 hb with z | z
  · exact Or.inl z
  · exact Or.inr (lck_i.mpr ⟨z, fun c hc hcb => h2 c hc (hJ.2.1 c b a hcb hb)⟩)
/-- how many depend on it -/
def lrk (J : MX2) (n a : Nat) : Nat := cnt (fun b => J b a) n
theorem lrk_lt (hJ : lOd J n) {a b : Nat} (h : J b a = true) : lrk J n b < lrk J n a :=
  (cnt_lt (f := fun c => J c b) (g := fun c => J c a) (fun c hc => hJ.2.1 c b a hc h) (j := b) (hJ.1 b) h n).2 (hJ.2.2 b a h).1
/-- by how many depend on it -/
theorem l_ind (hJ : lOd J n) {P : Nat → Prop} (h : ∀ a, (∀ b, J b a = true → P b) → P a) : ∀ a, P a := by
  have H : ∀ m a, lrk J n a ≤ m → P a := by
    intro m
    induction m with
    | zero => intro a ha; exact h a (fun b hb => by have := lrk_lt hJ hb; omega)
    | succ m ih => intro a ha; exact h a (fun b hb => ih b (by have := lrk_lt hJ hb; omega))
  exact fun a => H _ a (Nat.le_refl _)
theorem par2 (k : Nat) : decide ((k + 1) % 2 = 0) = !decide (k % 2 = 0) := by
  by_cases h : k % 2 = 0
  · rw [decide_eq_true h, decide_eq_false (show ¬ (k + 1) % 2 = 0 by omega)]; rfl
  · rw [decide_eq_false h, decide_eq_true (show (k + 1) % 2 = 0 by omega)]; rfl
/-- the level before took all of its kind that it could -/
def lSt (J : MX2) (dn : Nat → Bool) (n k : Nat) (L : Nat → Nat) : Prop := ∀ a, a < n → L a = 0 → dn a = decide ((k + 1) % 2 = 0) → ∃ b, J b a = true ∧ L b = 0
theorem lSt_s (hJ : lOd J n) {k : Nat} (hk : 0 < k) {L : Nat → Nat} : lSt J dn n (k + 1) (lsk J dn n k L) := by
  intro a ha h0 hd
  unfold lsk at h0
  have hc : lck J dn n k L a = false := by
    cases hc : lck J dn n k L a
    · rfl
    · rw [hc, if_pos rfl] at h0; omega
  rw [hc, if_neg (by decide)] at h0
  have hp : dn a = decide (k % 2 = 0) := by rw [hd, par2, par2, Bool.not_not]
  have hf : lfr dn n k L a = true := lfr_i.mpr ⟨ha, h0, hp⟩
  apply Classical.byContradiction
  intro hn
  have : lck J dn n k L a = true := by
    refine lck_i.mpr ⟨hf, fun b hb hj => ?_⟩
    rcases Nat.eq_zero_or_pos (L b) with z | z
    · right
      cases hfb : lfr dn n k L b
      · exfalso
        apply hn
        refine ⟨b, hj, ?_⟩
        unfold lsk
        have : lck J dn n k L b = false := by
          cases hcb : lck J dn n k L b
          · rfl
          · rw [(lck_i.mp hcb).1] at hfb; exact absurd hfb (by decide)
        rw [this, if_neg (by decide)]; exact z
      · rfl
    · exact Or.inl z
  rw [this] at hc; exact absurd hc (by decide)
/-- a level behind the first takes something -/
theorem l_some (hJ : lOd J n) {k : Nat} {L : Nat → Nat} (hs : lSt J dn n k L) (ha : lal n L = false) : ∃ a, lck J dn n k L a = true := by
  have H : ∀ a, a < n → L a = 0 → ∃ a, lck J dn n k L a = true := by
    refine l_ind hJ (fun a ih han h0 => ?_)
    by_cases hb : ∃ b, J b a = true ∧ L b = 0
    · obtain ⟨b, h1, h2⟩ := hb
      exact ih b h1 (hJ.2.2 b a h1).1 h2
    · have hp : dn a = decide (k % 2 = 0) := by
        cases hd : dn a
        · cases hk : decide (k % 2 = 0)
          · rfl
          · exact absurd (hs a han h0 (by rw [hd, par2, hk]; rfl)) hb
        · cases hk : decide (k % 2 = 0)
          · exact absurd (hs a han h0 (by rw [hd, par2, hk]; rfl)) hb
          · rfl
      refine ⟨a, lck_i.mpr ⟨lfr_i.mpr ⟨han, h0, hp⟩, fun b _ hj => ?_⟩⟩
      rcases Nat.eq_zero_or_pos (L b) with z | z
      · exact absurd ⟨b, hj, z⟩ hb
      · exact Or.inl z
  apply Classical.byContradiction
  intro hn
  have : lal n L = true := lal_i.mpr (fun a han => by
    rcases Nat.eq_zero_or_pos (L a) with z | z
    · exact absurd (H a han z) hn
    · exact z)
  rw [this] at ha; exact absurd ha (by decide)
def ldn (n : Nat) (L : Nat → Nat) : Nat := cnt (fun a => decide (0 < L a)) n
theorem ldn_s {k : Nat} (hk : 0 < k) {L : Nat → Nat} (h : ∃ a, lck J dn n k L a = true) : ldn n L < ldn n (lsk J dn n k L) := by
  obtain ⟨a, ha⟩ := h
  have hf := lfr_i.mp (lck_i.mp ha).1
  refine (cnt_lt (f := fun a => decide (0 < L a)) (g := fun a => decide (0 < lsk J dn n k L a)) (fun i hi => ?_) (j := a) ?_ ?_ n).2 hf.1
  · have hi := of_decide_eq_true hi
    refine decide_eq_true ?_
    unfold lsk
    split
    · exact hk
    · exact hi
  · exact decide_eq_false (by omega)
  · refine decide_eq_true ?_
    unfold lsk
    rw [if_pos ha]; exact hk
theorem lal_n {L : Nat → Nat} (h : n ≤ ldn n L) : lal n L = true := by
  refine lal_i.mpr (fun a ha => ?_)
  rcases Nat.eq_zero_or_pos (L a) with z | z
  · exfalso
    have := (cnt_lt (f := fun a => decide (0 < L a)) (g := fun _ => true) (fun _ _ => rfl) (j := a) (decide_eq_false (by omega)) rfl n).2 ha
    have h2 := cnt_le (fun _ => true) n
    unfold ldn at h
    omega
  · exact z
theorem lvI_al (hJ : lOd J n) : ∀ f k L, 0 < k → lSt J dn n k L → n ≤ f + ldn n L → lal n (lvI J dn n f k L) = true
  | 0, k, L, _, _, h => lal_n (L := L) (by omega)
  | f + 1, k, L, hk, hs, h => by
    rw [lvI]
    cases ha : lal n L
    · rw [if_neg (by decide)]
      have := ldn_s hk (l_some hJ hs ha)
      exact lvI_al hJ f (k + 1) _ (by omega) (lSt_s hJ hk) (by omega)
    · rw [if_pos rfl]; exact ha
theorem lvl_al (hJ : lOd J n) (h8 : n ≤ 8) : lal n (lvl J dn n) = true := by
  unfold lvl
  rw [lvI]
  cases ha : lal n lv0
  · rw [if_neg (by decide)]
    exact lvI_al hJ 8 2 _ (by omega) (lSt_s hJ (by omega)) (by omega)
  · rw [if_pos rfl]; exact ha
/-- what a level's taking keeps -/
theorem lvI_ge {k : Nat} (hk : 0 < k) : ∀ f {L : Nat → Nat} {a : Nat}, 0 < L a → lvI J dn n f k L a = L a := by
  intro f
  induction f generalizing k with
  | zero => intro L a h; rfl
  | succ f ih =>
    intro L a h
    rw [lvI]
    split
    · rfl
    · have e : lsk J dn n k L a = L a := by
        unfold lsk
        cases hc : lck J dn n k L a
        · rfl
        · have := (lfr_i.mp (lck_i.mp hc).1).2.1; omega
      rw [ih (k := k + 1) (by omega) (by rw [e]; exact h), e]
end LV
