/-! ===== plans are complete ===== -/
/-- what is there, by where it comes from -/
def plK (Γ : GRT) (p v : Nat) (T : PLT) : Prop := ∀ x, T.th x = true ↔ T.ev x = true ∨ (x / 8 = 0 ∧ x % 8 < Γ.1.2.2.1 (hdS Γ p) ∧ Γ.1.2.2.2.1 (hdS Γ p) (x % 8) = true ∧ vOf Γ (hdS Γ p) (x % 8) ≤ v) ∨ (1 ≤ x / 8 ∧ x / 8 ≤ (Γ.2.2.1 p).2.1 ∧ x % 8 < Γ.1.2.2.1 ((Γ.2.2.1 p).2.2.1 (x / 8)) ∧ Γ.1.2.2.2.1 ((Γ.2.2.1 p).2.2.1 (x / 8)) (x % 8) = false ∧ vOf Γ ((Γ.2.2.1 p).2.2.1 (x / 8)) (x % 8) ≤ T.vs (x / 8))
/-- nothing more can be done -/
def plX (Γ : GRT) (p : Nat) (T : PLT) : Prop := (∀ x, x < 32 → rdy Γ p x T.th = true → T.ev x = true) ∧ ∀ o, 1 ≤ o → o ≤ (Γ.2.2.1 p).2.1 → cvi Γ p o (T.vs o + 1) T.th = false
theorem addV_i {Γ : GRT} {p o w x : Nat} {d : Bool} {th : Nat → Bool} : addV Γ p o w d th x = true ↔ th x = true ∨ (x / 8 = o ∧ x % 8 < Γ.1.2.2.1 ((Γ.2.2.1 p).2.2.1 o) ∧ vOf Γ ((Γ.2.2.1 p).2.2.1 o) (x % 8) = w ∧ Γ.1.2.2.2.1 ((Γ.2.2.1 p).2.2.1 o) (x % 8) = d) := by
  unfold addV inV
  rw [Bool.or_eq_true, Bool.and_eq_true, Bool.and_eq_true, decide_eq_true_eq, decide_eq_true_eq, beq_iff_eq]
  constructor
  · rintro (h | ⟨a, ⟨b, c⟩, d⟩)
    · exact Or.inl h
    · exact Or.inr ⟨a, b, c, d⟩
  · rintro (h | ⟨a, b, c, d⟩)
    · exact Or.inl h
    · exact Or.inr ⟨a, ⟨b, c⟩, d⟩
section PC
variable {Γ : GRT} {p v : Nat}
theorem plK_0 (hV : GRV Γ) (hL : LVF Γ) (hp : p < Γ.2.1) : plK Γ p 0 pl0 := by
  have hpv := (hV.2.2.2 p hp).2.1
  intro x
  constructor
  · intro h; exact absurd h Bool.false_ne_true
  · rintro (h | ⟨a, b, c, d⟩ | ⟨a, b, c, d, e⟩)
    · exact h
    · have := (hL.vof _ (hpv.2.1 0 (Nat.zero_le _)) _ b).1
      have d : vOf Γ ((Γ.2.2.1 p).2.2.1 0) (x % 8) ≤ 0 := d
      omega
    · have := (hL.vof _ (hpv.2.1 _ b) _ c).1
      have e : vOf Γ ((Γ.2.2.1 p).2.2.1 (x / 8)) (x % 8) ≤ 0 := e
      omega
theorem plK_E {T : PLT} (x : Nat) (h : plK Γ p v T) : plK Γ p v (plE Γ p v x T) := by
  unfold plE
  split
  · intro y
    show uf T.th x true y = true ↔ uf T.ev x true y = true ∨ _
    by_cases e : y = x
    · rw [e, uf_s, uf_s]; exact ⟨fun _ => Or.inl rfl, fun _ => rfl⟩
    · rw [uf_o _ _ e, uf_o _ _ e]; exact h y
  · exact h
theorem plK_V {T : PLT} {o : Nat} (ho : 1 ≤ o) (ho2 : o ≤ (Γ.2.2.1 p).2.1) (h : plK Γ p v T) : plK Γ p v (plV Γ p v o T) := by
  unfold plV
  split
  · intro y
    show addV Γ p o (T.vs o + 1) false T.th y = true ↔ T.ev y = true ∨ _ ∨ (1 ≤ y / 8 ∧ y / 8 ≤ (Γ.2.2.1 p).2.1 ∧ y % 8 < Γ.1.2.2.1 ((Γ.2.2.1 p).2.2.1 (y / 8)) ∧ Γ.1.2.2.2.1 ((Γ.2.2.1 p).2.2.1 (y / 8)) (y % 8) = false ∧ vOf Γ ((Γ.2.2.1 p).2.2.1 (y / 8)) (y % 8) ≤ uf T.vs o (T.vs o + 1) (y / 8))
    rw [addV_i, h y]
    by_cases e : y / 8 = o
    · rw [e, uf_s]
      constructor
      · rintro ((a | a | ⟨a, b, c, d, e⟩) | ⟨a, b, c, d⟩)
        · exact Or.inl a
        · exact Or.inr (Or.inl a)
        · exact Or.inr (Or.inr ⟨a, b, c, d, by omega⟩)
        · exact Or.inr (Or.inr ⟨ho, ho2, b, d, by omega⟩)
      · rintro (a | a | ⟨a, b, c, d, e⟩)
        · exact Or.inl (Or.inl a)
        · exact Or.inl (Or.inr (Or.inl a))
        · by_cases z : vOf Γ ((Γ.2.2.1 p).2.2.1 o) (y % 8) = T.vs o + 1
          · exact Or.inr ⟨rfl, c, z, d⟩
          · exact Or.inl (Or.inr (Or.inr ⟨a, b, c, d, by omega⟩))
    · rw [uf_o _ _ e]
      constructor
      · rintro (a | ⟨a, _⟩)
        · exact a
        · exact absurd a e
      · exact Or.inl
  · exact h
theorem plK_D {T : PLT} (h : plK Γ p v T) : plK Γ p (v + 1) (plD Γ p (v + 1) T) := by
  intro y
  show addV Γ p 0 (v + 1) true T.th y = true ↔ _
  rw [addV_i, h y]
  have e0 : (Γ.2.2.1 p).2.2.1 0 = hdS Γ p := rfl
  rw [e0]
  constructor
  · rintro ((a | ⟨a, b, c, d⟩ | a) | ⟨a, b, c, d⟩)
    · exact Or.inl a
    · exact Or.inr (Or.inl ⟨a, b, c, by omega⟩)
    · exact Or.inr (Or.inr a)
    · exact Or.inr (Or.inl ⟨a, b, d, by omega⟩)
  · rintro (a | ⟨a, b, c, d⟩ | a)
    · exact Or.inl (Or.inl a)
    · by_cases z : vOf Γ (hdS Γ p) (y % 8) = v + 1
      · exact Or.inr ⟨a, b, z, c⟩
      · exact Or.inl (Or.inr (Or.inl ⟨a, b, c, by omega⟩))
    · exact Or.inl (Or.inr (Or.inr a))
theorem plK_Es : ∀ k {T : PLT}, plK Γ p v T → plK Γ p v (plEs Γ p v k T)
  | 0, _, h => h
  | k + 1, _, h => plK_E k (plK_Es k h)
theorem plK_Vs : ∀ k {T : PLT}, k ≤ (Γ.2.2.1 p).2.1 → plK Γ p v T → plK Γ p v (plVs Γ p v k T)
  | 0, _, _, h => h
  | k + 1, _, hk, h => plK_V (by omega) hk (plK_Vs k (by omega) h)
theorem plK_R {T : PLT} (h : plK Γ p v T) : plK Γ p v (plR Γ p v T) := plK_Vs _ (Nat.le_refl _) (plK_Es 32 h)
theorem plK_L : ∀ f {T : PLT}, plK Γ p v T → plK Γ p v (plL Γ p v f T)
  | 0, _, h => h
  | f + 1, T, h => by
    rw [plL]
    split
    · exact plK_L f (plK_R h)
    · exact plK_R h
theorem plK_A (hV : GRV Γ) (hL : LVF Γ) (hp : p < Γ.2.1) : ∀ v, plK Γ p v (plA Γ p v pl0)
  | 0 => plK_0 hV hL hp
  | v + 1 => plK_L 48 (plK_D (plK_A hV hL hp v))
theorem plEs_fx {T : PLT} : ∀ k, (plEs Γ p v k T).es.length ≤ T.es.length → plEs Γ p v k T = T ∧ ∀ x, x < k → ¬ (rdy Γ p x T.th = true ∧ T.ev x = false)
  | 0, _ => ⟨rfl, fun x hx => absurd hx (Nat.not_lt_zero _)⟩
  | k + 1, h => by
    have h : (plE Γ p v k (plEs Γ p v k T)).es.length ≤ T.es.length := h
    have h2 := plE_len (Γ := Γ) (p := p) (v := v) (T := plEs Γ p v k T) k
    obtain ⟨e, hx⟩ := plEs_fx k (T := T) (by omega)
    rw [e] at h h2
    have hc : ¬ (rdy Γ p k T.th = true ∧ T.ev k = false) := by
      intro hc
      unfold plE at h
      rw [if_pos hc] at h
      have h : (T.es ++ [(enc k, v, 0)]).length ≤ T.es.length := h
      rw [List.length_append, List.length_singleton] at h; omega
    refine ⟨?_, fun x hx2 => ?_⟩
    · show plE Γ p v k (plEs Γ p v k T) = T
      rw [e]; unfold plE; rw [if_neg hc]
    · by_cases ex : x = k
      · rw [ex]; exact hc
      · exact hx x (by omega)
theorem plVs_fx {T : PLT} : ∀ k, (plVs Γ p v k T).es.length ≤ T.es.length → plVs Γ p v k T = T ∧ ∀ o, 1 ≤ o → o ≤ k → cvi Γ p o (T.vs o + 1) T.th = false
  | 0, _ => ⟨rfl, fun o h1 h2 => by omega⟩
  | k + 1, h => by
    have h : (plV Γ p v (k + 1) (plVs Γ p v k T)).es.length ≤ T.es.length := h
    have h2 := plV_len (Γ := Γ) (p := p) (v := v) (T := plVs Γ p v k T) (k + 1)
    obtain ⟨e, hx⟩ := plVs_fx k (T := T) (by omega)
    rw [e] at h h2
    have hc : cvi Γ p (k + 1) (T.vs (k + 1) + 1) T.th = false := by
      cases hc : cvi Γ p (k + 1) (T.vs (k + 1) + 1) T.th
      · rfl
      · exfalso
        unfold plV at h
        rw [if_pos hc] at h
        have h : (T.es ++ [(k + 1, v, T.vs (k + 1) + 1)]).length ≤ T.es.length := h
        rw [List.length_append, List.length_singleton] at h; omega
    refine ⟨?_, fun o h1 hx2 => ?_⟩
    · show plV Γ p v (k + 1) (plVs Γ p v k T) = T
      rw [e]; unfold plV; rw [hc, if_neg (by decide)]
    · by_cases ex : o = k + 1
      · rw [ex]; exact hc
      · exact hx o h1 (by omega)
theorem plR_fx {T : PLT} (h : (plR Γ p v T).es.length ≤ T.es.length) : plR Γ p v T = T ∧ plX Γ p T := by
  have h1 := plEs_len (Γ := Γ) (p := p) (v := v) (T := T) 32
  have h2 := plVs_len (Γ := Γ) (p := p) (v := v) (T := plEs Γ p v 32 T) (Γ.2.2.1 p).2.1
  have h : (plVs Γ p v (Γ.2.2.1 p).2.1 (plEs Γ p v 32 T)).es.length ≤ T.es.length := h
  obtain ⟨e, a⟩ := plEs_fx (Γ := Γ) (p := p) (v := v) (T := T) 32 (by omega)
  rw [e] at h
  obtain ⟨e2, b⟩ := plVs_fx _ h
  refine ⟨?_, fun x hx hr => ?_, b⟩
  · show plVs Γ p v (Γ.2.2.1 p).2.1 (plEs Γ p v 32 T) = T
    rw [e]; exact e2
  · cases he : T.ev x
    · exact absurd ⟨hr, he⟩ (a x hx)
    · rfl
theorem plL_fx (hV : GRV Γ) (hL : LVF Γ) (hp : p < Γ.2.1) : ∀ f {T : PLT}, 48 ≤ T.es.length + f → plI Γ p T → plX Γ p (plL Γ p v f T)
  | 0, T, h, hI => by have := plI_47 hI; omega
  | f + 1, T, h, hI => by
    rw [plL]
    split
    · exact plL_fx hV hL hp f (by omega) (plI_R hL hV hp hI)
    · have := plR_fx (Γ := Γ) (p := p) (v := v) (T := T) (by omega)
      rw [this.1]; exact this.2
theorem plA_fx (hV : GRV Γ) (hL : LVF Γ) (hp : p < Γ.2.1) (h1 : 1 ≤ v) : plX Γ p (plA Γ p v pl0) := by
  obtain ⟨k, rfl⟩ : ∃ k, v = k + 1 := ⟨v - 1, by omega⟩
  exact plL_fx hV hL hp 48 (T := plD Γ p (k + 1) (plA Γ p k pl0)) (by omega) (plI_A hL hV hp k)
/-! the order of slots -/
theorem xR_nm {x y : Nat} (h : nmd Γ p x y = true) : xR Γ p x y = true := oCl_le 32 x y (by unfold oAdd; rw [h]; rfl)
theorem xR_t {x y z : Nat} (hy : y < 32) (h1 : xR Γ p x y = true) (h2 : xR Γ p y z = true) : xR Γ p x z = true := oCl_t 32 y hy x z h1 h2
theorem xR_l1 (hV : GRV Γ) (hp : p < Γ.2.1) {o a b : Nat} (ho : o ≤ (Γ.2.2.1 p).2.1) (ha : a < Γ.1.2.2.1 ((Γ.2.2.1 p).2.2.1 o)) (hb : b < Γ.1.2.2.1 ((Γ.2.2.1 p).2.2.1 o)) (h : slv Γ ((Γ.2.2.1 p).2.2.1 o) b = slv Γ ((Γ.2.2.1 p).2.2.1 o) a + 1) : xR Γ p (8 * o + a) (8 * o + b) = true := by
  have hs := (hV.2.2.2 p hp).2.1.2.1 o ho
  have c8 := (hV.1.2.2 _ hs).2.1
  refine oCl_le 32 _ _ ?_
  unfold oAdd lvR
  rw [show (8 * o + a) / 8 = o by omega, show (8 * o + b) / 8 = o by omega, show (8 * o + a) % 8 = a by omega, show (8 * o + b) % 8 = b by omega, decide_eq_true (show o = o from rfl), decide_eq_true ho, decide_eq_true (show Γ.2.2.1 p |>.2.2.1 o |> fun s => s < Γ.1.1 ∧ a < Γ.1.2.2.1 s ∧ b < Γ.1.2.2.1 s ∧ slv Γ s b = slv Γ s a + 1 from ⟨hs, ha, hb, h⟩)]
  simp
theorem xR_lv (hV : GRV Γ) (hL : LVF Γ) (hp : p < Γ.2.1) {o b : Nat} (ho : o ≤ (Γ.2.2.1 p).2.1) (hb : b < Γ.1.2.2.1 ((Γ.2.2.1 p).2.2.1 o)) : ∀ d a, a < Γ.1.2.2.1 ((Γ.2.2.1 p).2.2.1 o) → slv Γ ((Γ.2.2.1 p).2.2.1 o) b = slv Γ ((Γ.2.2.1 p).2.2.1 o) a + 1 + d → xR Γ p (8 * o + a) (8 * o + b) = true := by
  have hs := (hV.2.2.2 p hp).2.1.2.1 o ho
  have h3 := (hV.2.2.2 p hp).2.1.1
  have c8 := (hV.1.2.2 _ hs).2.1
  intro d
  induction d with
  | zero => intro a ha h; exact xR_l1 hV hp ho ha hb h
  | succ d ih =>
    intro a ha h
    have hpos := hL.pos _ hs a ha
    obtain ⟨c, hc, hcl⟩ := hL.con _ hs b hb (slv Γ ((Γ.2.2.1 p).2.2.1 o) a + 1) (by omega) (by omega)
    exact xR_t (y := 8 * o + c) (by omega) (xR_l1 hV hp ho ha hc hcl) (ih c hc (by omega))
/-- by what a slot depends on -/
theorem x_ind (hx : ∀ x, x < 32 → xR Γ p x x = false) {P : Nat → Prop} (h : ∀ x, x < 32 → (∀ y, y < 32 → xR Γ p x y = true → P y) → P x) : ∀ x, x < 32 → P x := by
  have hJ : lOd (fun y x => decide (x < 32 ∧ y < 32) && xR Γ p x y) 32 := by
    refine ⟨fun a => ?_, fun a b c h1 h2 => ?_, fun a b h1 => ?_⟩
    · by_cases ha : a < 32
      · show (_ && xR Γ p a a) = false
        rw [hx a ha, Bool.and_false]
      · show (decide (a < 32 ∧ a < 32) && _) = false
        rw [decide_eq_false (by omega)]; rfl
    · rw [Bool.and_eq_true, decide_eq_true_eq] at h1 h2 ⊢
      exact ⟨⟨h2.1.1, h1.1.2⟩, xR_t h1.1.1 h2.2 h1.2⟩
    · rw [Bool.and_eq_true, decide_eq_true_eq] at h1
      exact ⟨h1.1.2, h1.1.1⟩
  have := l_ind hJ (P := fun x => x < 32 → P x) (fun a ih ha => h a ha (fun y hy hxy => ih y (by rw [Bool.and_eq_true, decide_eq_true_eq]; exact ⟨⟨ha, hy⟩, hxy⟩) hy))
  exact this
end PC
