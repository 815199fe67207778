/-! ===== plans: the picture ===== -/
/-- what is there, what is evaluated, visits made, entries (number, head's visit, visit made), where the rules' and the visits' entries are -/
abbrev PLT : Type := (Nat → Bool) × (Nat → Bool) × (Nat → Nat) × List (Nat × Nat × Nat) × (Nat → Nat) × (Nat → Nat → Nat)
abbrev PLT.th (T : PLT) : Nat → Bool := T.1
abbrev PLT.ev (T : PLT) : Nat → Bool := T.2.1
abbrev PLT.vs (T : PLT) : Nat → Nat := T.2.2.1
abbrev PLT.es (T : PLT) : List (Nat × Nat × Nat) := T.2.2.2.1
abbrev PLT.ea (T : PLT) : Nat → Nat := T.2.2.2.2.1
abbrev PLT.va (T : PLT) : Nat → Nat → Nat := T.2.2.2.2.2
def enc (x : Nat) : Nat := 10 + 10 * (x / 8) + x % 8
def rdy (Γ : GRT) (p x : Nat) (th : Nat → Bool) : Bool := (Γ.2.2.1 p).2.2.2.2.1 x && (List.range 32).all (fun y => !(nmd Γ p x y) || th y)
def plE (Γ : GRT) (p v x : Nat) (T : PLT) : PLT := if rdy Γ p x T.th = true ∧ T.ev x = false then (uf T.th x true, uf T.ev x true, T.vs, T.es ++ [(enc x, v, 0)], uf T.ea x T.es.length, T.va) else T
def plEs (Γ : GRT) (p v : Nat) : Nat → PLT → PLT
  | 0, T => T
  | k + 1, T => plE Γ p v k (plEs Γ p v k T)
def inV (Γ : GRT) (s w a : Nat) : Bool := decide (a < Γ.1.2.2.1 s ∧ vOf Γ s a = w)
def cvi (Γ : GRT) (p o w : Nat) (th : Nat → Bool) : Bool := decide (w ≤ svs Γ ((Γ.2.2.1 p).2.2.1 o)) && (List.range 8).all (fun a => !(inV Γ ((Γ.2.2.1 p).2.2.1 o) w a && Γ.1.2.2.2.1 ((Γ.2.2.1 p).2.2.1 o) a) || th (8 * o + a))
def addV (Γ : GRT) (p o w : Nat) (d : Bool) (th : Nat → Bool) : Nat → Bool := fun x => th x || (decide (x / 8 = o) && (inV Γ ((Γ.2.2.1 p).2.2.1 o) w (x % 8) && (Γ.1.2.2.2.1 ((Γ.2.2.1 p).2.2.1 o) (x % 8) == d)))
def plV (Γ : GRT) (p v o : Nat) (T : PLT) : PLT := if cvi Γ p o (T.vs o + 1) T.th then (addV Γ p o (T.vs o + 1) false T.th, T.ev, uf T.vs o (T.vs o + 1), T.es ++ [(o, v, T.vs o + 1)], T.ea, uf T.va o (uf (T.va o) (T.vs o + 1) T.es.length)) else T
def plVs (Γ : GRT) (p v : Nat) : Nat → PLT → PLT
  | 0, T => T
  | k + 1, T => plV Γ p v (k + 1) (plVs Γ p v k T)
def plR (Γ : GRT) (p v : Nat) (T : PLT) : PLT := plVs Γ p v (Γ.2.2.1 p).2.1 (plEs Γ p v 32 T)
def plL (Γ : GRT) (p v : Nat) : Nat → PLT → PLT
  | 0, T => T
  | f + 1, T => if T.es.length < (plR Γ p v T).es.length then plL Γ p v f (plR Γ p v T) else plR Γ p v T
def plD (Γ : GRT) (p v : Nat) (T : PLT) : PLT := (addV Γ p 0 v true T.th, T.2)
def plA (Γ : GRT) (p : Nat) : Nat → PLT → PLT
  | 0, T => T
  | v + 1, T => plL Γ p (v + 1) 48 (plD Γ p (v + 1) (plA Γ p v T))
def pl0 : PLT := (fun _ => false, fun _ => false, fun _ => 0, [], fun _ => 0, fun _ _ => 0)
def hdS (Γ : GRT) (p : Nat) : Nat := (Γ.2.2.1 p).2.2.1 0
def plP (Γ : GRT) (p : Nat) : PLT := plA Γ p (svs Γ (hdS Γ p)) pl0
/-- where a visit's plan begins; how many entries; where a production's begin -/
def plF (Γ : GRT) (p v : Nat) : Nat := (plA Γ p (v - 1) pl0).es.length
def plN (Γ : GRT) (p : Nat) : Nat := (plP Γ p).es.length
def plB (Γ : GRT) : Nat → Nat
  | 0 => 0
  | p + 1 => plB Γ p + plN Γ p
/-- what holds while a plan is made -/
def plI (Γ : GRT) (p : Nat) (T : PLT) : Prop := (∀ x, T.ev x = true → (Γ.2.2.1 p).2.2.2.2.1 x = true) ∧ (∀ o, T.vs o ≤ 5 ∧ (T.vs o ≠ 0 → 1 ≤ o ∧ o ≤ (Γ.2.2.1 p).2.1 ∧ T.vs o ≤ svs Γ ((Γ.2.2.1 p).2.2.1 o))) ∧ T.es.length = cnt T.ev 32 + (T.vs 1 + T.vs 2 + T.vs 3) ∧ (∀ x, T.ev x = true → T.ea x < T.es.length ∧ (T.es.getD (T.ea x) (0, 0, 0)).1 = enc x ∧ (T.es.getD (T.ea x) (0, 0, 0)).2.2 = 0) ∧ (∀ o w, 1 ≤ w → w ≤ T.vs o → T.va o w < T.es.length ∧ (T.es.getD (T.va o w) (0, 0, 0)).1 = o ∧ (T.es.getD (T.va o w) (0, 0, 0)).2.2 = w)
theorem ge_l {a b : List (Nat × Nat × Nat)} {i : Nat} (h : i < a.length) : (a ++ b).getD i (0, 0, 0) = a.getD i (0, 0, 0) := by simp [List.getD_eq_getElem?_getD, List.getElem?_append_left h]
theorem ge_e {a : List (Nat × Nat × Nat)} {x : Nat × Nat × Nat} : (a ++ [x]).getD a.length (0, 0, 0) = x := by simp [List.getD_eq_getElem?_getD]
section PL
variable {Γ : GRT} {p v : Nat}
theorem plI_0 : plI Γ p pl0 := by
  have hz : ∀ m, cnt (fun _ => false) m = 0 := by
    intro m
    induction m with
    | zero => rfl
    | succ m ih => rw [cnt, ih]; rfl
  exact ⟨fun x h => absurd h Bool.false_ne_true, fun o => ⟨Nat.zero_le _, fun h => absurd rfl h⟩, (hz 32).symm, fun x h => absurd h Bool.false_ne_true, fun o w h1 h2 => by have h2 : w ≤ 0 := h2; omega⟩
theorem plI_E (hV : GRV Γ) (hp : p < Γ.2.1) {T : PLT} (x : Nat) (h : plI Γ p T) : plI Γ p (plE Γ p v x T) := by
  unfold plE
  by_cases hc : rdy Γ p x T.th = true ∧ T.ev x = false
  · rw [if_pos hc]
    obtain ⟨h1, h2, h3, h4, h5⟩ := h
    have hd : (Γ.2.2.1 p).2.2.2.2.1 x = true := by have := hc.1; unfold rdy at this; rw [Bool.and_eq_true] at this; exact this.1
    have hx := ((hV.2.2.2 p hp).2.1.2.2 x hd).1
    refine ⟨fun y hy => ?_, h2, ?_, fun y hy => ?_, fun o w w1 w2 => ?_⟩
    · have hy : uf T.ev x true y = true := hy
      by_cases e : y = x
      · rw [e]; exact hd
      · rw [uf_o _ _ e] at hy; exact h1 y hy
    · show (T.es ++ [(enc x, v, 0)]).length = cnt (uf T.ev x true) 32 + (T.vs 1 + T.vs 2 + T.vs 3)
      rw [cnt_uf hc.2, if_pos hx, List.length_append, h3]
      simp
      omega
    · have hy : uf T.ev x true y = true := hy
      show uf T.ea x T.es.length y < (T.es ++ [(enc x, v, 0)]).length ∧ ((T.es ++ [(enc x, v, 0)]).getD (uf T.ea x T.es.length y) (0, 0, 0)).1 = enc y ∧ ((T.es ++ [(enc x, v, 0)]).getD (uf T.ea x T.es.length y) (0, 0, 0)).2.2 = 0
      by_cases e : y = x
      · subst e
        rw [uf_s, ge_e]
        exact ⟨by simp, rfl, rfl⟩
      · rw [uf_o _ _ e] at hy ⊢
        obtain ⟨a, b, c⟩ := h4 y hy
        rw [ge_l a]
        exact ⟨by rw [List.length_append]; omega, b, c⟩
    · obtain ⟨a, b, c⟩ := h5 o w w1 w2
      show T.va o w < (T.es ++ [(enc x, v, 0)]).length ∧ ((T.es ++ [(enc x, v, 0)]).getD (T.va o w) (0, 0, 0)).1 = o ∧ ((T.es ++ [(enc x, v, 0)]).getD (T.va o w) (0, 0, 0)).2.2 = w
      rw [ge_l a]
      exact ⟨by rw [List.length_append]; omega, b, c⟩
  · rw [if_neg hc]; exact h
theorem plI_V (hL : LVF Γ) (hV : GRV Γ) (hp : p < Γ.2.1) {T : PLT} {o : Nat} (ho : 1 ≤ o) (ho2 : o ≤ (Γ.2.2.1 p).2.1) (h : plI Γ p T) : plI Γ p (plV Γ p v o T) := by
  unfold plV
  by_cases hc : cvi Γ p o (T.vs o + 1) T.th = true
  · rw [if_pos hc]
    obtain ⟨h1, h2, h3, h4, h5⟩ := h
    have hpv := (hV.2.2.2 p hp).2.1
    have hw : T.vs o + 1 ≤ svs Γ ((Γ.2.2.1 p).2.2.1 o) := by unfold cvi at hc; rw [Bool.and_eq_true, decide_eq_true_eq] at hc; exact hc.1
    have h5v := (hL.vis _ (hpv.2.1 o ho2)).2
    have h3r := hpv.1
    refine ⟨h1, fun o' => ?_, ?_, fun y hy => ?_, fun o' w w1 w2 => ?_⟩
    · show uf T.vs o (T.vs o + 1) o' ≤ 5 ∧ (uf T.vs o (T.vs o + 1) o' ≠ 0 → 1 ≤ o' ∧ o' ≤ (Γ.2.2.1 p).2.1 ∧ uf T.vs o (T.vs o + 1) o' ≤ svs Γ ((Γ.2.2.1 p).2.2.1 o'))
      by_cases e : o' = o
      · rw [e, uf_s]; exact ⟨by omega, fun _ => ⟨ho, ho2, hw⟩⟩
      · rw [uf_o _ _ e]; exact h2 o'
    · show (T.es ++ [(o, v, T.vs o + 1)]).length = cnt T.ev 32 + (uf T.vs o (T.vs o + 1) 1 + uf T.vs o (T.vs o + 1) 2 + uf T.vs o (T.vs o + 1) 3)
      rw [List.length_append, h3]
      have : o = 1 ∨ o = 2 ∨ o = 3 := by omega
      rcases this with rfl | rfl | rfl
      · rw [uf_s, uf_o _ _ (by omega), uf_o _ _ (by omega)]; simp; omega
      · rw [uf_s, uf_o _ _ (by omega), uf_o _ _ (by omega)]; simp; omega
      · rw [uf_s, uf_o _ _ (by omega), uf_o _ _ (by omega)]; simp; omega
    · obtain ⟨a, b, c⟩ := h4 y hy
      show T.ea y < (T.es ++ [(o, v, T.vs o + 1)]).length ∧ ((T.es ++ [(o, v, T.vs o + 1)]).getD (T.ea y) (0, 0, 0)).1 = enc y ∧ ((T.es ++ [(o, v, T.vs o + 1)]).getD (T.ea y) (0, 0, 0)).2.2 = 0
      rw [ge_l a]
      exact ⟨by rw [List.length_append]; omega, b, c⟩
    · have w2 : w ≤ uf T.vs o (T.vs o + 1) o' := w2
      show uf T.va o (uf (T.va o) (T.vs o + 1) T.es.length) o' w < (T.es ++ [(o, v, T.vs o + 1)]).length ∧ ((T.es ++ [(o, v, T.vs o + 1)]).getD (uf T.va o (uf (T.va o) (T.vs o + 1) T.es.length) o' w) (0, 0, 0)).1 = o' ∧ ((T.es ++ [(o, v, T.vs o + 1)]).getD (uf T.va o (uf (T.va o) (T.vs o + 1) T.es.length) o' w) (0, 0, 0)).2.2 = w
      by_cases e : o' = o
      · subst e
        rw [uf_s] at w2 ⊢
        by_cases ew : w = T.vs o' + 1
        · subst ew
          rw [uf_s, ge_e]
          exact ⟨by simp, rfl, rfl⟩
        · rw [uf_o _ _ ew]
          obtain ⟨a, b, c⟩ := h5 o' w w1 (by omega)
          rw [ge_l a]
          exact ⟨by rw [List.length_append]; omega, b, c⟩
      · rw [uf_o _ _ e] at w2 ⊢
        obtain ⟨a, b, c⟩ := h5 o' w w1 w2
        rw [ge_l a]
        exact ⟨by rw [List.length_append]; omega, b, c⟩
  · rw [if_neg hc]; exact h
theorem plI_Es (hV : GRV Γ) (hp : p < Γ.2.1) : ∀ k {T : PLT}, plI Γ p T → plI Γ p (plEs Γ p v k T)
  | 0, _, h => h
  | k + 1, _, h => plI_E hV hp k (plI_Es hV hp k h)
theorem plI_Vs (hL : LVF Γ) (hV : GRV Γ) (hp : p < Γ.2.1) : ∀ k {T : PLT}, k ≤ (Γ.2.2.1 p).2.1 → plI Γ p T → plI Γ p (plVs Γ p v k T)
  | 0, _, _, h => h
  | k + 1, _, hk, h => plI_V hL hV hp (by omega) hk (plI_Vs hL hV hp k (by omega) h)
theorem plI_R (hL : LVF Γ) (hV : GRV Γ) (hp : p < Γ.2.1) {T : PLT} (h : plI Γ p T) : plI Γ p (plR Γ p v T) := plI_Vs hL hV hp _ (Nat.le_refl _) (plI_Es hV hp 32 h)
theorem plI_L (hL : LVF Γ) (hV : GRV Γ) (hp : p < Γ.2.1) : ∀ f {T : PLT}, plI Γ p T → plI Γ p (plL Γ p v f T)
  | 0, _, h => h
  | f + 1, T, h => by
    rw [plL]
    split
    · exact plI_L hL hV hp f (plI_R hL hV hp h)
    · exact plI_R hL hV hp h
theorem plI_A (hL : LVF Γ) (hV : GRV Γ) (hp : p < Γ.2.1) : ∀ v, plI Γ p (plA Γ p v pl0)
  | 0 => plI_0
  | v + 1 => plI_L hL hV hp 48 (plI_A hL hV hp v)
theorem plI_47 {T : PLT} (h : plI Γ p T) : T.es.length ≤ 47 := by
  have a := cnt_le T.ev 32
  have b1 := (h.2.1 1).1
  have b2 := (h.2.1 2).1
  have b3 := (h.2.1 3).1
  have := h.2.2.1
  omega
theorem plN_le (hL : LVF Γ) (hV : GRV Γ) (hp : p < Γ.2.1) : plN Γ p ≤ 47 := plI_47 (plI_A hL hV hp _)
theorem plB_le (hL : LVF Γ) (hV : GRV Γ) : ∀ p, p ≤ Γ.2.1 → plB Γ p ≤ 47 * p
  | 0, _ => Nat.le_refl _
  | p + 1, h => by have := plB_le hL hV p (by omega); have := plN_le hL hV (p := p) (by omega); rw [plB]; omega
end PL
