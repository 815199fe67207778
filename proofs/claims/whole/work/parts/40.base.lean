/-! ===== pure rows: numbers, heaps ===== -/
theorem nI_lit (n : Nat) : (OfNat.ofNat n : Int32) = nI (OfNat.ofNat n) := rfl
theorem nI_mulE (a b : Nat) : nI a * nI b = nI (a * b) := (Int32.ofNat_mul a b).symm
theorem nI_clampE {n : Nat} (h : n < 2147483648) : (nI n).toNatClampNeg = n := nI_clamp h
theorem nI_eqE {a b : Nat} (ha : a < 2147483648) (hb : b < 2147483648) : (nI a = nI b) = (a = b) := propext (nI_eq ha hb)
theorem nI_leE {a b : Nat} (ha : a < 2147483648) (hb : b < 2147483648) : (nI a ≤ nI b) = (a ≤ b) := propext (nI_leI ha hb)
theorem nI_ltE {a b : Nat} (ha : a < 2147483648) (hb : b < 2147483648) : (nI a < nI b) = (a < b) := propext (nI_ltI ha hb)
theorem vp_nIE {a N : Nat} (ha : a < 2147483648) : vp_in (nI a) N = (a < N) := by
  apply propext
  unfold vp_in
  rw [nI_clampE ha]
  have : ¬ nI a < 0 := nI_pos ha
  constructor
  · intro h; exact Nat.not_le.mp fun q => h (Or.inr q)
  · intro h q; rcases q with q | q
    · exact this q
    · omega
theorem nI_subE {a b : Nat} (h : b ≤ a) : nI a - nI b = nI (a - b) := by
  have e : nI a = nI (a - b) + nI b := by rw [nI_add]; congr 1; omega
  rw [e, Int32.add_sub_cancel]
/-- reads behind writes -/
theorem gI_I (σ : ab_S) (a i b j : Nat) (x : Int32) : (ab_I σ a i x).2.1 b j = if b = a then (if j = i then x else σ.2.1 a j) else σ.2.1 b j := rfl
theorem gI_L (σ : ab_S) (a i : Nat) (x : Int64) : (ab_L σ a i x).2.1 = σ.2.1 := rfl
theorem gI_R (σ : ab_S) (a i : Nat) (x : Option Nat) : (ab_R σ a i x).2.1 = σ.2.1 := rfl
theorem gL_L (σ : ab_S) (a i b j : Nat) (x : Int64) : (ab_L σ a i x).2.2.1 b j = if b = a then (if j = i then x else σ.2.2.1 a j) else σ.2.2.1 b j := rfl
theorem gL_I (σ : ab_S) (a i : Nat) (x : Int32) : (ab_I σ a i x).2.2.1 = σ.2.2.1 := rfl
theorem gL_R (σ : ab_S) (a i : Nat) (x : Option Nat) : (ab_R σ a i x).2.2.1 = σ.2.2.1 := rfl
theorem gR_R (σ : ab_S) (a i b j : Nat) (x : Option Nat) : (ab_R σ a i x).2.2.2 b j = if b = a then (if j = i then x else σ.2.2.2 a j) else σ.2.2.2 b j := rfl
theorem gR_I (σ : ab_S) (a i : Nat) (x : Int32) : (ab_I σ a i x).2.2.2 = σ.2.2.2 := rfl
theorem gR_L (σ : ab_S) (a i : Nat) (x : Int64) : (ab_L σ a i x).2.2.2 = σ.2.2.2 := rfl
/-- only things of S have changed -/
def Fr (S : Nat → Bool) (σ σ' : ab_S) : Prop := (∀ a, S a = false → σ'.2.1 a = σ.2.1 a) ∧ (∀ a, S a = false → σ'.2.2.1 a = σ.2.2.1 a) ∧ ∀ a, S a = false → σ'.2.2.2 a = σ.2.2.2 a
theorem Fr.rf (S : Nat → Bool) (σ : ab_S) : Fr S σ σ := ⟨fun _ _ => rfl, fun _ _ => rfl, fun _ _ => rfl⟩
theorem Fr.tr {S : Nat → Bool} {σ τ υ : ab_S} (h : Fr S σ τ) (g : Fr S τ υ) : Fr S σ υ := ⟨fun a z => (g.1 a z).trans (h.1 a z), fun a z => (g.2.1 a z).trans (h.2.1 a z), fun a z => (g.2.2 a z).trans (h.2.2 a z)⟩
theorem Fr.mono {S S' : Nat → Bool} {σ τ : ab_S} (h : Fr S σ τ) (k : ∀ a, S' a = false → S a = false) : Fr S' σ τ := ⟨fun a z => h.1 a (k a z), fun a z => h.2.1 a (k a z), fun a z => h.2.2 a (k a z)⟩
theorem Fr.I {S : Nat → Bool} {σ τ : ab_S} (h : Fr S σ τ) {a i : Nat} {x : Int32} (k : S a = true) : Fr S σ (ab_I τ a i x) := by
  refine ⟨fun b z => ?_, h.2.1, h.2.2⟩
  have hb : ¬ b = a := fun e => by rw [e, k] at z; cases z
  rw [← h.1 b z]
  funext j
  simp [gI_I, hb]
theorem Fr.L {S : Nat → Bool} {σ τ : ab_S} (h : Fr S σ τ) {a i : Nat} {x : Int64} (k : S a = true) : Fr S σ (ab_L τ a i x) := by
  refine ⟨h.1, fun b z => ?_, h.2.2⟩
  have hb : ¬ b = a := fun e => by rw [e, k] at z; cases z
  rw [← h.2.1 b z]
  funext j
  simp [gL_L, hb]
theorem Fr.R {S : Nat → Bool} {σ τ : ab_S} (h : Fr S σ τ) {a i : Nat} {x : Option Nat} (k : S a = true) : Fr S σ (ab_R τ a i x) := by
  refine ⟨h.1, h.2.1, fun b z => ?_⟩
  have hb : ¬ b = a := fun e => by rw [e, k] at z; cases z
  rw [← h.2.2 b z]
  funext j
  simp [gR_R, hb]
theorem yes {c A B : Prop} (h : c) (a : A) : (c → A) ∧ (¬ c → B) := ⟨fun _ => a, fun n => absurd h n⟩
theorem no {c A B : Prop} (h : ¬ c) (b : B) : (c → A) ∧ (¬ c → B) := ⟨fun n => absurd n h, fun _ => b⟩
theorem fe {α : Type} {a : α} {P : α → Prop} (h : P a) : ∀ x, x = a → P x := fun _ e => e ▸ h
/-! ===== runs of signs ===== -/
def spF (p : Nat → Bool) (t : Nat → Nat) (n : Nat) : Nat → Nat → Nat
  | 0, i => i
  | f + 1, i => if i < n ∧ p (t i) = true then spF p t n f (i + 1) else i
def sp (p : Nat → Bool) (t : Nat → Nat) (n i : Nat) : Nat := spF p t n (n - i) i
theorem sp_yes {p : Nat → Bool} {t : Nat → Nat} {n i : Nat} (h : i < n) (hp : p (t i) = true) : sp p t n i = sp p t n (i + 1) := by
  unfold sp
  obtain ⟨f, hf⟩ : ∃ f, n - i = f + 1 := ⟨n - i - 1, by omega⟩
  have hf2 : n - (i + 1) = f := by omega
  rw [hf, hf2, spF, if_pos ⟨h, hp⟩]
theorem sp_no {p : Nat → Bool} {t : Nat → Nat} {n i : Nat} (h : ¬ (i < n ∧ p (t i) = true)) : sp p t n i = i := by
  unfold sp
  cases n - i with
  | zero => rfl
  | succ f => rw [spF, if_neg h]
theorem sp_ind {p : Nat → Bool} {t : Nat → Nat} {n : Nat} {P : Nat → Prop} (h0 : ∀ i, i ≤ n → ¬ (i < n ∧ p (t i) = true) → P i) (h1 : ∀ i, i < n → p (t i) = true → P (i + 1) → P i) : ∀ f i, n - i = f → i ≤ n → P i := by
  intro f
  induction f with
  | zero => intro i h h2; exact h0 i h2 (by omega)
  | succ f ih =>
    intro i h h2
    by_cases hc : i < n ∧ p (t i) = true
    · exact h1 i hc.1 hc.2 (ih (i + 1) (by omega) (by omega))
    · exact h0 i h2 hc
theorem sp_ge {p : Nat → Bool} {t : Nat → Nat} {n i : Nat} (h : i ≤ n) : i ≤ sp p t n i ∧ sp p t n i ≤ n := by
  refine sp_ind (p := p) (t := t) (n := n) (P := fun i => i ≤ sp p t n i ∧ sp p t n i ≤ n) ?_ ?_ _ i rfl h
  · intro i h1 h2; rw [sp_no h2]; omega
  · intro i h1 h2 h3; rw [sp_yes h1 h2]; omega
theorem sp_in {p : Nat → Bool} {t : Nat → Nat} {n i : Nat} (h : i ≤ n) : ∀ k, i ≤ k → k < sp p t n i → p (t k) = true := by
  refine sp_ind (p := p) (t := t) (n := n) (P := fun i => ∀ k, i ≤ k → k < sp p t n i → p (t k) = true) ?_ ?_ _ i rfl h
  · intro i h1 h2 k; rw [sp_no h2]; omega
  · intro i h1 h2 h3 k hk hk2
    rw [sp_yes h1 h2] at hk2
    by_cases e : k = i
    · rw [e]; exact h2
    · exact h3 k (by omega) hk2
theorem sp_end {p : Nat → Bool} {t : Nat → Nat} {n i : Nat} (h : i ≤ n) : sp p t n i < n → p (t (sp p t n i)) = false := by
  refine sp_ind (p := p) (t := t) (n := n) (P := fun i => sp p t n i < n → p (t (sp p t n i)) = false) ?_ ?_ _ i rfl h
  · intro i h1 h2; rw [sp_no h2]; intro h3
    cases hp : p (t i) with
    | false => rfl
    | true => exact absurd ⟨h3, hp⟩ h2
  · intro i h1 h2 h3; rw [sp_yes h1 h2]; exact h3
