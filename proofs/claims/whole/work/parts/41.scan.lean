/-! ===== tokens ===== -/
def bl (c : Nat) : Bool := c == 32 || c == 10
def ltr (c : Nat) : Bool := decide (97 ≤ c) && decide (c ≤ 122)
def dgt (c : Nat) : Bool := decide (48 ≤ c) && decide (c ≤ 57)
def sgn (c : Nat) : Bool := [58, 61, 59, 44, 46, 123, 125, 40, 41, 35, 43, 45, 42, 47, 60].contains c
def mW (t : Nat → Nat) (i e j : Nat) : Bool := decide (e - i = skL.getD j 0) && decide (∀ k, k < skL.getD j 0 → nI (t (i + k)) = (skB.getD j []).getD k 0)
def kw (t : Nat → Nat) (i e : Nat) : Nat := if mW t i e 0 then 4 else if mW t i e 1 then 5 else if mW t i e 2 then 6 else if mW t i e 3 then 7 else if mW t i e 4 then 8 else if mW t i e 5 then 9 else 2
def tkE (t : Nat → Nat) (n q : Nat) : Nat := if n ≤ q then q else if ltr (t q) then sp ltr t n q else if dgt (t q) then sp dgt t n q else q + 1
def tkK (t : Nat → Nat) (n q : Nat) : Nat := if n ≤ q then 0 else if ltr (t q) then (if 8 < sp ltr t n q - q then 1 else kw t q (sp ltr t n q)) else if dgt (t q) then (if 6 < sp dgt t n q - q then 1 else 3) else if sgn (t q) then t q else 1
def pkI (t : Nat → Nat) : Nat → Nat → Int64 → Int64
  | 0, _, a => a
  | m + 1, i, a => pkI t m (i + 1) ((a <<< ((5 : Int32).toInt64 &&& 63)) ||| ((nI (t i) - (97 : Int32) + (1 : Int32)).toInt64))
def dcI (t : Nat → Nat) : Nat → Nat → Int64 → Int64
  | 0, _, a => a
  | m + 1, i, a => dcI t m (i + 1) ((a * (10 : Int64)) + (nI (t i)).toInt64 - (48 : Int64))
def ctn (t : Nat → Nat) (n q : Nat) : Int64 := if ltr (t q) then pkI t (sp ltr t n q - q) q 0 else dcI t (sp dgt t n q - q) q 0
theorem kw_b (t : Nat → Nat) (i e : Nat) : 2 ≤ kw t i e ∧ kw t i e ≤ 9 ∧ kw t i e ≠ 3 := by
  unfold kw
  repeat (split; · omega)
  omega
theorem sgn_ge {c : Nat} (h : sgn c = true) : 35 ≤ c ∧ c ≤ 125 := by
  simp [sgn] at h
  omega
theorem tkK_lt {t : Nat → Nat} {n q : Nat} : tkK t n q < 128 := by
  unfold tkK
  repeat' split
  all_goals first
    | omega
    | (have := kw_b t q (sp ltr t n q); omega)
    | (rename_i h; have := sgn_ge h; omega)
theorem tkE_gt {t : Nat → Nat} {n q : Nat} (h : q < n) : q < tkE t n q ∧ tkE t n q ≤ n := by
  unfold tkE
  rw [if_neg (by omega)]
  split
  · rename_i h1
    rw [sp_yes h h1]
    have := sp_ge (p := ltr) (t := t) (n := n) (i := q + 1) (by omega)
    omega
  · split
    · rename_i h1
      rw [sp_yes h h1]
      have := sp_ge (p := dgt) (t := t) (n := n) (i := q + 1) (by omega)
      omega
    · omega
/-- the class's text -/
def CT (σ : ab_S) (t : Nat → Nat) (n : Nat) : Prop := n ≤ 2400 ∧ σ.2.1 1 1 = nI n ∧ ∀ i, i < n → σ.2.1 2 i = nI (t i) ∧ t i < 128
section CL
variable {σ : ab_S} {t : Nat → Nat} {n : Nat} {E : String → ab_S → Prop}
theorem c_skipL (hT : CT σ t n) {a0 : Int32} {Q : Int32 → ab_S → Prop} : ∀ f i, n - i = f → i ≤ n → Q (nI (sp bl t n i)) σ → wX6_skipBlanks_l2 a0 Q E (f + 1) (nI i) σ := by
  obtain ⟨hn, h1, h2⟩ := hT
  have H : ∀ (Bk : Int32 → ab_S → Prop) i, i ≤ n → (i < n → bl (t i) = true → Bk (nI (i + 1)) σ) → (¬ (i < n ∧ bl (t i) = true) → Q (nI i) σ) → wX6_skipBlanks_l2_b a0 Q E Bk (nI i) σ := by
    intro Bk i hi g1 g2
    unfold wX6_skipBlanks_l2_b
    by_cases hc : i < n
    · have hti := h2 i hc
      have hlt := hti.2
      simp (disch := omega) only [h1, hti.1, nI_lit, nI_add, nI_mulE, nI_clampE, nI_eqE, nI_leE, nI_ltE, vp_nIE]
      refine ⟨fun h9 => absurd h9 (by omega), fun _ => ⟨by omega, fun h9 => ?_, fun h9 => ⟨by omega, fun h8 => ?_, fun h8 => ?_⟩⟩⟩
      · refine fe ?_
        rw [nI_1]
        exact g1 hc (by simp [bl, h9])
      · exact g2 (by simp [bl, h9, h8])
      · refine fe ?_
        rw [nI_1]
        exact g1 hc (by simp [bl, Classical.not_not.mp h8])
    · simp (disch := omega) only [h1, nI_lit, nI_add, nI_mulE, nI_clampE, nI_eqE, nI_leE, nI_ltE, vp_nIE]
      exact ⟨fun _ => g2 (by omega), fun h9 => absurd (by omega) h9⟩
  intro f
  induction f with
  | zero =>
    intro i hf hi h
    refine H _ i hi (fun h9 => absurd h9 (by omega)) (fun h9 => ?_)
    rw [sp_no h9] at h
    exact h
  | succ f ih =>
    intro i hf hi h
    refine H _ i hi (fun h9 h8 => ?_) (fun h9 => ?_)
    · rw [sp_yes h9 h8] at h
      exact ih (i + 1) (by omega) (by omega) h
    · rw [sp_no h9] at h
      exact h
theorem c_skip (hT : CT σ t n) {i : Nat} (hi : i ≤ n) {Q : Int32 → ab_S → Prop} (h : Q (nI (sp bl t n i)) σ) : wX6_skipBlanks (nI i) Q E σ := ⟨_, c_skipL hT _ i rfl hi h⟩
theorem c_isL {c : Nat} (hc : c < 128) {Q : Int32 → ab_S → Prop} (h : Q (if ltr c then 1 else 0) σ) : wX6_isLetter (nI c) Q E σ := by
  unfold wX6_isLetter
  simp (disch := omega) only [nI_lit, nI_add, nI_mulE, nI_clampE, nI_eqE, nI_leE, nI_ltE, vp_nIE]
  simp only [nI_lit] at h
  refine ⟨fun h9 => ?_, fun h9 => ⟨fun h8 => ?_, fun h8 => ?_⟩⟩
  · rw [if_neg (by simp [ltr]; omega)] at h; exact h
  · rw [if_neg (by simp [ltr]; omega)] at h; exact h
  · rw [if_pos (by simp [ltr]; omega)] at h; exact h
theorem c_isD {c : Nat} (hc : c < 128) {Q : Int32 → ab_S → Prop} (h : Q (if dgt c then 1 else 0) σ) : wX6_isDigit (nI c) Q E σ := by
  unfold wX6_isDigit
  simp (disch := omega) only [nI_lit, nI_add, nI_mulE, nI_clampE, nI_eqE, nI_leE, nI_ltE, vp_nIE]
  simp only [nI_lit] at h
  refine ⟨fun h9 => ?_, fun h9 => ⟨fun h8 => ?_, fun h8 => ?_⟩⟩
  · rw [if_neg (by simp [dgt]; omega)] at h; exact h
  · rw [if_neg (by simp [dgt]; omega)] at h; exact h
  · rw [if_pos (by simp [dgt]; omega)] at h; exact h
theorem sk_len : ∀ j, j < 6 → skL.getD j 0 ≤ 6 := by decide
theorem c_spellsL (hT : CT σ t n) {j i e : Nat} (hj : j < 6) (he : e ≤ n) (hl : i + skL.getD j 0 = e) {a2 : Int32} {Q : Int32 → ab_S → Prop} : ∀ f k, skL.getD j 0 - k = f → k ≤ skL.getD j 0 → Q (if (∀ m, m < skL.getD j 0 → k ≤ m → nI (t (i + m)) = (skB.getD j []).getD m 0) then 1 else 0) σ → wX6_spells_l15 (1000001 + j) (nI i) a2 Q E (f + 1) (nI k) σ := by
  obtain ⟨hn, h1, h2⟩ := hT
  have hs := sk_len j hj
  have e1 : skn (1000001 + j) = skL.getD j 0 := by unfold skn; rw [Nat.add_sub_cancel_left]
  have e2 : ∀ k, skb (1000001 + j) k = (skB.getD j []).getD k 0 := by intro k; unfold skb; rw [Nat.add_sub_cancel_left]
  generalize hL : skL.getD j 0 = Ln at *
  have H : ∀ (Bk : Int32 → ab_S → Prop) k, k ≤ Ln → (k < Ln → nI (t (i + k)) = (skB.getD j []).getD k 0 → Bk (nI (k + 1)) σ) → (k < Ln → ¬ nI (t (i + k)) = (skB.getD j []).getD k 0 → Q 0 σ) → (k = Ln → Q 1 σ) → wX6_spells_l15_b (1000001 + j) (nI i) a2 Q E Bk (nI k) σ := by
    intro Bk k hk g1 g2 g3
    unfold wX6_spells_l15_b
    by_cases hc : k < Ln
    · have hti := h2 (i + k) (by omega)
      simp (disch := omega) only [e1, e2, nI_leE, nI_add, vp_nIE, nI_clampE, hti.1]
      refine ⟨fun h9 => absurd h9 (by omega), fun _ => ⟨by omega, hc, fun h9 => ?_, fun h9 => ?_⟩⟩
      · refine fe ?_
        rw [nI_1]
        exact g1 hc h9
      · exact g2 hc h9
    · have : k = Ln := by omega
      simp (disch := omega) only [e1, nI_leE]
      exact ⟨fun _ => g3 this, fun h9 => absurd (by omega) h9⟩
  intro f
  induction f with
  | zero =>
    intro k hf hk h
    refine H _ k hk (fun h9 => absurd h9 (by omega)) (fun h9 => absurd h9 (by omega)) (fun h9 => ?_)
    rw [if_pos (fun m b a => absurd b (by omega))] at h
    exact h
  | succ f ih =>
    intro k hf hk h
    refine H _ k hk (fun h9 h8 => ?_) (fun h9 h8 => ?_) (fun h9 => ?_)
    · refine ih (k + 1) (by omega) (by omega) ?_
      by_cases hq : ∀ m, m < Ln → k ≤ m → nI (t (i + m)) = (skB.getD j []).getD m 0
      · rw [if_pos hq] at h
        rw [if_pos (fun m b a => hq m b (by omega))]
        exact h
      · rw [if_neg hq] at h
        rw [if_neg (fun z => hq (fun m b a => by
          by_cases em : m = k
          · rw [em]; exact h8
          · exact z m b (by omega)))]
        exact h
    · rw [if_neg (fun z => h8 (z k h9 (by omega)))] at h
      exact h
    · omega
theorem c_spells (hT : CT σ t n) {j i e : Nat} (hj : j < 6) (he : e ≤ n) (hie : i ≤ e) {Q : Int32 → ab_S → Prop} (h : Q (if mW t i e j then 1 else 0) σ) : wX6_spells (1000001 + j) (nI i) (nI e) Q E σ := by
  have hs := sk_len j hj
  have hn := hT.1
  have e1 : skn (1000001 + j) = skL.getD j 0 := by unfold skn; rw [Nat.add_sub_cancel_left]
  unfold wX6_spells
  rw [nI_subE hie, e1, nI_eqE (by omega) (by omega)]
  unfold mW at h
  refine ⟨fun h9 => ⟨_, c_spellsL hT hj he (by omega) _ 0 rfl (by omega) ?_⟩, fun h9 => ?_⟩
  · rw [decide_eq_true h9, Bool.true_and] at h
    by_cases hq : ∀ k, k < skL.getD j 0 → nI (t (i + k)) = (skB.getD j []).getD k 0
    · rw [if_pos (fun m b _ => hq m b)]
      rw [decide_eq_true hq, if_pos rfl] at h
      exact h
    · rw [if_neg (fun z => hq (fun m b => z m b (by omega)))]
      rw [decide_eq_false hq, if_neg (by decide)] at h
      exact h
  · rw [decide_eq_false h9, Bool.false_and, if_neg (by decide)] at h
    exact h
theorem c_kind (hT : CT σ t n) {i e : Nat} (he : e ≤ n) (hie : i ≤ e) {Q : Int32 → ab_S → Prop} (h : Q (nI (kw t i e)) σ) : wX6_kindOfName (nI i) (nI e) Q E σ := by
  unfold wX6_kindOfName
  unfold kw at h
  refine c_spells (j := 0) hT (by omega) he hie ?_
  cases h0 : mW t i e 0
  · rw [h0] at h
    refine ⟨fun _ => ?_, fun h9 => absurd (by decide) h9⟩
    refine c_spells (j := 1) hT (by omega) he hie ?_
    cases h1 : mW t i e 1
    · rw [h1] at h
      refine ⟨fun _ => ?_, fun h9 => absurd (by decide) h9⟩
      refine c_spells (j := 2) hT (by omega) he hie ?_
      cases h2 : mW t i e 2
      · rw [h2] at h
        refine ⟨fun _ => ?_, fun h9 => absurd (by decide) h9⟩
        refine c_spells (j := 3) hT (by omega) he hie ?_
        cases h3 : mW t i e 3
        · rw [h3] at h
          refine ⟨fun _ => ?_, fun h9 => absurd (by decide) h9⟩
          refine c_spells (j := 4) hT (by omega) he hie ?_
          cases h4 : mW t i e 4
          · rw [h4] at h
            refine ⟨fun _ => ?_, fun h9 => absurd (by decide) h9⟩
            refine c_spells (j := 5) hT (by omega) he hie ?_
            cases h5 : mW t i e 5
            · rw [h5] at h
              exact ⟨fun _ => h, fun h9 => absurd (by decide) h9⟩
            · rw [h5] at h
              exact ⟨fun h9 => absurd h9 (by decide), fun _ => h⟩
          · rw [h4] at h
            exact ⟨fun h9 => absurd h9 (by decide), fun _ => h⟩
        · rw [h3] at h
          exact ⟨fun h9 => absurd h9 (by decide), fun _ => h⟩
      · rw [h2] at h
        exact ⟨fun h9 => absurd h9 (by decide), fun _ => h⟩
    · rw [h1] at h
      exact ⟨fun h9 => absurd h9 (by decide), fun _ => h⟩
  · rw [h0] at h
    exact ⟨fun h9 => absurd h9 (by decide), fun _ => h⟩
end CL
