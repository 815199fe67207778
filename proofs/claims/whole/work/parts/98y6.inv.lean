/-! ===== what holds between two calls ===== -/
abbrev AST : Type := ((Nat → Nat) × Nat) × (Bool × (Nat → Nat) × Nat) × (Bool × TST) × (Bool × MST × Nat)
abbrev AST.t (A : AST) : Nat → Nat := A.1.1
abbrev AST.n (A : AST) : Nat := A.1.2
abbrev AST.hg (A : AST) : Bool := A.2.1.1
abbrev AST.tk (A : AST) : Nat → Nat := A.2.1.2.1
abbrev AST.nk (A : AST) : Nat := A.2.1.2.2
abbrev AST.ht (A : AST) : Bool := A.2.2.1.1
abbrev AST.T (A : AST) : TST := A.2.2.1.2
abbrev AST.hb (A : AST) : Bool := A.2.2.2.1
abbrev AST.S (A : AST) : MST := A.2.2.2.2.1
abbrev AST.dn (A : AST) : Nat := A.2.2.2.2.2
def AST.G (A : AST) : GRT := (pGr A.tk A.nk).2.2
def bI (b : Bool) : Int32 := if b then 1 else 0
/-- in order -/
def AOK (A : AST) : Prop := (A.hg = true → (pGr A.tk A.nk).1 = true ∧ ordA A.G = none ∧ GOK A.G ∧ D0 A.G) ∧ (A.ht = true → A.hg = true ∧ TOK A.G A.T) ∧ (A.hb = true → A.ht = true ∧ MOL A.G A.T false A.S)
def CVl (σ : ab_S) (vl : Nat → Nat → VL8) : Prop := ∀ m a, m < 250 → a < 8 → σ.2.2.1 29 (m * 8 + a) = vL (vl m a)
/-- the class's -/
def CIv (σ : ab_S) (A : AST) (g q x y : Nat) : Prop := CT σ A.t A.n ∧ (isG g ∧ isG q ∧ g ≠ q ∧ isT x ∧ isT y ∧ x ≠ y) ∧ (σ.2.2.2 0 11 = some g ∧ σ.2.2.2 0 12 = some q ∧ σ.2.2.2 0 13 = some x ∧ σ.2.2.2 0 14 = some y) ∧ (σ.2.1 0 15 = bI A.hg ∧ σ.2.1 0 16 = bI A.ht ∧ σ.2.1 0 17 = bI A.hb) ∧ (σ.2.1 28 1 = 1 ∧ σ.2.1 35 1 = 0) ∧ (A.hg = true → CWh σ g A.G) ∧ (A.ht = true → CTr σ x A.T ∧ CVl σ (val A.G A.T)) ∧ (A.hb = true → CSt σ 35 g x A.G A.T false ∧ RCd σ 35 A.S ∧ σ.2.1 35 13 = nI A.dn)
/-- the model's -/
def MIv (σ : ab_S) (A : AST) : Prop := MTx σ A.t A.n ∧ W94 σ ∧ (σ.2.1 92 4 = bI A.hg ∧ σ.2.1 92 52 = bI A.ht ∧ σ.2.1 92 83 = bI A.hb) ∧ (A.hg = true → MKp σ A.tk A.nk ∧ MWh σ A.G) ∧ (A.ht = true → MTt σ A.G A.T ∧ MVl σ (val A.G A.T)) ∧ (A.hb = true → RMd σ A.T A.S ∧ σ.2.1 92 85 = nI A.dn)
section IV
variable {σ τ : ab_S} {F : Nat → Nat → Bool} {Γ : GRT} {T : TST} {S : MST} {g q x y M : Nat} {A : AST}
theorem CT.fm {t : Nat → Nat} {n : Nat} (h : CT σ t n) (f : FM F σ τ) (e : ∀ a i, a = 1 ∨ a = 2 → F a i = false) : CT τ t n := ⟨h.1, by rw [f.1 _ _ (e _ _ (Or.inl rfl))]; exact h.2.1, fun i hi => by rw [f.1 _ _ (e _ _ (Or.inr rfl))]; exact h.2.2 i hi⟩
theorem CPg.fm (h : CPg σ Γ) (f : FM F σ τ) (e : ∀ a i, 23 ≤ a → a ≤ 27 → F a i = false) : CPg τ Γ := ⟨h.1.fm f (fun a i q => e _ _ (by omega) (by omega)), fun p v q1 q2 q3 => by rw [f.1 _ _ (e _ _ (by omega) (by omega))]; exact h.2 p v q1 q2 q3⟩
theorem CWh.fm (h : CWh σ g Γ) (hV : GRV Γ) (f : FM F σ τ) (e : ∀ a i, (11 ≤ a ∧ a ≤ 27) ∨ (g ≤ a ∧ a ≤ g + 17) → F a i = false) : CWh τ g Γ := ⟨h.1.fm hV f (fun a i q => e _ _ (by omega)), h.2.1.fm f (fun a i q1 q2 => e _ _ (by omega)), fun s hs a ha => by rw [f.1 _ _ (e _ _ (by omega))]; exact h.2.2 s hs a ha⟩
theorem CLs.fm (h : CLs σ g Γ) (f : FM F σ τ) (e : ∀ a i, g + 16 ≤ a → a ≤ g + 17 → F a i = false) : CLs τ g Γ := fun s hs => ⟨fun x hx => by rw [f.1 _ _ (e _ _ (by omega) (by omega))]; exact (h s hs).1 x hx, by rw [f.1 _ _ (e _ _ (by omega) (by omega))]; exact (h s hs).2⟩
theorem CSt.fmA {b : Bool} (h : CSt σ M g x Γ T b) (hV : GRV Γ) (f : FM F σ τ) (e : ∀ a i, (a = M ∧ i ≤ 3) ∨ (23 ≤ a ∧ a ≤ 27) ∨ (g ≤ a ∧ a ≤ g + 17) ∨ (x ≤ a ∧ a ≤ x + 5) → F a i = false) : CSt τ M g x Γ T b := by
  obtain ⟨h1, h2, h3, h4, h5, h6, h7, h8, h9⟩ := h
  exact ⟨by rw [f.2.2 _ _ (e _ _ (by omega))]; exact h1, by rw [f.2.2 _ _ (e _ _ (by omega))]; exact h2, h3, h4, by rw [f.1 _ _ (e _ _ (by omega))]; exact h5, h6.fm f (fun a i q1 q2 => e _ _ (by omega)), h7.fm f (fun a i q1 q2 => e _ _ (by omega)), h8.fm hV f (fun k i hk => e _ _ (by omega)), h9.fm f (fun a i q1 q2 => e _ _ (by omega))⟩
theorem RCd.fmA (h : RCd σ M S) (f : FM F σ τ) (e : ∀ a i, (a = M ∧ 10 ≤ i) ∨ (M + 1 ≤ a ∧ a ≤ M + 6) → F a i = false) : RCd τ M S := by
  obtain ⟨h1, h2, h3, h4, h5, h6, h7, h8⟩ := h
  exact ⟨by rw [f.1 _ _ (e _ _ (by omega))]; exact h1, by rw [f.1 _ _ (e _ _ (by omega))]; exact h2, by rw [f.1 _ _ (e _ _ (by omega))]; exact h3, h4.cg (fun i _ => ⟨f.1 _ _ (e _ _ (by omega)), f.1 _ _ (e _ _ (by omega))⟩), h5.cg (fun i _ => f.2.1 _ _ (e _ _ (by omega))), fun m hm => by rw [f.1 _ _ (e _ _ (by omega))]; exact h6 m hm, fun m a hm ha => by rw [f.2.1 _ _ (e _ _ (by omega))]; exact h7 m a hm ha, fun v hv => by rw [f.2.1 _ _ (e _ _ (by omega))]; exact h8 v hv⟩
theorem CVl.fm {vl : Nat → Nat → VL8} (h : CVl σ vl) (f : FM F σ τ) (e : ∀ i, F 29 i = false) : CVl τ vl := fun m a hm ha => by rw [f.2.1 _ _ (e _)]; exact h m a hm ha
theorem AOK.gV (h : AOK A) (hg : A.hg = true) : GRV A.G := (h.1 hg).2.2.1.1
theorem AOK.hg (h : AOK A) (ht : A.ht = true) : A.hg = true := (h.2.1 ht).1
theorem AOK.ht (h : AOK A) (hb : A.hb = true) : A.ht = true := (h.2.2 hb).1
theorem CIv.fm (h : CIv σ A g q x y) (hA : AOK A) (f : FM F σ τ) (e : ∀ a i, a < 92 → ¬ (a = 42 ∨ a = 43 ∨ (3 ≤ a ∧ a ≤ 10)) → F a i = false) : CIv τ A g q x y := by
  obtain ⟨h1, h2, ⟨r1, r2, r3, r4⟩, ⟨f1, f2, f3⟩, ⟨m1, m2⟩, h6, h7, h8⟩ := h
  have hgb := isG_b h2.1
  have hxb := isT_b h2.2.2.2.1
  refine ⟨h1.fm f (fun a i _ => e _ _ (by omega) (by omega)), h2, ⟨by rw [f.2.2 _ _ (e _ _ (by omega) (by omega))]; exact r1, by rw [f.2.2 _ _ (e _ _ (by omega) (by omega))]; exact r2, by rw [f.2.2 _ _ (e _ _ (by omega) (by omega))]; exact r3, by rw [f.2.2 _ _ (e _ _ (by omega) (by omega))]; exact r4⟩, ⟨by rw [f.1 _ _ (e _ _ (by omega) (by omega))]; exact f1, by rw [f.1 _ _ (e _ _ (by omega) (by omega))]; exact f2, by rw [f.1 _ _ (e _ _ (by omega) (by omega))]; exact f3⟩, ⟨by rw [f.1 _ _ (e _ _ (by omega) (by omega))]; exact m1, by rw [f.1 _ _ (e _ _ (by omega) (by omega))]; exact m2⟩, fun z => (h6 z).fm (hA.gV z) f (fun a i _ => e _ _ (by omega) (by omega)), fun z => ⟨(h7 z).1.fm f (fun a i _ _ => e _ _ (by omega) (by omega)), (h7 z).2.fm f (fun i => e _ _ (by omega) (by omega))⟩, fun z => ⟨(h8 z).1.fmA (hA.gV (hA.hg (hA.ht z))) f (fun a i _ => e _ _ (by omega) (by omega)), (h8 z).2.1.fmA f (fun a i _ => e _ _ (by omega) (by omega)), by rw [f.1 _ _ (e _ _ (by omega) (by omega))]; exact (h8 z).2.2⟩⟩
theorem MTx.fm {t : Nat → Nat} {n : Nat} (h : MTx σ t n) (f : FM F σ τ) (e : F 92 2 = false) (e2 : ∀ i, F 93 i = false) : MTx τ t n := ⟨h.1, by rw [f.1 _ _ e]; exact h.2.1, fun i hi => by rw [f.1 _ _ (e2 _)]; exact h.2.2 i hi⟩
theorem MKp.fm {t : Nat → Nat} {n : Nat} (h : MKp σ t n) (f : FM F σ τ) (e : F 92 6 = false) (e2 : ∀ i, F 95 i = false) : MKp τ t n := ⟨h.1, by rw [f.1 _ _ e]; exact h.2.1, fun i hi => by rw [f.1 _ _ (e2 _)]; exact h.2.2 i hi⟩
theorem W94.fm (h : W94 σ) (f : FM F σ τ) (e2 : ∀ i, F 94 i = false) : W94 τ := fun j hj => by rw [f.2.1 _ _ (e2 _)]; exact h j hj
theorem MWh.fm (h : MWh σ Γ) (hV : GRV Γ) (f : FM F σ τ) (e : ∀ a i, (a = 92 ∧ (i = 9 ∨ i = 14 ∨ i = 21 ∨ i = 74)) ∨ (97 ≤ a ∧ a ≤ 123) ∨ (146 ≤ a ∧ a ≤ 148) → F a i = false) : MWh τ Γ := ⟨h.1.fm hV f (fun a i q => e _ _ (by omega)), h.2.1.fm f (e _ _ (by omega)) (fun a i q1 q2 => e _ _ (by omega)), fun s hs a ha => by rw [f.2.1 _ _ (e _ _ (by omega))]; exact h.2.2 s hs a ha⟩
theorem MVl.fm {vl : Nat → Nat → VL8} (h : MVl σ vl) (f : FM F σ τ) (e : ∀ a i, a = 139 ∨ a = 141 → F a i = false) : MVl τ vl := fun m hm a ha => ⟨by rw [f.1 _ _ (e _ _ (by omega))]; exact (h m hm a ha).1, by rw [f.1 _ _ (e _ _ (by omega))]; exact (h m hm a ha).2⟩
theorem RMd.fm (h : RMd σ T S) (f : FM F σ τ) (e : ∀ a i, (a = 92 ∧ (i = 84 ∨ i = 86 ∨ i = 90)) ∨ (154 ≤ a ∧ a ≤ 162) → F a i = false) : RMd τ T S := ⟨h.1.fm f (e _ _ (by omega)), h.2.1.fm f (e _ _ (by omega)) (fun a i _ => e _ _ (by omega)), h.2.2.1.fm f (fun i => e _ _ (by omega)), h.2.2.2.1.fm f (e _ _ (by omega)) (fun a i _ => e _ _ (by omega)), h.2.2.2.2.1.fm f (fun a i _ => e _ _ (by omega)), h.2.2.2.2.2.fm f (fun a i _ => e _ _ (by omega))⟩
theorem MIv.fm (h : MIv σ A) (hA : AOK A) (f : FM F σ τ) (e : ∀ a i, 92 ≤ a → a ≤ 162 → ¬ ((a = 92 ∧ i = 0) ∨ (142 ≤ a ∧ a ≤ 145)) → F a i = false) : MIv τ A := by
  obtain ⟨h1, h2, ⟨f1, f2, f3⟩, h4, h5, h6⟩ := h
  exact ⟨h1.fm f (e _ _ (by omega) (by omega) (by omega)) (fun i => e _ _ (by omega) (by omega) (by omega)), h2.fm f (fun i => e _ _ (by omega) (by omega) (by omega)), ⟨by rw [f.1 _ _ (e _ _ (by omega) (by omega) (by omega))]; exact f1, by rw [f.1 _ _ (e _ _ (by omega) (by omega) (by omega))]; exact f2, by rw [f.1 _ _ (e _ _ (by omega) (by omega) (by omega))]; exact f3⟩, fun z => ⟨(h4 z).1.fm f (e _ _ (by omega) (by omega) (by omega)) (fun i => e _ _ (by omega) (by omega) (by omega)), (h4 z).2.fm (hA.gV z) f (fun a i _ => e _ _ (by omega) (by omega) (by omega))⟩, fun z => ⟨(h5 z).1.fm f (e _ _ (by omega) (by omega) (by omega)) (fun a i _ _ => e _ _ (by omega) (by omega) (by omega)), (h5 z).2.fm f (fun a i _ => e _ _ (by omega) (by omega) (by omega))⟩, fun z => ⟨(h6 z).1.fm f (fun a i _ => e _ _ (by omega) (by omega) (by omega)), by rw [f.1 _ _ (e _ _ (by omega) (by omega) (by omega))]; exact (h6 z).2⟩⟩
end IV
/-! answers -/
def S163 : Nat → Nat → Bool := fun a _ => decide (a = 163 ∨ a = 42 ∨ a = 43)
def S920 : Nat → Nat → Bool := fun a i => decide ((a = 92 ∧ i = 0) ∨ (142 ≤ a ∧ a ≤ 145))
/-- the class answers v (c = 0), or throws the exception of number c -/
def CAns (W : (Int32 → ab_S → Prop) → ab_S → Prop) (σ : ab_S) (c : Nat) (v : Int32) : Prop := c ≤ 4 ∧ ∀ Q : Int32 → ab_S → Prop, (∀ τ, FM S163 σ τ → (c = 0 → τ.2.2.1 163 0 = v.toInt64) → Q (nI c) τ) → W Q σ
def MAns (W : (Int32 → ab_S → Prop) → ab_S → Prop) (σ : ab_S) (c : Nat) (v : Int32) : Prop := ∀ Q : Int32 → ab_S → Prop, (∀ τ r, FM S920 σ τ → τ.2.1 92 0 = nI c → (c = 0 → r = v) → Q r τ) → W Q σ
theorem vp_0_1 : vp_in (0 : Int32) 1 := by show vp_in (nI 0) 1; simp (disch := omega) only [nI_lit, nI_add, nI_mulE, nI_clampE, nI_eqE, nI_leE, nI_ltE, vp_nIE, true_and, and_true]; omega
/-- an answer is laid down -/
theorem c_ans {σ τ : ab_S} {v : Int32} {Q : Int32 → ab_S → Prop} (f : FM S163 σ τ) (k : ∀ τ, FM S163 σ τ → ((0 : Nat) = 0 → τ.2.2.1 163 0 = v.toInt64) → Q (nI 0) τ) : vp_in (0 : Int32) 1 ∧ (∀ σ3 : ab_S, σ3 = ab_L τ 163 (0 : Int32).toNatClampNeg v.toInt64 → Q (0 : Int32) σ3) :=
  ⟨vp_0_1, fe (k _ (f.L (decide_eq_true (by omega))) (fun _ => by rw [gL_L, if_pos rfl, if_pos (by decide)]))⟩
section MR
variable {σ : ab_S} {E : String → ab_S → Prop}
theorem m_ref (b1 b2 b3 : Bool) {Q : Int32 → ab_S → Prop} (h1 : b1 = true → Q 1 (ab_I σ 92 0 (nI 1))) (h2 : b1 = false → b2 = true → Q 1 (ab_I σ 92 0 (nI 2))) (h3 : b1 = false → b2 = false → b3 = true → Q 1 (ab_I σ 92 0 (nI 3))) (h0 : b1 = false → b2 = false → b3 = false → Q 0 (ab_I σ 92 0 (nI 0))) : wX12_refuse (bI b1) (bI b2) (bI b3) Q E σ := by
  unfold wX12_refuse wX12_refuse_j26
  have e : ∀ y, (ab_I σ 92 0 y).2.1 92 0 = y := fun y => by rw [gI_s, if_pos rfl]
  cases b1
  · refine yes rfl ?_
    cases b2
    · refine yes rfl ?_
      cases b3
      · refine yes rfl (fe ?_)
        rw [e]
        exact yes (by decide) (h0 rfl rfl rfl)
      · refine no (by decide) (fe ?_)
        rw [e]
        exact no (by decide) (h3 rfl rfl rfl)
    · refine no (by decide) (fe ?_)
      rw [e]
      exact no (by decide) (h2 rfl rfl)
  · refine no (by decide) (fe ?_)
    rw [e]
    exact no (by decide) (h1 rfl)
theorem i_nn (a : Int32) : a < 0 ∨ ∃ k, k < 2147483648 ∧ a = nI k := by
  by_cases h : a < 0
  · exact Or.inl h
  · refine Or.inr ⟨a.toNatClampNeg, ?_, ?_⟩
    · have := Int32.toInt_lt a
      unfold Int32.toNatClampNeg
      omega
    · apply Int32.toInt_inj.mp
      have h1 : 0 ≤ a.toInt := by
        rw [Int32.lt_iff_toInt_lt] at h
        have : (0 : Int32).toInt = 0 := by decide
        omega
      have h2 := Int32.toInt_lt a
      unfold nI Int32.toNatClampNeg
      rw [Int32.toInt_ofNat_of_lt (by omega)]
      omega
/-- a number from 0 to N - 1 -/
def isIx (a : Int32) (N : Nat) : Prop := ∃ k, k < N ∧ a = nI k
theorem isIx_n {a : Int32} {N : Nat} (hN : N ≤ 2147483647) (h : ¬ isIx a N) : a < 0 ∨ nI N ≤ a := by
  rcases i_nn a with h1 | ⟨k, h1, h2⟩
  · exact Or.inl h1
  · refine Or.inr ?_
    rw [h2]
    by_cases q : k < N
    · exact absurd ⟨k, q, h2⟩ h
    · simp (disch := omega) only [nI_lit, nI_add, nI_mulE, nI_clampE, nI_eqE, nI_leE, nI_ltE, vp_nIE, true_and, and_true]; omega
theorem m_ixy {a : Int32} {N : Nat} (hN : N ≤ 2147483647) (h : isIx a N) {Q : Int32 → ab_S → Prop} (k : Q 1 σ) : wX12_in a 0 (nI N - 1) Q E σ := by
  obtain ⟨i, h1, h2⟩ := h
  unfold wX12_in
  rw [h2, show nI N - (1 : Int32) = nI (N - 1) by show _ - nI 1 = _; rw [nI_subE (by omega)]]
  exact no (nI_pos (by omega)) (no (by simp (disch := omega) only [nI_lit, nI_add, nI_mulE, nI_clampE, nI_eqE, nI_leE, nI_ltE, vp_nIE, true_and, and_true]; omega) k)
theorem m_ixn {a : Int32} {N : Nat} (hN : N ≤ 2147483647) (h : ¬ isIx a N) {Q : Int32 → ab_S → Prop} (k : Q 0 σ) : wX12_in a 0 (nI N - 1) Q E σ := by
  unfold wX12_in
  rcases isIx_n hN h with h1 | h1
  · exact yes h1 k
  · refine ⟨fun _ => k, fun h0 => yes ?_ k⟩
    rcases i_nn a with q | ⟨i, q1, q2⟩
    · exact absurd q h0
    · rw [q2] at h1 ⊢
      by_cases e : N = 0
      · rw [e]
        have : nI 0 - (1 : Int32) = -1 := by decide
        rw [this]
        have e1 : (-1 : Int32) < nI 0 := by decide
        exact Int32.lt_of_lt_of_le e1 (by simp (disch := omega) only [nI_lit, nI_add, nI_mulE, nI_clampE, nI_eqE, nI_leE, nI_ltE, vp_nIE, true_and, and_true]; omega)
      · rw [show nI N - (1 : Int32) = nI (N - 1) by show _ - nI 1 = _; rw [nI_subE (by omega)]]
        rw [nI_leE (by omega) (by omega)] at h1
        simp (disch := omega) only [nI_lit, nI_add, nI_mulE, nI_clampE, nI_eqE, nI_leE, nI_ltE, vp_nIE, true_and, and_true]; omega
end MR
