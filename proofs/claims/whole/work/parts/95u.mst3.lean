/-! ===== stores, the model's: all of them ===== -/
def S123 : Nat → Nat → Bool := fun a _ => decide (a = 123)
def MSf (σ : ab_S) (Γ : GRT) : Prop := ∀ s a, s < Γ.1.1 → a < Γ.1.2.2.1 s → σ.2.1 123 (8 * s + a) = nI (stv Γ s a)
theorem MDf.fm {S : Nat → Nat → Bool} {σ σ' : ab_S} {Γ : GRT} (h : MDf σ Γ) (f : FM S σ σ') (e : ∀ i, S 122 i = false) : MDf σ' Γ := by
  obtain ⟨Y, h1, h2⟩ := h
  exact ⟨Y, fun j hj => by rw [f.1 _ _ (e j)]; exact h1 j hj, h2⟩
section MT
variable {σ : ab_S} {Γ : GRT} {E : String → ab_S → Prop}
/-- all occurrences of s in productions below p, and in p those below k -/
def tillO (Γ : GRT) (s : Nat) (R : Nat → Nat → Prop) (p k : Nat) : Prop := ∀ p' o, p' < Γ.2.1 → o ≤ (Γ.2.2.1 p').2.1 → (p' < p ∨ (p' = p ∧ o < k)) → oSy Γ p' o = s → R p' o
theorem tillO_s {s : Nat} {R : Nat → Nat → Prop} {p k : Nat} (hp : p < Γ.2.1) (hk : k ≤ (Γ.2.2.1 p).2.1) : tillO Γ s R p (k + 1) ↔ tillO Γ s R p k ∧ (oSy Γ p k = s → R p k) := by
  constructor
  · intro h
    exact ⟨fun p' o q1 q2 q3 q4 => h p' o q1 q2 (by omega) q4, fun q => h p k hp hk (by omega) q⟩
  · rintro ⟨h1, h2⟩ p' o q1 q2 q3 q4
    by_cases e : p' = p ∧ o = k
    · rw [e.1, e.2] at q4 ⊢; exact h2 q4
    · exact h1 p' o q1 q2 (by omega) q4
theorem tillO_n {s : Nat} {R : Nat → Nat → Prop} {p : Nat} : tillO Γ s R (p + 1) 0 ↔ tillO Γ s R p ((Γ.2.2.1 p).2.1 + 1) := by
  constructor
  · intro h p' o q1 q2 q3 q4
    exact h p' o q1 q2 (by omega) q4
  · intro h p' o q1 q2 q3 q4
    refine h p' o q1 q2 ?_ q4
    by_cases e : p' = p
    · rw [e] at q2; omega
    · omega
theorem m_st42 (hX : MXg σ Γ) (hV : GRV Γ) (hL : LVF Γ) (hP : ∀ p, p < Γ.2.1 → MPf σ Γ p) (hD : MDf σ Γ) (hx : ∀ p, p < Γ.2.1 → crc (xR Γ p) = false) {s a p : Nat} (hp : p < Γ.2.1) (hs : s < Γ.1.1) (ha : a < Γ.1.2.2.1 s) {Q : ab_S → Prop} {K141 : Int32 → Int32 → Int32 → Int32 → Int32 → ab_S → Prop} (h : ∀ b c : Bool, (b = true ↔ tillO Γ s (fun p o => shA Γ p o a) p ((Γ.2.2.1 p).2.1 + 1)) → (c = true ↔ tillO Γ s (fun p o => alA Γ p o a) p ((Γ.2.2.1 p).2.1 + 1)) → K141 (nI s) (nI a) (if b then 1 else 0) (if c then 1 else 0) (nI p) σ) : ∀ f k (b c : Bool), (Γ.2.2.1 p).2.1 + 1 - k = f → k ≤ (Γ.2.2.1 p).2.1 + 1 → (b = true ↔ tillO Γ s (fun p o => shA Γ p o a) p k) → (c = true ↔ tillO Γ s (fun p o => alA Γ p o a) p k) → wX12_findStores_l42 Q E K141 (f + 1) (nI s) (nI a) (if b then 1 else 0) (if c then 1 else 0) (nI p) (nI k) σ := by
  have h30 := hV.2.1
  have h12 := hV.1.1
  have hpv := (hV.2.2.2 p hp).2.1
  have h3 := hpv.1
  have hc := hX.1.2.2.2 p hp
  intro f
  induction f with
  | zero =>
    intro k b c hf hk hb hcc
    have e : k = (Γ.2.2.1 p).2.1 + 1 := by clear hb hcc; omega
    have q3 : nI (Γ.2.2.1 p).2.1 < nI k := by clear hb hcc; simp (disch := omega) only [nI_lit, nI_add, nI_mulE, nI_clampE, nI_eqE, nI_leE, nI_ltE, vp_nIE, true_and, and_true]; omega
    have q4 : vp_in (nI p) 31 := by clear hb hcc; simp (disch := omega) only [nI_lit, nI_add, nI_mulE, nI_clampE, nI_eqE, nI_leE, nI_ltE, vp_nIE, true_and, and_true]; omega
    show wX12_findStores_l42_b _ _ _ _ _ _ _ _ _ _ _
    unfold wX12_findStores_l42_b
    rw [nI_clampE (show p < 2147483648 by clear hb hcc; omega), hc.2.1]
    rw [e] at hb hcc
    exact ⟨q4, yes q3 (h b c hb hcc)⟩
  | succ f ih =>
    intro k b c hf hk hb hcc
    have hk1 : k ≤ (Γ.2.2.1 p).2.1 := by clear hb hcc; omega
    have q1 : (Γ.2.2.1 p).2.1 + 1 - (k + 1) = f := by clear hb hcc; omega
    have q3 : ¬ nI (Γ.2.2.1 p).2.1 < nI k := by clear hb hcc; simp (disch := omega) only [nI_lit, nI_add, nI_mulE, nI_clampE, nI_eqE, nI_leE, nI_ltE, vp_nIE, true_and, and_true]; omega
    have q4 : vp_in (nI p) 31 := by clear hb hcc; simp (disch := omega) only [nI_lit, nI_add, nI_mulE, nI_clampE, nI_eqE, nI_leE, nI_ltE, vp_nIE, true_and, and_true]; omega
    have q5 : vp_in (nI (4 * p + k)) 124 := by clear hb hcc; simp (disch := omega) only [nI_lit, nI_add, nI_mulE, nI_clampE, nI_eqE, nI_leE, nI_ltE, vp_nIE, true_and, and_true]; omega
    have hso : oSy Γ p k < Γ.1.1 := hpv.2.1 k hk1
    have e4 : (4 : Int32) * nI p + nI k = nI (4 * p + k) := by show nI 4 * nI p + _ = _; rw [nI_mulE, nI_add]
    have w4 : σ.2.1 104 (4 * p + k) = nI (oSy Γ p k) := hc.2.2.1 k (by clear hb hcc; omega)
    have go : ∀ b' c' : Bool, (b' = true ↔ tillO Γ s (fun p o => shA Γ p o a) p (k + 1)) → (c' = true ↔ tillO Γ s (fun p o => alA Γ p o a) p (k + 1)) → wX12_findStores_j133 Q E K141 (wX12_findStores_l42 Q E K141 (f + 1)) (nI s) (nI a) (if b' then 1 else 0) (nI p) (nI k) (if c' then 1 else 0) σ := by
      intro b' c' hb' hc'
      unfold wX12_findStores_j133
      rw [nI_1]
      exact fe (ih (k + 1) b' c' q1 (by clear hb hcc hb' hc'; omega) hb' hc')
    have tS := tillO_s (Γ := Γ) (s := s) (R := fun p o => shA Γ p o a) hp hk1
    have tA := tillO_s (Γ := Γ) (s := s) (R := fun p o => alA Γ p o a) hp hk1
    have j104 : ∀ (b' is : Bool), (is = true ↔ oSy Γ p k = s) → (b' = true ↔ tillO Γ s (fun p o => shA Γ p o a) p (k + 1)) → wX12_findStores_j104 Q E K141 (wX12_findStores_l42 Q E K141 (f + 1)) (nI s) (nI a) (if c then 1 else 0) (nI p) (nI k) (if is then 1 else 0) (if b' then 1 else 0) σ := by
      intro b' is his hb'
      unfold wX12_findStores_j104
      cases c
      · refine yes rfl ?_
        unfold wX12_findStores_j132
        exact go b' false hb' ⟨fun z => absurd z Bool.false_ne_true, fun z => absurd (hcc.mpr (tA.mp z).1) Bool.false_ne_true⟩
      · have hcc := hcc.mp rfl
        refine no (by decide) ?_
        cases is
        · refine yes rfl ?_
          unfold wX12_findStores_j128
          exact go b' true hb' ⟨fun _ => tA.mpr ⟨hcc, fun z => absurd (his.mpr z) Bool.false_ne_true⟩, fun _ => rfl⟩
        · have es := his.mp rfl
          refine no (by decide) ?_
          have hcall := m_alA (E := E) (Q := fun u7 σ6 => ((u7 = 0) → wX12_findStores_j132 Q E K141 (wX12_findStores_l42 Q E K141 (f + 1)) (nI s) (nI a) (if b' then 1 else 0) (nI p) (nI k) σ6) ∧ (¬ (u7 = 0) → wX12_findStores_j128 Q E K141 (wX12_findStores_l42 Q E K141 (f + 1)) (nI s) (nI a) (if b' then 1 else 0) (nI p) (nI k) σ6)) hX hV hL hp (hP p hp) hD (hx p hp) (o := k) (a := a) hk1 (by rw [es]; exact ha) (fun q => no (by decide) ?_) (fun q => yes rfl ?_)
          · rw [es] at hcall
            exact hcall
          · unfold wX12_findStores_j128
            exact go b' true hb' ⟨fun _ => tA.mpr ⟨hcc, fun _ => q⟩, fun _ => rfl⟩
          · unfold wX12_findStores_j132
            exact go b' false hb' ⟨fun z => absurd z Bool.false_ne_true, fun z => absurd ((tA.mp z).2 es) q⟩
    have j75 : ∀ is : Bool, (is = true ↔ oSy Γ p k = s) → wX12_findStores_j75 Q E K141 (wX12_findStores_l42 Q E K141 (f + 1)) (nI s) (nI a) (if b then 1 else 0) (if c then 1 else 0) (nI p) (nI k) (if is then 1 else 0) σ := by
      intro is his
      unfold wX12_findStores_j75
      cases b
      · refine yes rfl ?_
        unfold wX12_findStores_j103
        exact j104 false is his ⟨fun z => absurd z Bool.false_ne_true, fun z => absurd (hb.mpr (tS.mp z).1) Bool.false_ne_true⟩
      · have hb := hb.mp rfl
        refine no (by decide) ?_
        cases is
        · refine yes rfl ?_
          unfold wX12_findStores_j99
          exact j104 true false his ⟨fun _ => tS.mpr ⟨hb, fun z => absurd (his.mpr z) Bool.false_ne_true⟩, fun _ => rfl⟩
        · have es := his.mp rfl
          refine no (by decide) ?_
          have hcall := m_shA (E := E) (Q := fun u9 σ8 => ((u9 = 0) → wX12_findStores_j103 Q E K141 (wX12_findStores_l42 Q E K141 (f + 1)) (nI s) (nI a) (if c then 1 else 0) (nI p) (nI k) 1 σ8) ∧ (¬ (u9 = 0) → wX12_findStores_j99 Q E K141 (wX12_findStores_l42 Q E K141 (f + 1)) (nI s) (nI a) (if c then 1 else 0) (nI p) (nI k) 1 σ8)) hX hV hL hp (hP p hp) (hx p hp) (o := k) (a := a) hk1 (by rw [es]; exact ha) (fun q => no (by decide) ?_) (fun q => yes rfl ?_)
          · rw [es] at hcall
            exact hcall
          · unfold wX12_findStores_j99
            exact j104 true true his ⟨fun _ => tS.mpr ⟨hb, fun _ => q⟩, fun _ => rfl⟩
          · unfold wX12_findStores_j103
            exact j104 false true his ⟨fun z => absurd z Bool.false_ne_true, fun z => absurd ((tS.mp z).2 es) q⟩
    show wX12_findStores_l42_b Q E K141 (wX12_findStores_l42 Q E K141 (f + 1)) (nI s) (nI a) _ _ (nI p) (nI k) σ
    unfold wX12_findStores_l42_b
    rw [e4, nI_clampE (show p < 2147483648 by clear hb hcc; omega), nI_clampE (show 4 * p + k < 2147483648 by clear hb hcc; omega), hc.2.1, w4]
    refine ⟨q4, no q3 ⟨q5, ?_⟩⟩
    by_cases e : oSy Γ p k = s
    · exact no (fun z => z (by rw [e])) (j75 true ⟨fun _ => e, fun _ => rfl⟩)
    · have hne : ¬ nI (oSy Γ p k) = nI s := by clear hb hcc tS tA; rw [nI_eqE (by omega) (by omega)]; exact e
      exact yes hne (j75 false ⟨fun z => absurd z Bool.false_ne_true, fun z => absurd z e⟩)
theorem m_st30 (hX : MXg σ Γ) (hV : GRV Γ) (hL : LVF Γ) (hP : ∀ p, p < Γ.2.1 → MPf σ Γ p) (hD : MDf σ Γ) (hx : ∀ p, p < Γ.2.1 → crc (xR Γ p) = false) {s a : Nat} (hs : s < Γ.1.1) (ha : a < Γ.1.2.2.1 s) {Q : ab_S → Prop} {K147 : Int32 → Int32 → Int32 → Int32 → ab_S → Prop} (h : ∀ b c : Bool, (b = true ↔ allS Γ s a) → (c = true ↔ allA Γ s a) → K147 (nI s) (nI a) (if b then 1 else 0) (if c then 1 else 0) σ) : ∀ f p (b c : Bool), Γ.2.1 - p = f → p ≤ Γ.2.1 → (b = true ↔ tillO Γ s (fun p o => shA Γ p o a) p 0) → (c = true ↔ tillO Γ s (fun p o => alA Γ p o a) p 0) → wX12_findStores_l30 Q E K147 (f + 1) (nI s) (nI a) (if b then 1 else 0) (if c then 1 else 0) (nI p) σ := by
  have h30 := hV.2.1
  intro f
  induction f with
  | zero =>
    intro p b c hf hp hb hcc
    have e : p = Γ.2.1 := by clear hb hcc; omega
    have q3 : nI Γ.2.1 ≤ nI p := by clear hb hcc; simp (disch := omega) only [nI_lit, nI_add, nI_mulE, nI_clampE, nI_eqE, nI_leE, nI_ltE, vp_nIE, true_and, and_true]; omega
    show wX12_findStores_l30_b _ _ _ _ _ _ _ _ _ _
    unfold wX12_findStores_l30_b
    rw [hX.1.2.1]
    refine yes q3 (h b c (hb.trans ?_) (hcc.trans ?_))
    · exact ⟨fun z p' o r1 r2 r3 => z p' o r1 r2 (Or.inl (by omega)) r3, fun z p' o r1 r2 _ r3 => z p' o r1 r2 r3⟩
    · exact ⟨fun z p' o r1 r2 r3 => z p' o r1 r2 (Or.inl (by omega)) r3, fun z p' o r1 r2 _ r3 => z p' o r1 r2 r3⟩
  | succ f ih =>
    intro p b c hf hp hb hcc
    have hp1 : p < Γ.2.1 := by clear hb hcc; omega
    have q1 : Γ.2.1 - (p + 1) = f := by clear hb hcc; omega
    have q3 : ¬ nI Γ.2.1 ≤ nI p := by clear hb hcc; simp (disch := omega) only [nI_lit, nI_add, nI_mulE, nI_clampE, nI_eqE, nI_leE, nI_ltE, vp_nIE, true_and, and_true]; omega
    show wX12_findStores_l30_b Q E K147 (wX12_findStores_l30 Q E K147 (f + 1)) (nI s) (nI a) _ _ (nI p) σ
    unfold wX12_findStores_l30_b
    rw [hX.1.2.1]
    refine no q3 ⟨(Γ.2.2.1 p).2.1 + 1 + 1, ?_⟩
    refine m_st42 hX hV hL hP hD hx hp1 hs ha (fun b' c' hb' hc' => ?_) _ 0 b c rfl (Nat.zero_le _) hb hcc
    unfold wX12_findStores_j141
    rw [nI_1]
    exact fe (ih (p + 1) b' c' q1 hp1 (hb'.trans tillO_n.symm) (hc'.trans tillO_n.symm))
theorem m_finS (hX : MXg σ Γ) (hV : GRV Γ) (hL : LVF Γ) (hP : ∀ p, p < Γ.2.1 → MPf σ Γ p) (hD : MDf σ Γ) (hx : ∀ p, p < Γ.2.1 → crc (xR Γ p) = false) {Q : ab_S → Prop} (h : ∀ τ, FM S123 σ τ → MSf τ Γ → Q τ) : wX12_findStores Q E σ := by
  have h30 := hV.2.1
  have h12 := hV.1.1
  have keep : ∀ τ, FM S123 σ τ → MXg τ Γ ∧ (∀ p, p < Γ.2.1 → MPf τ Γ p) ∧ MDf τ Γ := fun τ f => ⟨hX.fm hV f ⟨decide_eq_false (by omega), decide_eq_false (by omega), decide_eq_false (by omega)⟩ (fun a i q1 q2 => decide_eq_false (by omega)), fun p hp => (hP p hp).fm f (fun a i q1 q2 => decide_eq_false (by omega)), hD.fm f (fun i => decide_eq_false (by omega))⟩
  refine ⟨Γ.1.1 + 1, ?_⟩
  suffices H : ∀ f s τ, Γ.1.1 - s = f → s ≤ Γ.1.1 → FM S123 σ τ → (∀ s' a', s' < Γ.1.1 → a' < Γ.1.2.2.1 s' → 8 * s' + a' < 8 * s → τ.2.1 123 (8 * s' + a') = nI (stv Γ s' a')) → wX12_findStores_l2 Q E (f + 1) (nI s) τ from H _ 0 σ rfl (Nat.zero_le _) (FM.rf _ _) (fun s' a' _ _ q => by omega)
  intro f
  induction f with
  | zero =>
    intro s τ hf hs hF hd
    obtain ⟨X3, P3, D3⟩ := keep τ hF
    show wX12_findStores_l2_b _ _ _ _ _
    unfold wX12_findStores_l2_b
    rw [X3.1.1.1]
    refine yes (by simp (disch := omega) only [nI_lit, nI_add, nI_mulE, nI_clampE, nI_eqE, nI_leE, nI_ltE, vp_nIE, true_and, and_true]; omega) (h τ hF (fun s' a' q1 q2 => hd s' a' q1 q2 ?_))
    have h8 := (hV.1.2.2 s' q1).2.1
    omega
  | succ f ih =>
    intro s τ hf hs hF hd
    have hs1 : s < Γ.1.1 := by omega
    have h8 := (hV.1.2.2 s hs1).2.1
    obtain ⟨X3, P3, D3⟩ := keep τ hF
    show wX12_findStores_l2_b Q E (wX12_findStores_l2 Q E (f + 1)) (nI s) τ
    unfold wX12_findStores_l2_b
    rw [X3.1.1.1]
    refine no (by simp (disch := omega) only [nI_lit, nI_add, nI_mulE, nI_clampE, nI_eqE, nI_leE, nI_ltE, vp_nIE, true_and, and_true]; omega) ⟨Γ.1.2.2.1 s + 1, ?_⟩
    suffices H2 : ∀ f2 a τ, Γ.1.2.2.1 s - a = f2 → a ≤ Γ.1.2.2.1 s → FM S123 σ τ → (∀ s' a', s' < Γ.1.1 → a' < Γ.1.2.2.1 s' → 8 * s' + a' < 8 * s + a → τ.2.1 123 (8 * s' + a') = nI (stv Γ s' a')) → wX12_findStores_l12 Q E (wX12_findStores_j186 Q E (wX12_findStores_l2 Q E (f + 1))) (f2 + 1) (nI s) (nI a) τ from H2 _ 0 τ rfl (Nat.zero_le _) hF hd
    intro f2
    induction f2 with
    | zero =>
      intro a τ hf2 ha hF hd
      obtain ⟨X3, P3, D3⟩ := keep τ hF
      show wX12_findStores_l12_b _ _ _ _ _ _ _
      unfold wX12_findStores_l12_b
      rw [nI_clampE (show s < 2147483648 by omega), (X3.1.1.2 s hs1).2.1]
      refine ⟨by simp (disch := omega) only [nI_lit, nI_add, nI_mulE, nI_clampE, nI_eqE, nI_leE, nI_ltE, vp_nIE, true_and, and_true]; omega, yes (by simp (disch := omega) only [nI_lit, nI_add, nI_mulE, nI_clampE, nI_eqE, nI_leE, nI_ltE, vp_nIE, true_and, and_true]; omega) ?_⟩
      unfold wX12_findStores_j186
      rw [nI_1]
      refine fe (ih (s + 1) τ (by omega) hs1 hF (fun s' a' q1 q2 q3 => hd s' a' q1 q2 ?_))
      by_cases e : s' = s
      · rw [e] at q2; rw [e]; omega
      · have := (hV.1.2.2 s' q1).2.1; omega
    | succ f2 ih2 =>
      intro a τ hf2 ha hF hd
      have ha1 : a < Γ.1.2.2.1 s := by omega
      have q1 : Γ.1.2.2.1 s - (a + 1) = f2 := by omega
      obtain ⟨X3, P3, D3⟩ := keep τ hF
      have e8 : (8 : Int32) * nI s + nI a = nI (8 * s + a) := by show nI 8 * nI s + _ = _; rw [nI_mulE, nI_add]
      show wX12_findStores_l12_b Q E (wX12_findStores_j186 Q E (wX12_findStores_l2 Q E (f + 1))) (wX12_findStores_l12 Q E (wX12_findStores_j186 Q E (wX12_findStores_l2 Q E (f + 1))) (f2 + 1)) (nI s) (nI a) τ
      unfold wX12_findStores_l12_b
      rw [nI_clampE (show s < 2147483648 by omega), (X3.1.1.2 s hs1).2.1]
      refine ⟨by simp (disch := omega) only [nI_lit, nI_add, nI_mulE, nI_clampE, nI_eqE, nI_leE, nI_ltE, vp_nIE, true_and, and_true]; omega, no (by simp (disch := omega) only [nI_lit, nI_add, nI_mulE, nI_clampE, nI_eqE, nI_leE, nI_ltE, vp_nIE, true_and, and_true]; omega) ⟨Γ.2.1 + 1, ?_⟩⟩
      have fin : wX12_findStores_j179 Q E (wX12_findStores_j186 Q E (wX12_findStores_l2 Q E (f + 1))) (wX12_findStores_l12 Q E (wX12_findStores_j186 Q E (wX12_findStores_l2 Q E (f + 1))) (f2 + 1)) (nI s) (nI a) (nI (stv Γ s a)) (nI (8 * s + a)) τ := by
        unfold wX12_findStores_j179
        rw [nI_1, nI_clampE (show 8 * s + a < 2147483648 by omega)]
        refine ⟨by simp (disch := omega) only [nI_lit, nI_add, nI_mulE, nI_clampE, nI_eqE, nI_leE, nI_ltE, vp_nIE, true_and, and_true]; omega, fe (fe (ih2 (a + 1) _ q1 ha1 (hF.I (decide_eq_true rfl)) (fun s' a' r1 r2 r3 => ?_)))⟩
        have h8' := (hV.1.2.2 s' r1).2.1
        rw [gI_I, if_pos rfl]
        by_cases e : 8 * s' + a' = 8 * s + a
        · have e1 : s' = s := by omega
          have e2 : a' = a := by omega
          rw [if_pos e, e1, e2]
        · rw [if_neg e]
          exact hd s' a' r1 r2 (by omega)
      have base : ∀ R : Nat → Nat → Prop, tillO Γ s R 0 0 := fun R p' o _ _ q _ => by omega
      refine m_st30 X3 hV hL P3 D3 hx hs1 ha1 (fun b c hb hc => ?_) _ 0 true true rfl (Nat.zero_le _) ⟨fun _ => base _, fun _ => rfl⟩ ⟨fun _ => base _, fun _ => rfl⟩
      unfold wX12_findStores_j147 wX12_findStores_j165
      rw [e8]
      by_cases e : s = 0
      · rw [stv_2 (Or.inl e)] at fin
        exact yes (by rw [e]; rfl) fin
      · have hne : ¬ nI s = 0 := by show ¬ _ = nI 0; clear hb hc; rw [nI_eqE (by omega) (by omega)]; exact e
        refine no hne ?_
        cases b
        · rw [stv_2 (Or.inr (fun z => absurd (hb.mpr z) Bool.false_ne_true))] at fin
          exact no (fun z => z rfl) fin
        · refine yes (by decide) ?_
          cases c
          · rw [stv_1 e (hb.mp rfl) (fun z => absurd (hc.mpr z) Bool.false_ne_true)] at fin
            exact yes rfl fin
          · rw [stv_0 e (hb.mp rfl) (hc.mp rfl)] at fin
            exact no (by decide) fin
end MT
