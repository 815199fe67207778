/-! ===== a grammar taken, the class's ===== -/
/-- what holds of a grammar that is taken -/
def GOK (Γ : GRT) : Prop := GRV Γ ∧ LVF Γ ∧ (∀ p, p < Γ.2.1 → crc (xR Γ p) = false) ∧ pgB Γ Γ.2.1 ≤ 3000 ∧ Γ.2.2.2.1 ≤ 2400 ∧ Γ.2.2.2.2 ≤ 2400
theorem ordA_none {Γ : GRT} (h : ordA Γ = none) : (¬ fcr (oEnd Γ).1 Γ.2.1 < Γ.2.1) ∧ ¬ fcr (xR Γ) Γ.2.1 < Γ.2.1 := by
  unfold ordA at h
  by_cases a : fcr (oEnd Γ).1 Γ.2.1 < Γ.2.1
  · rw [if_pos a] at h; exact absurd h (by simp)
  · rw [if_neg a] at h
    by_cases b : fcr (xR Γ) Γ.2.1 < Γ.2.1
    · rw [if_pos b] at h; exact absurd h (by simp)
    · exact ⟨a, b⟩
theorem gok {t : Nat → Nat} {n : Nat} (hn : n ≤ 2400) (h : (pGr t n).1 = true) (hV : GRV (pGr t n).2.2) (ho : ordA (pGr t n).2.2 = none) : GOK (pGr t n).2.2 := by
  obtain ⟨a, b⟩ := ordA_none ho
  obtain ⟨w1, w2, w3⟩ := pGr_w h
  have hL := lvf hV (fcr_no a)
  exact ⟨hV, hL, fcr_no b, pgB_3000 hV hL (by omega), by omega, by omega⟩
/-- a grammar with all that the class works out of it -/
def CWh (σ : ab_S) (g : Nat) (Γ : GRT) : Prop := CW σ g Γ ∧ CPg σ Γ ∧ InC σ g (oEnd Γ).2
def Scg (q : Nat) : Nat → Nat → Bool := fun a _ => decide ((3 ≤ a ∧ a ≤ 7) ∨ a = 10 ∨ (q ≤ a ∧ a ≤ q + 17))
def Scg2 (q : Nat) : Nat → Nat → Bool := fun a i => decide ((3 ≤ a ∧ a ≤ 7) ∨ (10 ≤ a ∧ a ≤ 27) ∨ (q ≤ a ∧ a ≤ q + 17) ∨ (a = 0 ∧ 11 ≤ i ∧ i ≤ 17 ∧ i ≠ 13 ∧ i ≠ 14))
theorem nI_m1 {k : Nat} (h : k < 2147483648) : ¬ nI k = -1 := by
  intro e
  have h1 : (nI k).toBitVec = (-1 : Int32).toBitVec := by rw [e]
  have h2 := congrArg BitVec.toNat h1
  have h3 : (nI k).toBitVec.toNat = k % 4294967296 := by show (BitVec.ofNat 32 k).toNat = _; rw [BitVec.toNat_ofNat]
  have h4 : (-1 : Int32).toBitVec.toNat = 4294967295 := by decide
  omega
theorem fcr_le (R : MX3) (N : Nat) : fcr R N ≤ N := by
  have H : ∀ f i, fcF R f i ≤ i + f := by
    intro f
    induction f with
    | zero => intro i; exact Nat.le_refl _
    | succ f ih =>
      intro i
      rw [fcF]
      split
      · omega
      · have := ih (i + 1); omega
  have := H N 0
  unfold fcr; omega
section CG
variable {σ : ab_S} {t : Nat → Nat} {n q g0 : Nat} {E : String → ab_S → Prop}
theorem c_gram (hT : CT σ t n) (hq : isG q) (hg : isG g0) (h12 : σ.2.2.2 0 12 = some q) (h11 : σ.2.2.2 0 11 = some g0) {Q : Int32 → ab_S → Prop} (kf : ∀ v τ, ((pGr t n).1 = false ∧ v = (pGr t n).2.1) ∨ ((pGr t n).1 = true ∧ ordA (pGr t n).2.2 = some v) → FM (Scg q) σ τ → Q (nI v) τ) (kt : (pGr t n).1 = true → ordA (pGr t n).2.2 = none → GOK (pGr t n).2.2 → ∀ τ, FM (Scg2 q) σ τ → τ.2.2.2 0 11 = some q → τ.2.2.2 0 12 = some g0 → τ.2.1 0 15 = 1 → τ.2.1 0 16 = 0 → τ.2.1 0 17 = 0 → CWh τ q (pGr t n).2.2 → Q (-1) τ) : wX11_grammar Q E σ := by
  have hqb := isG_b hq
  have hgb := isG_b hg
  have hn := hT.1
  have hle := pGr_le t n
  have fS : ∀ {τ : ab_S}, Fr (SGr q) σ τ → FM (Scg q) σ τ := fun f => (FrFM f).mono (fun a i y => by have y := of_decide_eq_false y; simp [SGr]; omega)
  unfold wX11_grammar
  refine ⟨q, h12, hq, ?_⟩
  refine c_read hq hT (fun ht τ f C V => ?_) (fun hf τ f => ?_)
  · generalize hΓ : (pGr t n).2.2 = Γ at *
    have F1 := fS f
    have h30 := V.2.1
    refine yes rfl ?_
    refine c_induce V hq C (fun τ2 f2 O2 => ?_)
    have F2 : FM (Scg q) σ τ2 := F1.tr (f2.mono (fun a i y => by have y := of_decide_eq_false y; exact decide_eq_false (by omega)))
    have C2 := C.so V hq f2
    have O2 : CO τ2 q Γ (oEnd Γ) := O2
    refine c_fc C2.2.1 h30 O2.1 ?_
    by_cases a : fcr (oEnd Γ).1 Γ.2.1 < Γ.2.1
    · rw [if_pos a]
      refine no (nI_m1 (by omega)) ?_
      have e : (2000 : Int32) + nI (fcr (oEnd Γ).1 Γ.2.1) = nI (2000 + fcr (oEnd Γ).1 Γ.2.1) := nI_add 2000 _
      rw [e]
      exact kf _ τ2 (Or.inr ⟨ht, by unfold ordA; rw [if_pos a]⟩) F2
    · rw [if_neg a]
      refine yes rfl ?_
      refine c_slv V hq C2.1 O2.2 (fcr_no a) (fun τ3 f3 L3 => ?_)
      have C3 : CGr τ3 q Γ := C2.fm V f3 (fun k i hk => decide_eq_false (by omega))
      have I3 : InC τ3 q (oEnd Γ).2 := fun s hs a ha => by rw [f3.1 _ _ (decide_eq_false (by omega))]; exact O2.2 s hs a ha
      have F3 : FM (Scg q) σ τ3 := F2.tr (f3.mono (fun a i y => by have y := of_decide_eq_false y; exact decide_eq_false (by omega)))
      refine c_crs V hq C3 L3 (fun τ4 f4 => ?_)
      have F4 : FM (Scg q) σ τ4 := F3.tr (f4.mono (fun a i y => by have y := of_decide_eq_false y; exact decide_eq_false (by omega)))
      unfold fcI
      by_cases b : fcr (xR Γ) Γ.2.1 < Γ.2.1
      · rw [if_pos b]
        refine no (nI_m1 (by omega)) ?_
        have e : (3000 : Int32) + nI (fcr (xR Γ) Γ.2.1) = nI (3000 + fcr (xR Γ) Γ.2.1) := nI_add 3000 _
        rw [e]
        exact kf _ τ4 (Or.inr ⟨ht, by unfold ordA; rw [if_neg a, if_pos b]⟩) F4
      · rw [if_neg b]
        refine yes rfl ?_
        have ho : ordA Γ = none := by unfold ordA; rw [if_neg a, if_neg b]
        have G : GOK Γ := by rw [← hΓ]; exact gok hn ht (by rw [hΓ]; exact V) (by rw [hΓ]; exact ho)
        have hL := G.2.1
        have C4 : CGr τ4 q Γ := C3.fm V f4 (fun k i hk => decide_eq_false (by omega))
        have I4 : InC τ4 q (oEnd Γ).2 := fun s hs a ha => by rw [f4.1 _ _ (decide_eq_false (by omega))]; exact I3 s hs a ha
        have L4 : CLs τ4 q Γ := fun s hs => ⟨fun x hx => by rw [f4.1 _ _ (decide_eq_false (by omega))]; exact (L3 s hs).1 x hx, by rw [f4.1 _ _ (decide_eq_false (by omega))]; exact (L3 s hs).2⟩
        have g4 : τ4.2.2.2 0 11 = some g0 := by rw [F4.2.2 _ _ (decide_eq_false (by omega))]; exact h11
        unfold wX11_takeGrammar
        refine ⟨g0, g4, hg, fe (fe (fe (fe (fe ?_))))⟩
        generalize hτ5 : ab_I (ab_I (ab_I (ab_R (ab_R τ4 0 12 (some g0)) 0 11 (some q)) 0 15 1) 0 16 0) 0 17 0 = τ5
        have f5 : FM (fun a i => decide (a = 0 ∧ 11 ≤ i ∧ i ≤ 17 ∧ i ≠ 13 ∧ i ≠ 14)) τ4 τ5 := by
          rw [← hτ5]
          have r1 : FM (fun a i => decide (a = 0 ∧ 11 ≤ i ∧ i ≤ 17 ∧ i ≠ 13 ∧ i ≠ 14)) τ4 (ab_R (ab_R τ4 0 12 (some g0)) 0 11 (some q)) := by
            refine ⟨fun a i _ => rfl, fun a i _ => rfl, fun a i z => ?_⟩
            have z := of_decide_eq_false z
            by_cases e : a = 0
            · rw [gR_R, if_pos e, if_neg (by omega), gR_R, if_pos rfl, if_neg (by omega), e]
            · rw [gR_R, if_neg e, gR_R, if_neg e]
          exact ((r1.I (decide_eq_true (by omega))).I (decide_eq_true (by omega))).I (decide_eq_true (by omega))
        have w11 : τ5.2.2.2 0 11 = some q := by rw [← hτ5, gR_I, gR_I, gR_I, gR_R, if_pos rfl, if_pos rfl]
        have w12 : τ5.2.2.2 0 12 = some g0 := by rw [← hτ5, gR_I, gR_I, gR_I, gR_R, if_pos rfl, if_neg (by decide), gR_R, if_pos rfl, if_pos rfl]
        have w15 : τ5.2.1 0 15 = 1 := by rw [← hτ5, gI_I, if_pos rfl, if_neg (by decide), gI_I, if_pos rfl, if_neg (by decide), gI_I, if_pos rfl, if_pos rfl]
        have w16 : τ5.2.1 0 16 = 0 := by rw [← hτ5, gI_I, if_pos rfl, if_neg (by decide), gI_I, if_pos rfl, if_pos rfl]
        have w17 : τ5.2.1 0 17 = 0 := by rw [← hτ5, gI_I, if_pos rfl, if_pos rfl]
        clear hτ5
        have C5 : CGr τ5 q Γ := C4.fm V f5 (fun k i hk => decide_eq_false (by omega))
        have L5 : CLs τ5 q Γ := fun s hs => ⟨fun x hx => by rw [f5.1 _ _ (decide_eq_false (by omega))]; exact (L4 s hs).1 x hx, by rw [f5.1 _ _ (decide_eq_false (by omega))]; exact (L4 s hs).2⟩
        refine c_mk V hL hq C5 L5 (fun τ6 f6 X6 P6 => ?_)
        refine c_find X6 P6 V hL G.2.2.1 (fun τ7 f7 Z7 S7 => ?_)
        refine c_asm Z7 S7 V hL G.2.2.2.2.2 G.2.2.2.1 (fun τ8 f8 W8 P8 => ?_)
        have g68 : FM (fun a i => decide (11 ≤ a ∧ a ≤ 27)) τ5 τ8 := ((f6.mono (fun a i y => by have y := of_decide_eq_false y; exact decide_eq_false (by omega))).tr (f7.mono (fun a i y => by have y := of_decide_eq_false y; exact decide_eq_false (by omega)))).tr (f8.mono (fun a i y => by have y := of_decide_eq_false y; exact decide_eq_false (by omega)))
        have F8 : FM (Scg2 q) σ τ8 := ((F4.mono (fun a i y => by have y := of_decide_eq_false y; exact decide_eq_false (by omega))).tr (f5.mono (fun a i y => by have y := of_decide_eq_false y; exact decide_eq_false (by omega)))).tr (g68.mono (fun a i y => by have y := of_decide_eq_false y; exact decide_eq_false (by omega)))
        refine kt ht ho G τ8 F8 (by rw [g68.2.2 _ _ (decide_eq_false (by omega))]; exact w11) (by rw [g68.2.2 _ _ (decide_eq_false (by omega))]; exact w12) (by rw [g68.1 _ _ (decide_eq_false (by omega))]; exact w15) (by rw [g68.1 _ _ (decide_eq_false (by omega))]; exact w16) (by rw [g68.1 _ _ (decide_eq_false (by omega))]; exact w17) ⟨W8, P8, fun s hs a ha => ?_⟩
        rw [g68.1 _ _ (decide_eq_false (by omega)), f5.1 _ _ (decide_eq_false (by omega))]
        exact I4 s hs a ha
  · exact no (nI_m1 (by omega)) (kf _ τ (Or.inl ⟨hf, rfl⟩) (fS f))
end CG
