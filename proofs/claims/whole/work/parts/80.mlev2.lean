/-! ===== levels, the model's: all ===== -/
section ML
variable {σ : ab_S} {s n : Nat} {J : MX2} {dn : Nat → Bool} {E : String → ab_S → Prop}
theorem m_lvs (hJ : lOd J n) (σ0 : ab_S) (hf0 : mLf σ0 s n dn J) {Q : ab_S → Prop} {K157 : Int32 → ab_S → Prop} : ∀ f k L m h τ, k + f = 10 → ((k = 1 ∧ L = lv0 ∧ m = 0 ∧ h = 1) ∨ (2 ≤ k ∧ lSt J dn n k L ∧ n ≤ f + ldn n L ∧ h = k - 1 ∧ (m = k - 1 ∨ (m = 0 ∧ k = 2 ∧ lal n L = false)))) → FM (Slm s) σ0 τ → MLv τ s L → (∀ a, L a < 100) → (∀ τ' m', FM (Slm s) σ0 τ' → MLv τ' s (lvI J dn n f k L) → m' < 11 → (if m' = 0 then 1 else (m' + 1) / 2) = (lhI J dn n f k L h + 1) / 2 → K157 (nI m') τ') → wX12_giveLevels_l41 (nI s) Q E K157 (f + 1) (nI (n - ldn n L)) (nI m) (nI k) τ := by
  obtain ⟨g1, g2, g3, g4, g5⟩ := hf0
  have stop : ∀ k L m h τ, ((k = 1 ∧ L = lv0 ∧ m = 0 ∧ h = 1) ∨ (2 ≤ k ∧ h = k - 1 ∧ (m = k - 1 ∨ (m = 0 ∧ k = 2 ∧ lal n L = false)))) → k ≤ 10 → lal n L = true → (∀ m', m' < 11 → (if m' = 0 then 1 else (m' + 1) / 2) = (h + 1) / 2 → K157 (nI m') τ) → K157 (nI m) τ := by
    intro k L m h τ hc hk hal hK
    refine hK m (by omega) ?_
    rcases hc with ⟨a, b, c, d⟩ | ⟨a, b, c⟩
    · rw [c, d]; rfl
    · rcases c with c | ⟨c1, c2, c3⟩
      · rw [if_neg (by omega), b, c]
      · rw [c3] at hal; exact absurd hal Bool.false_ne_true
  intro f
  induction f with
  | zero =>
    intro k L m h τ hk hc hF hM hB hK
    have hc2 : 2 ≤ k ∧ lSt J dn n k L ∧ n ≤ 0 + ldn n L ∧ h = k - 1 ∧ (m = k - 1 ∨ (m = 0 ∧ k = 2 ∧ lal n L = false)) := by
      rcases hc with ⟨a, _⟩ | hc
      · omega
      · exact hc
    have hal : lal n L = true := lal_n (by have := hc2.2.2.1; omega)
    have e : n - ldn n L = 0 := by rw [ldn_al.mp hal]; omega
    show wX12_giveLevels_l41_b _ _ _ _ _ _ _ _ _
    unfold wX12_giveLevels_l41_b
    rw [e]
    exact yes (by decide) (stop k L m h τ (Or.inr ⟨hc2.1, hc2.2.2.2.1, hc2.2.2.2.2⟩) (by omega) hal (fun m' a b => hK τ m' hF hM a b))
  | succ f ih =>
    intro k L m h τ hk hc hF hM hB hK
    have hln := ldn_le (n := n) L
    show wX12_giveLevels_l41_b (nI s) Q E K157 (wX12_giveLevels_l41 (nI s) Q E K157 (f + 1)) _ _ _ τ
    unfold wX12_giveLevels_l41_b
    rw [lvI, lhI] at hK
    cases hal : lal n L
    · rw [if_neg (by rw [hal]; decide), if_neg (by rw [hal]; decide)] at hK
      have hne : ldn n L ≠ n := fun z => by rw [ldn_al.mpr z] at hal; exact absurd hal (by decide)
      refine no (by show ¬ nI _ ≤ nI 0; simp (disch := omega) only [nI_lit, nI_add, nI_mulE, nI_clampE, nI_eqE, nI_leE, nI_ltE, vp_nIE, true_and, and_true]; omega) ⟨n + 2, ?_⟩
      have hk1 : 1 ≤ k := by rcases hc with hc | hc <;> omega
      have hall := m_lv1 (E := E) hJ σ0 ⟨g1, g2, g3, g4, g5⟩ (k := k) (by omega) (by omega) hB (m0 := m) (Q := Q) (K151 := wX12_giveLevels_j151 (nI s) Q E K157 (wX12_giveLevels_l41 (nI s) Q E K157 (f + 1))) (fun τ2 F2 M2 => ?_) n L τ (by omega) hF hM (fun a => Or.inl rfl) hB (Nat.le_refl _)
      · rw [if_neg (Nat.lt_irrefl _)] at hall
        exact hall
      · unfold wX12_giveLevels_j151
        rw [nI_1]
        refine fe (ih (k + 1) (lsk J dn n k L) _ k τ2 (by omega) (Or.inr ⟨by omega, lSt_s hJ (by omega), ?_, by omega, ?_⟩) F2 M2 (fun a => ?_) hK)
        · rcases hc with ⟨a, _⟩ | ⟨a, b, c, _⟩
          · omega
          · have := ldn_s (k := k) (by omega) (l_some hJ b hal)
            omega
        · rcases hc with ⟨a, b, c, d⟩ | ⟨a, b, c, _⟩
          · by_cases z : ldn n L < ldn n (lsk J dn n k L)
            · rw [if_pos z]; left; omega
            · rw [if_neg z]
              right
              refine ⟨c, by omega, ?_⟩
              cases hz : lal n (lsk J dn n k L)
              · rfl
              · have := ldn_al.mp hz; omega
          · have := ldn_s (k := k) (by omega) (l_some hJ b hal)
            rw [if_pos this]; left; omega
        · unfold lsk
          split
          · omega
          · exact hB a
    · rw [if_pos hal, if_pos hal] at hK
      have e : n - ldn n L = 0 := by rw [ldn_al.mp hal]; omega
      rw [e]
      refine yes (by decide) (stop k L m h τ ?_ (by omega) hal (fun m' a b => hK τ m' hF hM a b))
      rcases hc with hc | ⟨a, b, c, d, e⟩
      · exact Or.inl hc
      · exact Or.inr ⟨a, d, e⟩
theorem i_vis : ∀ m, m < 11 → (nI m + 1) / 2 = nI ((m + 1) / 2) := by decide +kernel
theorem ldn_0 : ldn n lv0 = 0 := by
  unfold ldn
  have : ∀ m, cnt (fun a => decide (0 < lv0 a)) m = 0 := by
    intro m
    induction m with
    | zero => rfl
    | succ m ih => rw [cnt, ih]; rfl
  exact this n
theorem m_give (hJ : lOd J n) (hf0 : mLf σ s n dn J) {Q : ab_S → Prop} (h : ∀ τ, FM (fun a i => decide ((a = 111 ∧ 8 * s ≤ i ∧ i < 8 * s + 8) ∨ (a = 112 ∧ i = s))) σ τ → (∀ a, a < 8 → τ.2.1 111 (8 * s + a) = nI (lvl J dn n a)) → τ.2.1 112 s = nI ((lvh J dn n + 1) / 2) → Q τ) : wX12_giveLevels (nI s) Q E σ := by
  have hf00 := hf0
  obtain ⟨g1, g2, g3, g4, g5⟩ := hf0
  unfold wX12_giveLevels
  rw [nI_clampE (by omega), g3]
  have evs : vp_in (nI s) 13 := by simp (disch := omega) only [nI_lit, nI_add, nI_mulE, nI_clampE, nI_eqE, nI_leE, nI_ltE, vp_nIE, true_and, and_true]; omega
  refine ⟨evs, fe ⟨9, ?_⟩⟩
  suffices H : ∀ f a τ, 8 - a = f → a ≤ 8 → FM (Slm s) σ τ → (∀ b, b < a → τ.2.1 111 (8 * s + b) = nI (lv0 b)) → wX12_giveLevels_l12 (nI s) Q E (wX12_giveLevels_j38 (nI s) Q E) (f + 1) (nI n) 0 (nI a) τ from H 8 0 σ rfl (by omega) (FM.rf _ _) (fun b hb => absurd hb (by omega))
  intro f
  induction f with
  | zero =>
    intro a τ hf ha hF hz
    refine yes (by simp (disch := omega) only [nI_lit, nI_add, nI_mulE, nI_clampE, nI_eqE, nI_leE, nI_ltE, vp_nIE, true_and, and_true]; omega) ?_
    unfold wX12_giveLevels_j38
    refine ⟨10, ?_⟩
    have := m_lvs (E := E) hJ σ hf00 (Q := Q) (K157 := wX12_giveLevels_j157 (nI s) Q E) 9 1 lv0 0 1 τ (by omega) (Or.inl ⟨rfl, rfl, rfl, rfl⟩) hF (fun b hb => hz b (by omega)) (fun a => by show 0 < 100; omega) (fun τ2 m' F2 M2 hm hv => ?_)
    · rw [ldn_0] at this
      exact this
    · unfold wX12_giveLevels_j157
      have fin : ∀ y : Int32, y = nI ((lvh J dn n + 1) / 2) → wX12_giveLevels_j175 (nI s) Q E y τ2 := by
        intro y hy
        unfold wX12_giveLevels_j175
        rw [nI_clampE (by omega)]
        refine ⟨evs, fe (h _ ?_ (fun a ha => ?_) ?_)⟩
        · exact (F2.mono (fun a i y => by have y := of_decide_eq_false y; exact decide_eq_false (by omega))).I (decide_eq_true (by omega))
        · rw [gI_I, if_neg (by omega)]; exact M2 a ha
        · rw [gI_I, if_pos rfl, if_pos rfl]; exact hy
      have hv' : (if m' = 0 then 1 else (m' + 1) / 2) = (lvh J dn n + 1) / 2 := hv
      by_cases z : m' = 0
      · rw [if_pos z] at hv'
        exact no (fun w => w (by rw [z]; rfl)) (fin 1 (by rw [← hv']; rfl))
      · rw [if_neg z] at hv'
        refine yes (by show ¬ nI m' = nI 0; rw [nI_eqE (by omega) (by omega)]; exact z) (fin _ ?_)
        rw [i_vis m' hm, hv']
  | succ f ih =>
    intro a τ hf ha hF hz
    have e8 : (8 : Int32) * nI s + nI a = nI (8 * s + a) := by show nI 8 * nI s + _ = _; rw [nI_mulE, nI_add]
    show wX12_giveLevels_l12_b (nI s) Q E (wX12_giveLevels_j38 (nI s) Q E) (wX12_giveLevels_l12 (nI s) Q E (wX12_giveLevels_j38 (nI s) Q E) (f + 1)) (nI n) 0 (nI a) τ
    unfold wX12_giveLevels_l12_b
    rw [e8, nI_clampE (by omega), nI_1]
    refine no (by simp (disch := omega) only [nI_lit, nI_add, nI_mulE, nI_clampE, nI_eqE, nI_leE, nI_ltE, vp_nIE, true_and, and_true]; omega) ⟨by simp (disch := omega) only [nI_lit, nI_add, nI_mulE, nI_clampE, nI_eqE, nI_leE, nI_ltE, vp_nIE, true_and, and_true]; omega, fe (fe (ih (a + 1) _ (by omega) (by omega) (hF.I (decide_eq_true (by omega))) (fun b hb => ?_)))⟩
    rw [gI_I, if_pos rfl]
    by_cases e : b = a
    · rw [e, if_pos rfl]; rfl
    · rw [if_neg (by omega)]; exact hz b (by omega)
end ML
/-- the model's levels and visits -/
def Svm : Nat → Nat → Bool := fun a _ => decide (a = 111 ∨ a = 112)
def MLs (σ : ab_S) (Γ : GRT) : Prop := ∀ s, s < Γ.1.1 → (∀ a, a < 8 → σ.2.1 111 (8 * s + a) = nI (slv Γ s a)) ∧ σ.2.1 112 s = nI (svs Γ s)
theorem m_slv {σ : ab_S} {Γ : GRT} {E : String → ab_S → Prop} (hV : GRV Γ) (hC : MSy σ Γ.1) (hI : InM σ (oEnd Γ).2) (hc : ∀ p, p < Γ.2.1 → crc ((oEnd Γ).1 p) = false) {Q : Int32 → ab_S → Prop} {K40 : ab_S → Prop} (h : ∀ τ, FM Svm σ τ → MLs τ Γ → K40 τ) : ∃ n, wX12_order0_l21 Q E K40 n 0 σ := by
  have h12 := hV.1.1
  refine ⟨Γ.1.1 + 1, ?_⟩
  suffices H : ∀ f s τ, Γ.1.1 - s = f → s ≤ Γ.1.1 → FM Svm σ τ → (∀ s', s' < s → (∀ a, a < 8 → τ.2.1 111 (8 * s' + a) = nI (slv Γ s' a)) ∧ τ.2.1 112 s' = nI (svs Γ s')) → wX12_order0_l21 Q E K40 (f + 1) (nI s) τ from H _ 0 σ rfl (Nat.zero_le _) (FM.rf _ _) (fun s' hs' => absurd hs' (by omega))
  intro f
  induction f with
  | zero =>
    intro s τ hf hs hF hL
    show wX12_order0_l21_b _ _ _ _ _ _
    unfold wX12_order0_l21_b
    rw [hF.1 92 9 (decide_eq_false (by omega)), hC.1]
    exact yes (by simp (disch := omega) only [nI_lit, nI_add, nI_mulE, nI_clampE, nI_eqE, nI_leE, nI_ltE, vp_nIE, true_and, and_true]; omega) (h τ hF (fun s' hs' => hL s' (by omega)))
  | succ f ih =>
    intro s τ hf hs hF hL
    have hs1 : s < Γ.1.1 := by omega
    obtain ⟨a1, a2, a3, a4⟩ := hC.2 s hs1
    have h8 := (hV.1.2.2 s hs1).2.1
    show wX12_order0_l21_b Q E K40 (wX12_order0_l21 Q E K40 (f + 1)) (nI s) τ
    unfold wX12_order0_l21_b
    rw [hF.1 92 9 (decide_eq_false (by omega)), hC.1, nI_1]
    refine no (by simp (disch := omega) only [nI_lit, nI_add, nI_mulE, nI_clampE, nI_eqE, nI_leE, nI_ltE, vp_nIE, true_and, and_true]; omega) ?_
    refine m_give (oEnd_lod hV hc s) (dn := Γ.1.2.2.2.1 s) ⟨by omega, h8, by rw [hF.1 99 _ (decide_eq_false (by omega))]; exact a2, by rw [hF.1 100 _ (decide_eq_false (by omega))]; exact a3, fun b hb => by rw [hF.2.1 110 _ (decide_eq_false (by omega))]; exact hI s (by omega) b (by omega)⟩ (fun τ2 F2 L2 V2 => fe ?_)
    refine ih (s + 1) τ2 (by omega) (by omega) (hF.tr (F2.mono (fun a i y => by have y := of_decide_eq_false y; exact decide_eq_false (by omega)))) (fun s' hs' => ?_)
    by_cases e : s' = s
    · subst e; exact ⟨L2, V2⟩
    · obtain ⟨b1, b2⟩ := hL s' (by omega)
      exact ⟨fun a ha => by rw [F2.1 _ _ (decide_eq_false (by omega))]; exact b1 a ha, by rw [F2.1 _ _ (decide_eq_false (by omega))]; exact b2⟩
