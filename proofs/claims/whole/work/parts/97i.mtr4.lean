/-! ===== trees, the model's: a text read, and taken ===== -/
/-- the tree that is taken, the model's -/
def MTt (σ : ab_S) (Γ : GRT) (T : TST) : Prop := σ.2.1 92 53 = nI T.N ∧ ∀ k, k < T.N → σ.2.1 128 k = nI (T.pr k) ∧ σ.2.1 129 k = abI (T.pa k) ∧ σ.2.1 130 k = nI (T.pl k) ∧ σ.2.1 131 k = T.li k ∧ ∀ o, 1 ≤ o → o ≤ rt Γ (T.pr k) → σ.2.1 132 (3 * k + (o - 1)) = nI (T.ch k o)
section MR
variable {σ : ab_S} {t : Nat → Nat} {n : Nat} {Γ : GRT} {T : TST} {E : String → ab_S → Prop} {Q : ab_S → Prop}
theorem m_trd (hT : MT σ t n) (hV : GRV Γ) (hC : MGr σ Γ) (kt : (pTr Γ t n).1 = true → ∀ σ', FM SmT σ σ' → MOk σ' → MTr σ' (pTr Γ t n).2.2 → Q σ') (kf : (pTr Γ t n).1 = false → ∀ σ', FM SmT σ σ' → MBad σ' (pTr Γ t n).2.1 → Q σ') : wX12_readTree Q E σ := by
  have hn := hT.1
  unfold wX12_readTree
  refine fe (fe (fe (fe ?_)))
  generalize hσ1 : ab_I (ab_I (ab_I (ab_I σ 92 44 (-1)) 92 59 0) 92 64 0) 92 42 0 = σ1
  have F1 : FM (fun a i => decide (a = 92 ∧ (i = 44 ∨ i = 59 ∨ i = 64 ∨ i = 42))) σ σ1 := by
    rw [← hσ1]
    exact ((((FM.rf _ σ).I (decide_eq_true (by omega))).I (decide_eq_true (by omega))).I (decide_eq_true (by omega))).I (decide_eq_true (by omega))
  have e44 : MOk σ1 := by unfold MOk; rw [← hσ1]; simp [gI_I]
  have e59 : σ1.2.1 92 59 = nI 0 := by rw [← hσ1]; simp [gI_I]; rfl
  have e64 : σ1.2.1 92 64 = nI 0 := by rw [← hσ1]; simp [gI_I]; rfl
  have e42 : σ1.2.1 92 42 = nI 0 := by rw [← hσ1]; simp [gI_I]; rfl
  clear hσ1
  have T1 : MT σ1 t n := hT.fm F1 (decide_eq_false (by omega)) (fun i => decide_eq_false (by omega)) (fun i => decide_eq_false (by omega))
  have C1 : MGr σ1 Γ := hC.fm hV F1 ⟨decide_eq_false (by omega), decide_eq_false (by omega), decide_eq_false (by omega)⟩ (fun a i q1 q2 => decide_eq_false (by omega))
  have F1' : FM SmT σ σ1 := F1.mono (fun a i y => by have y := of_decide_eq_false y; exact decide_eq_false (by omega))
  refine m_adv T1 (Nat.zero_le _) e42 (fun σ2 F2 S2 => ?_)
  have z : ∀ a i, ¬ (a = 92 ∧ 40 ≤ i ∧ i ≤ 43) → Sadv a i = false := by intro a i hh; simp [Sadv]; omega
  have M2 : MRd σ2 t n (sp bl t n 0) Γ (tInc t0) 0 := ⟨S2, by unfold MOk; rw [F2.1 _ _ (z _ _ (by omega))]; exact e44, C1.fm hV F2 ⟨z _ _ (by omega), z _ _ (by omega), z _ _ (by omega)⟩ (fun a i q1 q2 => z _ _ (by omega)), ⟨by rw [F2.1 _ _ (z _ _ (by omega))]; exact e59, fun k hk => absurd hk (Nat.not_lt_zero _)⟩, by rw [F2.1 _ _ (z _ _ (by omega))]; exact e64, rfl⟩
  have F02 : FM SmT σ σ2 := F1'.tr (F2.mono (fun a i y => by have y := of_decide_eq_false y; exact z a i (by omega)))
  exact m_tLN (σ0 := σ) hn hV 250 t0 (sp bl t n 0) σ2 0 501 rfl (TI_0 Γ) ⟨fun _ => rfl, fun z => absurd rfl z⟩ (by omega) F02 M2 ⟨kt, kf⟩ _ (fun σ' h => ⟨501, h⟩)
theorem m_tcp (hO : TOK Γ T) (hV : GRV Γ) (h : MTr σ T) {Q : Int32 → ab_S → Prop} {K148 : ab_S → Prop} (k : ∀ τ, FM (fun a i => decide ((a = 92 ∧ i = 53) ∨ (128 ≤ a ∧ a ≤ 132))) σ τ → MTt τ Γ T → K148 τ) : ∀ σ16 : ab_S, σ16 = ab_I σ 92 53 (σ.2.1 92 59) → ∃ m, wX12_tree_l54 Q E K148 m (0 : Int32) σ16 := by
  rw [h.1]
  refine fe ⟨T.N + 1, ?_⟩
  obtain ⟨hN1, hN2, hT⟩ := hO
  have F1 : FM (fun a i => decide ((a = 92 ∧ i = 53) ∨ (128 ≤ a ∧ a ≤ 132))) σ (ab_I σ 92 53 (nI T.N)) := (FM.rf _ σ).I (decide_eq_true (by omega))
  have e53 : (ab_I σ 92 53 (nI T.N)).2.1 92 53 = nI T.N := by rw [gI_s, if_pos rfl]
  generalize ab_I σ 92 53 (nI T.N) = σ1 at *
  suffices H : ∀ f i τ, T.N - i = f → i ≤ T.N → FM (fun a _ => decide (128 ≤ a ∧ a ≤ 132)) σ1 τ → (∀ j, j < i → τ.2.1 128 j = nI (T.pr j) ∧ τ.2.1 129 j = abI (T.pa j) ∧ τ.2.1 130 j = nI (T.pl j) ∧ τ.2.1 131 j = T.li j) → (∀ j, j < i → T.pa j ≠ 0 → τ.2.1 132 (3 * (T.pa j - 1) + (T.pl j - 1)) = nI j) → wX12_tree_l54 Q E K148 (f + 1) (nI i) τ from H _ 0 σ1 rfl (Nat.zero_le _) (FM.rf _ _) (fun j hj => absurd hj (Nat.not_lt_zero _)) (fun j hj => absurd hj (Nat.not_lt_zero _))
  intro f
  induction f with
  | zero =>
    intro i τ hf hi hF hd hc
    have e : i = T.N := by omega
    rw [e] at hd hc
    show wX12_tree_l54_b _ _ _ _ _ _
    unfold wX12_tree_l54_b
    rw [hF.1 _ _ (decide_eq_false (by omega)), e53]
    refine yes (by simp (disch := omega) only [nI_lit, nI_add, nI_mulE, nI_clampE, nI_eqE, nI_leE, nI_ltE, vp_nIE, true_and, and_true]; omega) (k τ (F1.tr (hF.mono (fun a i y => by have y := of_decide_eq_false y; exact decide_eq_false (by omega)))) ⟨by rw [hF.1 _ _ (decide_eq_false (by omega))]; exact e53, fun j hj => ?_⟩)
    obtain ⟨a1, a2, a3, a4⟩ := hd j hj
    refine ⟨a1, a2, a3, a4, fun o o1 o2 => ?_⟩
    obtain ⟨t1, t2⟩ := hT j hj
    obtain ⟨c1, c2, c3, c4⟩ := t1.2.2.2.2.2.2.1 o o1 (by omega)
    have := hc _ c2 (by omega)
    rw [c3, c4, show j + 1 - 1 = j by omega] at this
    exact this
  | succ f ih =>
    intro i τ hf hi hF hd hc
    have hi1 : i < T.N := by omega
    have ec : (nI i).toNatClampNeg = i := nI_clampE (by omega)
    have ev : vp_in (nI i) 251 := by simp (disch := omega) only [nI_lit, nI_add, nI_mulE, nI_clampE, nI_eqE, nI_leE, nI_ltE, vp_nIE, true_and, and_true]; omega
    obtain ⟨t1, t2⟩ := hT i hi1
    have hpa := t1.2.1
    obtain ⟨b1, b2, b3, b4⟩ := h.2 i hi1
    have g : ∀ a j, (133 ≤ a ∧ a ≤ 136) → τ.2.1 a j = σ.2.1 a j := fun a j ha => by
      rw [hF.1 _ _ (decide_eq_false (by omega)), F1.1 _ _ (decide_eq_false (by omega))]
    show wX12_tree_l54_b Q E K148 (wX12_tree_l54 Q E K148 (f + 1)) (nI i) τ
    unfold wX12_tree_l54_b
    rw [ec, hF.1 92 _ (decide_eq_false (by omega)), e53, g 133 i (by omega), b1]
    refine no (by simp (disch := omega) only [nI_lit, nI_add, nI_mulE, nI_clampE, nI_eqE, nI_leE, nI_ltE, vp_nIE, true_and, and_true]; omega) ⟨ev, ev, fe ⟨ev, ev, ?_⟩⟩
    rw [gI_o (by omega), g 134 i (by omega), b2]
    refine fe ⟨ev, ev, ?_⟩
    rw [gI_o (by omega), gI_o (by omega), g 135 i (by omega), b3]
    refine fe ⟨ev, ev, ?_⟩
    rw [gI_o (by omega), gI_o (by omega), gI_o (by omega), g 136 i (by omega), b4]
    refine fe ⟨ev, ?_⟩
    generalize hτ1 : ab_I (ab_I (ab_I (ab_I τ 128 i (nI (T.pr i))) 129 i (abI (T.pa i))) 130 i (nI (T.pl i))) 131 i (T.li i) = τ1
    have f1 : FM (fun a _ => decide (128 ≤ a ∧ a ≤ 131)) τ τ1 := by
      rw [← hτ1]
      exact ((((FM.rf _ τ).I (decide_eq_true (by omega))).I (decide_eq_true (by omega))).I (decide_eq_true (by omega))).I (decide_eq_true (by omega))
    have w : ∀ j, τ1.2.1 128 j = (if j = i then nI (T.pr i) else τ.2.1 128 j) ∧ τ1.2.1 129 j = (if j = i then abI (T.pa i) else τ.2.1 129 j) ∧ τ1.2.1 130 j = (if j = i then nI (T.pl i) else τ.2.1 130 j) ∧ τ1.2.1 131 j = (if j = i then T.li i else τ.2.1 131 j) := by
      intro j
      rw [← hτ1]
      refine ⟨?_, ?_, ?_, ?_⟩
      · rw [gI_o (by omega), gI_o (by omega), gI_o (by omega), gI_s]
      · rw [gI_o (by omega), gI_o (by omega), gI_s, gI_o (by omega)]
      · rw [gI_o (by omega), gI_s, gI_o (by omega), gI_o (by omega)]
      · rw [gI_s, gI_o (by omega), gI_o (by omega), gI_o (by omega)]
    clear hτ1
    have hd1 : ∀ j, j < i + 1 → τ1.2.1 128 j = nI (T.pr j) ∧ τ1.2.1 129 j = abI (T.pa j) ∧ τ1.2.1 130 j = nI (T.pl j) ∧ τ1.2.1 131 j = T.li j := by
      intro j hj
      obtain ⟨w1, w2, w3, w4⟩ := w j
      rw [w1, w2, w3, w4]
      by_cases e : j = i
      · rw [if_pos e, if_pos e, if_pos e, if_pos e, e]; exact ⟨rfl, rfl, rfl, rfl⟩
      · rw [if_neg e, if_neg e, if_neg e, if_neg e]; exact hd j (by omega)
    have G1 : FM (fun a _ => decide (128 ≤ a ∧ a ≤ 132)) σ1 τ1 := hF.tr (f1.mono (fun a i y => by have y := of_decide_eq_false y; exact decide_eq_false (by omega)))
    have p129 : τ1.2.1 129 i = abI (T.pa i) := (hd1 i (by omega)).2.1
    have p130 : τ1.2.1 130 i = nI (T.pl i) := (hd1 i (by omega)).2.2.1
    rw [p129, p130]
    by_cases e0 : T.pa i = 0
    · refine yes (by rw [(abI_0 (by omega)).mpr e0]; decide) ?_
      unfold wX12_tree_j142
      rw [nI_1]
      refine fe (ih (i + 1) τ1 (by omega) hi1 G1 hd1 (fun j hj hp => ?_))
      by_cases e : j = i
      · rw [e] at hp; exact absurd e0 hp
      · rw [f1.1 _ _ (decide_eq_false (by omega))]; exact hc j (by omega) hp
    · obtain ⟨q1, q2, q3, q4⟩ := t1.2.2.2.2.2.2.2 e0
      have hr := hT (T.pa i - 1) (by omega)
      have hrt : rt Γ (T.pr (T.pa i - 1)) ≤ 3 := (hV.2.2.2 _ hr.1.1).2.1.1
      have hpl : T.pl i ≤ 3 := by omega
      rw [abI_s e0]
      refine no (nI_pos (by omega)) ⟨ev, ev, ?_⟩
      have e3 : (3 : Int32) * nI (T.pa i - 1) + nI (T.pl i) - 1 = nI (3 * (T.pa i - 1) + (T.pl i - 1)) := by
        show nI 3 * _ + _ - nI 1 = _
        rw [nI_mulE, nI_add, nI_subE (by omega)]; congr 1; omega
      rw [e3, nI_clampE (show 3 * (T.pa i - 1) + (T.pl i - 1) < 2147483648 by omega)]
      refine ⟨by simp (disch := omega) only [nI_lit, nI_add, nI_mulE, nI_clampE, nI_eqE, nI_leE, nI_ltE, vp_nIE, true_and, and_true]; omega, fe ?_⟩
      unfold wX12_tree_j142
      rw [nI_1]
      refine fe (ih (i + 1) _ (by omega) hi1 (G1.I (decide_eq_true (by omega))) (fun j hj => ?_) (fun j hj hp => ?_))
      · rw [gI_o (by omega), gI_o (by omega), gI_o (by omega), gI_o (by omega)]; exact hd1 j hj
      · rw [gI_s]
        by_cases e : j = i
        · rw [e, if_pos rfl]
        · have hj2 : j < i := by omega
          obtain ⟨s1, s2⟩ := hT j (by omega)
          obtain ⟨r1, r2, r3, r4⟩ := s1.2.2.2.2.2.2.2 hp
          have hr2 := hT (T.pa j - 1) (by have := s1.2.1; omega)
          have hrt2 : rt Γ (T.pr (T.pa j - 1)) ≤ 3 := (hV.2.2.2 _ hr2.1.1).2.1.1
          rw [if_neg (fun z => ?_), f1.1 _ _ (decide_eq_false (by omega))]
          · exact hc j hj2 hp
          · have z1 : T.pa j - 1 = T.pa i - 1 := by omega
            have z2 : T.pl j = T.pl i := by omega
            rw [z1, z2, q3] at r3
            omega
end MR
