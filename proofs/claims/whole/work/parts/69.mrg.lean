/-! ===== grammars: the model reads one ===== -/
theorem kind0 : ∀ k, k < 128 → vk k = true → (mk k = 0 ↔ k = 0) := by decide +kernel
theorem MS.k0 {σ : ab_S} {t : Nat → Nat} {n q : Nat} (hS : MS σ t n q) : σ.2.1 92 40 = (0 : Int32) ↔ tkK t n q = 0 := by
  have a := mk_lt _ (tkK_lt (t := t) (n := n) (q := q))
  rw [hS.2.2.2.2.1]
  show nI _ = nI 0 ↔ _
  rw [nI_eqE (by omega) (by omega), kind0 _ tkK_lt (tkK_vk t n q)]
theorem pRr_no {t : Nat → Nat} {n f q : Nat} {Γ : GRT} (h : tkK t n q ≠ 2) : (pRr t n f q Γ).1 = false ∧ (pRr t n f q Γ).2.1 = q := by
  cases f with
  | zero => exact ⟨rfl, rfl⟩
  | succ f =>
    have e : pPr t n Γ q = rF q (pnew []) Γ.2.2.2.1 Γ.2.2.2.2 := by unfold pPr; rw [if_neg (fun z => h z.1)]
    rw [pRr, e]; exact ⟨rfl, rfl⟩
section ML
variable {t : Nat → Nat} {n : Nat} {E : String → ab_S → Prop}
theorem m_prs {Q : ab_S → Prop} (σ0 : ab_S) : ∀ f q Γ σ, Γ.2.1 + f = 30 → MS σ t n q → MOk σ → MGr σ Γ → GRV Γ → Γ.2.2.2.1 ≤ q → FM SMr σ0 σ → ((pRr t n f q Γ).1 = true → ∀ σ', FM SMr σ0 σ' → MOk σ' → MGr σ' (pRr t n f q Γ).2.2 → GRV (pRr t n f q Γ).2.2 → Q σ') → ((pRr t n f q Γ).1 = false → ∀ σ', FM SMr σ0 σ' → MBad σ' (pRr t n f q Γ).2.1 → Q σ') → wX12_readGrammar_l72 Q E (f + 2) 1 σ := by
  intro f
  have off : ∀ m σ', Q σ' → wX12_readGrammar_j98 Q E (wX12_readGrammar_l72 Q E (m + 1)) σ' := by
    intro m σ' hq
    unfold wX12_readGrammar_j98 wX12_readGrammar_j99
    show wX12_readGrammar_l72_b _ _ _ _ _
    unfold wX12_readGrammar_l72_b
    exact yes rfl hq
  induction f with
  | zero =>
    intro q Γ σ hf hS hG hC hV hq hF kt kf
    show wX12_readGrammar_l72_b Q E (wX12_readGrammar_l72 Q E 1) 1 σ
    unfold wX12_readGrammar_l72_b
    refine no (by decide) ?_
    unfold wX12_production
    rw [hC.2.1, hS.2.2.1]
    have hn := hS.1.1
    have hqn := hS.2.1
    have B : MBad (ab_I σ 92 44 (nI q)) q := ⟨by simp [gI_I], by omega⟩
    refine fe (no (fun z => z (by rw [show Γ.2.1 = 30 by omega]; rfl)) (m_failY hG (m_goodN B (yes rfl (off 0 _ (kf rfl _ (hF.I (sm92 (by omega))) B))))))
  | succ f ih =>
    intro q Γ σ hf hS hG hC hV hq hF kt kf
    show wX12_readGrammar_l72_b Q E (wX12_readGrammar_l72 Q E (f + 2)) 1 σ
    unfold wX12_readGrammar_l72_b
    refine no (by decide) ?_
    rw [pRr] at kt kf
    refine m_prodn hS hG hC hV (by omega) hq (fun hu σ1 f1 s1 g1 c1 v1 l1 => ?_) (fun hu σ1 f1 b1 => ?_)
    · rw [if_pos hu] at kt kf
      have F1 := hF.tr (f1.mono SRm_SMr)
      refine m_goodY g1 (no (by decide) ?_)
      by_cases k0 : tkK t n (pPr t n Γ q).2.1 = 0
      · rw [if_pos k0] at kt
        exact yes (s1.k0.mpr k0) (off (f + 1) σ1 (kt rfl σ1 F1 g1 c1 v1))
      · rw [if_neg k0] at kt kf
        refine no (fun z => k0 (s1.k0.mp z)) ?_
        unfold wX12_readGrammar_j99
        exact ih _ (gP Γ (pPr t n Γ q)) σ1 (by show Γ.2.1 + 1 + f = 30; omega) s1 g1 c1 v1 l1 F1 kt kf
    · rw [if_neg (by rw [hu]; decide)] at kf
      exact m_goodN b1 (yes rfl (off (f + 1) σ1 (kf rfl σ1 (hF.tr f1) b1)))
theorem m_j67b {Q : ab_S → Prop} {σ : ab_S} {v : Nat} (hb : MBad σ v) (h : Q σ) : wX12_readGrammar_j67 Q E σ := by
  unfold wX12_readGrammar_j67
  refine m_goodN hb ⟨1, ?_⟩
  show wX12_readGrammar_l72_b _ _ _ _ _
  unfold wX12_readGrammar_l72_b
  exact yes rfl h
theorem m_syms {Q : ab_S → Prop} (σ0 : ab_S) : ∀ f q G σ, G.1 + f = 12 → MS σ t n q → MOk σ → MSy σ G → GV G → σ.2.1 92 14 = 0 → σ.2.1 92 21 = 0 → FM SMr σ0 σ → ((pG2 t n (pSys t n f q G)).1 = true → ∀ σ', FM SMr σ0 σ' → MOk σ' → MGr σ' (pG2 t n (pSys t n f q G)).2.2 → GRV (pG2 t n (pSys t n f q G)).2.2 → Q σ') → ((pG2 t n (pSys t n f q G)).1 = false → ∀ σ', FM SMr σ0 σ' → MBad σ' (pG2 t n (pSys t n f q G)).2.1 → Q σ') → wX12_readGrammar_l45 Q E (wX12_readGrammar_j67 Q E) (f + 2) σ := by
  intro f
  have bad : ∀ m σ' v, MBad σ' v → Q σ' → wX12_readGrammar_l45 Q E (wX12_readGrammar_j67 Q E) (m + 1) σ' := by
    intro m σ' v hb hq
    show wX12_readGrammar_l45_b _ _ _ _ _
    unfold wX12_readGrammar_l45_b
    exact m_goodN hb (yes rfl (m_j67b hb hq))
  have stop : ∀ q G σ, MS σ t n q → MOk σ → MSy σ G → GV G → σ.2.1 92 14 = 0 → σ.2.1 92 21 = 0 → FM SMr σ0 σ → ((pG2 t n (true, q, G)).1 = true → ∀ σ', FM SMr σ0 σ' → MOk σ' → MGr σ' (pG2 t n (true, q, G)).2.2 → GRV (pG2 t n (true, q, G)).2.2 → Q σ') → ((pG2 t n (true, q, G)).1 = false → ∀ σ', FM SMr σ0 σ' → MBad σ' (pG2 t n (true, q, G)).2.1 → Q σ') → wX12_readGrammar_j67 Q E σ := by
    intro q G σ hS hG hC hV h14 h21 hF kt kf
    unfold wX12_readGrammar_j67
    refine m_goodY hG ⟨32, ?_⟩
    have e : pG2 t n (true, q, G) = pRr t n 30 q (gr0 G) := by unfold pG2; rw [if_pos rfl]
    rw [e] at kt kf
    exact m_prs σ0 30 q (gr0 G) σ rfl hS hG ⟨hC, h14, h21, fun p hp => absurd hp (Nat.not_lt_zero _)⟩ (GRV0 hV) (Nat.zero_le _) hF kt kf
  induction f with
  | zero =>
    intro q G σ hf hS hG hC hV h14 h21 hF kt kf
    show wX12_readGrammar_l45_b Q E (wX12_readGrammar_j67 Q E) (wX12_readGrammar_l45 Q E (wX12_readGrammar_j67 Q E) 1) σ
    unfold wX12_readGrammar_l45_b
    refine m_goodY hG (no (by decide) ?_)
    by_cases k4 : tkK t n q = 4
    · refine no (fun z => z ((hS.wd (w := 1) (by omega) (by omega)).mpr k4)) ?_
      unfold wX12_symbolStatement
      refine no (fun z => z (by rw [hC.1, show G.1 = 12 by omega]; rfl)) ?_
      have hn := hS.1.1
      have hqn := hS.2.1
      rw [hS.2.2.1]
      have B : MBad (ab_I σ 92 44 (nI q)) q := ⟨by simp [gI_I], by omega⟩
      have e := pRr_no (t := t) (n := n) (f := 30) (q := q) (Γ := gr0 G) (by omega)
      have e2 : pG2 t n (pSys t n 0 q G) = pRr t n 30 q (gr0 G) := by rw [pSys, pG2, if_pos rfl]
      rw [e2] at kf
      exact m_failY hG (bad 0 _ q B (kf e.1 _ (hF.I (sm92 (by omega))) (by rw [e.2]; exact B)))
    · exact yes (fun z => k4 ((hS.wd (w := 1) (by omega) (by omega)).mp z)) (stop q G σ hS hG hC hV h14 h21 hF kt kf)
  | succ f ih =>
    intro q G σ hf hS hG hC hV h14 h21 hF kt kf
    show wX12_readGrammar_l45_b Q E (wX12_readGrammar_j67 Q E) (wX12_readGrammar_l45 Q E (wX12_readGrammar_j67 Q E) (f + 2)) σ
    unfold wX12_readGrammar_l45_b
    refine m_goodY hG (no (by decide) ?_)
    rw [pSys] at kt kf
    by_cases k4 : tkK t n q = 4
    · rw [if_pos k4] at kt kf
      refine no (fun z => z ((hS.wd (w := 1) (by omega) (by omega)).mpr k4)) ?_
      refine m_Sy σ hS k4 hG hC hV (by omega) (FM.rf _ _) (fun hu σ1 f1 s1 g1 c1 v1 => ?_) (fun hu σ1 f1 b1 => ?_)
      · rw [if_pos hu] at kt kf
        exact ih _ _ σ1 (by rw [(pSy_ns hu).2]; omega) s1 g1 c1 v1 (by rw [f1.1 92 14 rfl]; exact h14) (by rw [f1.1 92 21 rfl]; exact h21) (hF.tr (f1.mono SMy_SMr)) kt kf
      · rw [if_neg (by rw [hu]; decide)] at kf
        have e : pG2 t n (false, (pSy t n q G).2.1, G) = (false, (pSy t n q G).2.1, gr0 G) := by unfold pG2; rw [if_neg (show ¬ (false = true) by decide)]
        rw [e] at kf
        exact bad (f + 1) σ1 _ b1 (kf rfl σ1 (hF.tr (f1.mono SMy_SMr)) b1)
    · rw [if_neg k4] at kt kf
      exact yes (fun z => k4 ((hS.wd (w := 1) (by omega) (by omega)).mp z)) (stop q G σ hS hG hC hV h14 h21 hF kt kf)
/-- the model reads a grammar -/
theorem m_read {Q : ab_S → Prop} {σ : ab_S} (hT : MT σ t n) (kt : (pGr t n).1 = true → ∀ σ', FM SMr σ σ' → MOk σ' → MGr σ' (pGr t n).2.2 → GRV (pGr t n).2.2 → Q σ') (kf : (pGr t n).1 = false → ∀ σ', FM SMr σ σ' → MBad σ' (pGr t n).2.1 → Q σ') : wX12_readGrammar Q E σ := by
  have hn := hT.1
  unfold wX12_readGrammar
  refine fe (fe (fe (fe (fe ?_))))
  generalize hσ1 : ab_I (ab_I (ab_I (ab_I (ab_I σ 92 44 (-1)) 92 9 0) 92 14 0) 92 21 0) 92 42 0 = σ1
  have F1 : FM (fun a i => decide (a = 92 ∧ (i = 44 ∨ i = 9 ∨ i = 14 ∨ i = 21 ∨ i = 42))) σ σ1 := by
    rw [← hσ1]
    exact (((((FM.rf _ σ).I (by simp)).I (by simp)).I (by simp)).I (by simp)).I (by simp)
  have G1 : FM SMr σ σ1 := F1.mono (fun a i y => decide_eq_false (by have y := SMr_f y; omega))
  have T1 : MT σ1 t n := hT.fm F1 rfl (fun _ => rfl) (fun _ => rfl)
  have e44 : MOk σ1 := by rw [← hσ1]; simp [MOk, gI_I]
  have e9 : σ1.2.1 92 9 = nI 0 := by rw [← hσ1]; simp [gI_I]; rfl
  have e14 : σ1.2.1 92 14 = 0 := by rw [← hσ1]; simp [gI_I]
  have e21 : σ1.2.1 92 21 = 0 := by rw [← hσ1]; simp [gI_I]
  have e42 : σ1.2.1 92 42 = nI 0 := by rw [← hσ1]; simp [gI_I]; rfl
  refine m_adv T1 (Nat.zero_le _) e42 (fun σ2 f2 s2 => ?_)
  have F2 := G1.tr (f2.mono Sadv_SMr)
  have g2 := e44.fm f2 rfl
  unfold pGr at kt kf
  generalize sp bl t n 0 = q at kt kf s2
  by_cases k4 : tkK t n q = 4
  · have e : pG1 t n (pSy t n q sy0) = pG2 t n (pSys t n 12 q sy0) := by
      have e12 : pSys t n 12 q sy0 = if (pSy t n q sy0).1 then pSys t n 11 (pSy t n q sy0).2.1 (pSy t n q sy0).2.2 else (false, (pSy t n q sy0).2.1, sy0) := by rw [pSys, if_pos k4]
      rw [e12, pG1]
      by_cases hu : (pSy t n q sy0).1 = true
      · rw [if_pos hu, if_pos hu]
      · rw [if_neg hu, if_neg hu, pG2, if_neg (show ¬ (false = true) by decide)]
    rw [e] at kt kf
    refine yes ((s2.wd (w := 1) (by omega) (by omega)).mpr k4) ⟨14, ?_⟩
    exact m_syms σ 12 q sy0 σ2 rfl s2 g2 ⟨by rw [f2.1 92 9 rfl]; exact e9, fun s hs => absurd hs (Nat.not_lt_zero _)⟩ GV0 (by rw [f2.1 92 14 rfl]; exact e14) (by rw [f2.1 92 21 rfl]; exact e21) F2 kt kf
  · have e : pG1 t n (pSy t n q sy0) = (false, q, gr0 sy0) := by
      have : pSy t n q sy0 = (false, q, sy0) := by rw [pSy, if_neg k4]
      rw [this, pG1, if_neg (show ¬ (false = true) by decide)]
    rw [e] at kf
    refine no (fun z => k4 ((s2.wd (w := 1) (by omega) (by omega)).mp z)) ?_
    rw [s2.2.2.1]
    have hq := s2.2.1
    have B : MBad (ab_I σ2 92 44 (nI q)) q := ⟨by simp [gI_I], by omega⟩
    refine m_failY g2 ⟨1, ?_⟩
    show wX12_readGrammar_l45_b _ _ _ _ _
    unfold wX12_readGrammar_l45_b
    exact m_goodN B (yes rfl (m_j67b B (kf rfl _ (F2.I (sm92 (by omega))) B)))
end ML
