/-! ===== productions, the model's: all of one ===== -/
def MGr (σ : ab_S) (Γ : GRT) : Prop := MSy σ Γ.1 ∧ σ.2.1 92 14 = nI Γ.2.1 ∧ σ.2.1 92 21 = nI Γ.2.2.2.1 ∧ ∀ p, p < Γ.2.1 → MPo σ p (Γ.2.2.1 p) ((Γ.2.2.1 p).2.1 + 1)
section ML
variable {σ : ab_S} {t : Nat → Nat} {n q : Nat} {Γ : GRT} {E : String → ab_S → Prop}
/-- pPr adds code, keeps the name -/
theorem pPr_ge (t : Nat → Nat) (n : Nat) (Γ : GRT) (q : Nat) (h : (pPr t n Γ q).1 = true) : tkK t n q = 2 ∧ fi (fun i => (Γ.2.2.1 i).1) Γ.2.1 (nml t n q) = Γ.2.1 ∧ (pPr t n Γ q).2.2.1.1 = nml t n q ∧ Γ.2.2.2.1 ≤ (pPr t n Γ q).2.2.2.1 ∧ Γ.2.2.2.2 ≤ (pPr t n Γ q).2.2.2.2 := by
  unfold pPr at h ⊢
  by_cases k : tkK t n q = 2 ∧ fi (fun i => (Γ.2.2.1 i).1) Γ.2.1 (nml t n q) = Γ.2.1
  · rw [if_pos k] at h ⊢
    refine ⟨k.1, k.2, ?_⟩
    unfold pP0 at h ⊢
    split at h
    · rename_i k58
      rw [if_pos k58]
      unfold pP1 at h ⊢
      split at h
      · rename_i k2
        rw [if_pos k2]
        unfold pP2 at h ⊢
        split at h
        · rename_i k61
          rw [if_pos k61]
          have fin : ∀ q' P', P'.1 = nml t n q → (pP4 t n Γ.1 Γ.2.2.2.1 Γ.2.2.2.2 (pOcs t n Γ.1 3 q' P')).1 = true → (pP4 t n Γ.1 Γ.2.2.2.1 Γ.2.2.2.2 (pOcs t n Γ.1 3 q' P')).2.2.1.1 = nml t n q ∧ Γ.2.2.2.1 ≤ (pP4 t n Γ.1 Γ.2.2.2.1 Γ.2.2.2.2 (pOcs t n Γ.1 3 q' P')).2.2.2.1 ∧ Γ.2.2.2.2 ≤ (pP4 t n Γ.1 Γ.2.2.2.1 Γ.2.2.2.2 (pOcs t n Γ.1 3 q' P')).2.2.2.2 := by
            intro q' P' hP' hy
            have h1 := pOcs_1 t n Γ.1 3 q' P'
            generalize pOcs t n Γ.1 3 q' P' = y at hy h1 ⊢
            unfold pP4 at hy ⊢
            split at hy
            · rename_i hy1
              rw [if_pos hy1]
              unfold pP5 at hy ⊢
              split at hy
              · rename_i k123
                rw [if_pos k123]
                have hge := pRs_ge t n Γ.1 33 (nx t n y.2.1) y.2.2 Γ.2.2.2.1 Γ.2.2.2.2
                generalize pRs t n Γ.1 33 (nx t n y.2.1) y.2.2 Γ.2.2.2.1 Γ.2.2.2.2 = w at hy hge ⊢
                unfold pP6 at hy ⊢
                split at hy
                · rename_i hw
                  rw [if_pos hw]
                  exact ⟨hge.2.2.trans (h1.trans hP'), hge.1, hge.2.1⟩
                · exact absurd hy Bool.false_ne_true
              · exact absurd hy Bool.false_ne_true
            · exact absurd hy Bool.false_ne_true
          unfold pP3 at h ⊢
          split at h
          · rename_i k35
            rw [if_pos k35]
            exact fin _ _ rfl h
          · rename_i k35
            rw [if_neg k35]
            exact fin _ _ rfl h
        · exact absurd h Bool.false_ne_true
      · exact absurd h Bool.false_ne_true
    · exact absurd h Bool.false_ne_true
  · rw [if_neg k] at h
    exact absurd h Bool.false_ne_true
theorem m_prodn (hS : MS σ t n q) (hG : MOk σ) (hC : MGr σ Γ) (hV : GRV Γ) (h30 : Γ.2.1 < 30) (hq : Γ.2.2.2.1 ≤ q) {Q : ab_S → Prop} (h1 : (pPr t n Γ q).1 = true → ∀ σ', FM (SRm Γ.2.1 Γ.2.2.2.1) σ σ' → MS σ' t n (pPr t n Γ q).2.1 → MOk σ' → MGr σ' (gP Γ (pPr t n Γ q)) → GRV (gP Γ (pPr t n Γ q)) → (pPr t n Γ q).2.2.2.1 ≤ (pPr t n Γ q).2.1 → Q σ') (h0 : (pPr t n Γ q).1 = false → ∀ σ', FM SMr σ σ' → MBad σ' (pPr t n Γ q).2.1 → Q σ') : wX12_production Q E σ := by
  obtain ⟨hC1, hC2, hC3, hC4⟩ := hC
  have hV0 := hV
  obtain ⟨hV1, hV2, hV3, hV4⟩ := hV
  have hn := hS.1.1
  have hqn := hS.2.1
  have hge := pPr_ge t n Γ q
  -- the end of a good production
  have fin : (pPr t n Γ q).1 = true → ∀ σ', MPk σ σ' t n Γ.2.1 Γ.2.2.2.1 Γ.1 (pPr t n Γ q) → Q σ' := by
    intro hy σ' hk
    obtain ⟨a1, a2, a3, a4, a5, a6, a7, a8, a9, a10⟩ := hk
    obtain ⟨b1, b2, b3, b4, b5⟩ := hge hy
    refine h1 hy σ' a1 a2 a3 ⟨a4, a10, a8, fun p hp => ?_⟩ (GRV_P hV0 h30 (nml_v b1).1 b2 b3 a6 a7 b4 b5) a9
    have hp : p < Γ.2.1 + 1 := hp
    show MPo σ' p (uf Γ.2.2.1 Γ.2.1 (pPr t n Γ q).2.2.1 p) ((uf Γ.2.2.1 Γ.2.1 (pPr t n Γ q).2.2.1 p).2.1 + 1)
    by_cases e : p = Γ.2.1
    · rw [e, uf_s]; exact a5
    · rw [uf_o _ _ e]
      have hpv := (hV4 p (by omega)).2.1
      exact (hC4 p (by omega)).keep (lm := Γ.2.2.2.1) a1 (by have := hpv.1; omega) (fun j hj => decide_eq_false (by omega)) (decide_eq_false (by omega)) (fun o ho => decide_eq_false (by omega)) (decide_eq_false (by omega)) (fun x hx => decide_eq_false (by omega)) (fun x hx => decide_eq_false (by omega)) (fun i hi => decide_eq_false (by omega)) (fun i hi => decide_eq_false (by omega)) (fun x hx => (hpv.2.2 x hx).2.2.1)
  clear h1
  unfold wX12_production
  rw [hC2]
  refine fe (yes (by show ¬ nI _ = nI 30; rw [nI_eqE (by omega) (by omega)]; omega) ?_)
  refine m_decl (from' := 0) (nm := fun i => (Γ.2.2.1 i).1) hS hG (by omega) (by omega) (by omega) (fun i hi => ⟨fun k hk => by rw [Nat.zero_add]; exact (hC4 i hi).1 k hk, (hV4 i hi).1⟩) hV3 (fun k2 kf σ1 f1 s1 r1 => ?_) (fun hb => ?_)
  · have ep : pPr t n Γ q = pP0 t n Γ.1 (nx t n q) (pnew (nml t n q)) Γ.2.2.2.1 Γ.2.2.2.2 := by unfold pPr; rw [if_pos ⟨k2, kf⟩]
    rw [ep] at fin h0
    have hgt := nx_gt (t := t) (n := n) (q := q) (by omega)
    have sd : ∀ a i, a ≠ 101 → ¬ (a = 92 ∧ 40 ≤ i ∧ i ≤ 43) → SD 101 (0 + 8 * Γ.2.1) a i = false := by
      intro a i y1 y2
      unfold SD
      rw [Bool.or_eq_false_iff, Bool.and_eq_false_iff]
      exact ⟨Or.inl (by simpa using y1), Sadv_t y2⟩
    have F1 : FM (SRm Γ.2.1 Γ.2.2.2.1) σ σ1 := f1.mono (fun a i y => by
      have y := of_decide_eq_false y
      unfold SD
      rw [Bool.or_eq_false_iff, Bool.and_eq_false_iff]
      refine ⟨?_, Sadv_t (by omega)⟩
      by_cases ea : a = 101
      · right; simp; omega
      · left; simpa using ea)
    have G1 : MOk σ1 := hG.fm f1 (sd _ _ (by omega) (by omega))
    have C1 : MSy σ1 Γ.1 := hC1.fm f1 (sd _ _ (by omega) (by omega)) (fun i => sd _ _ (by omega) (by omega)) (fun i => sd _ _ (by omega) (by omega)) (fun i => sd _ _ (by omega) (by omega)) (fun i => sd _ _ (by omega) (by omega))
    have n14 : σ1.2.1 92 14 = nI Γ.2.1 := by rw [f1.1 92 14 (sd _ _ (by omega) (by omega))]; exact hC2
    have n21 : σ1.2.1 92 21 = nI Γ.2.2.2.1 := by rw [f1.1 92 21 (sd _ _ (by omega) (by omega))]; exact hC3
    have N1 : ∀ j, j < 8 → σ1.2.1 101 (8 * Γ.2.1 + j) = nI ((nml t n q).getD j 0) := fun j hj => by have := r1 j hj; rw [Nat.zero_add] at this; exact this
    have FS1 := F1.mono SRm_SMr
    generalize hl : nml t n q = l at fin h0 N1
    generalize nx t n q = q1 at fin h0 s1 hgt
    refine m_need (w := 58) s1 G1 (by omega) rfl rfl (fun kd σ2 f2 s2 => ?_) (fun kd => ?_)
    rotate_left
    · rw [pP0, if_neg kd] at h0
      have hq1 := s1.2.1
      have B : MBad (ab_I σ1 92 44 (nI q1)) q1 := ⟨by simp [gI_I], by omega⟩
      exact m_goodN B (yes rfl (pb57 h30 B (fun σ4 f4 b4 => h0 rfl σ4 ((FS1.I rfl).tr f4) b4)))
    rw [pP0, if_pos kd] at fin h0
    have hgt2 := nx_gt (t := t) (n := n) (q := q1) (by omega)
    have G2 := G1.fm f2 rfl
    have C2 := C1.adv f2
    have F2 := F1.tr (f2.mono Sadv_SRm)
    generalize nx t n q1 = q2 at fin h0 s2 hgt2
    refine m_goodY G2 (no (by decide) ?_)
    refine m_symH s2 G2 C2 hV1 (fun k2' hlt σ3 f3 s3 => ?_) (fun hno => ?_)
    rotate_left
    · rw [pP1, if_neg hno] at h0
      have hq2 := s2.2.1
      have B : MBad (ab_I σ2 92 44 (nI q2)) q2 := ⟨by simp [gI_I], by omega⟩
      exact pb57 h30 B (fun σ4 f4 b4 => h0 rfl σ4 (((F2.mono SRm_SMr).I rfl).tr f4) b4)
    rw [pP1, if_pos ⟨k2', hlt⟩] at fin h0
    have hgt3 := nx_gt (t := t) (n := n) (q := q2) (by omega)
    have G3 := G2.fm f3 rfl
    have C3 := C2.adv f3
    have F3 := F2.tr (f3.mono Sadv_SRm)
    generalize hs0 : fi Γ.1.2.1 Γ.1.1 (nml t n q2) = s0 at fin h0 hlt
    generalize nx t n q2 = q3 at fin h0 s3 hgt3
    have e4 : (4 : Int32) * nI Γ.2.1 = nI (4 * Γ.2.1) := by show nI 4 * nI Γ.2.1 = _; rw [nI_mulE]
    unfold wX12_production_j57
    rw [e4, nI_clampE (by omega)]
    refine ⟨by simp (disch := omega) only [nI_lit, nI_add, nI_mulE, nI_clampE, nI_eqE, nI_leE, nI_ltE, vp_nIE, true_and, and_true]; omega, fe ?_⟩
    have f34 : FM (fun a i => decide (a = 104 ∧ i = 4 * Γ.2.1)) σ3 (ab_I σ3 104 (4 * Γ.2.1) (nI s0)) := (FM.rf _ σ3).I (by simp)
    have v104 : (ab_I σ3 104 (4 * Γ.2.1) (nI s0)).2.1 104 (4 * Γ.2.1) = nI s0 := by simp [gI_I]
    generalize ab_I σ3 104 (4 * Γ.2.1) (nI s0) = σ4 at f34 v104
    have S4 := s3.fm f34 rfl (fun _ => rfl) (fun _ => rfl) rfl rfl rfl rfl
    have G4 := G3.fm f34 rfl
    have C4 : MSy σ4 Γ.1 := C3.fm f34 rfl (fun _ => rfl) (fun _ => rfl) (fun _ => rfl) (fun _ => rfl)
    have F4 := F3.tr (f34.mono (fun a i y => decide_eq_false (by have y := of_decide_eq_false y; omega)))
    refine m_need (w := 61) S4 G4 (by omega) rfl rfl (fun kd σ5 f5 s5 => ?_) (fun kd => ?_)
    rotate_left
    · rw [pP2, if_neg kd] at h0
      have hq3 := S4.2.1
      have B : MBad (ab_I σ4 92 44 (nI q3)) q3 := ⟨by simp [gI_I], by omega⟩
      exact m_goodN B (yes rfl (pb88 h30 B (fun σ6 f6 b6 => h0 rfl σ6 (((F4.mono SRm_SMr).I rfl).tr f6) b6)))
    rw [pP2, if_pos kd] at fin h0
    have hgt5 := nx_gt (t := t) (n := n) (q := q3) (by omega)
    have G5 := G4.fm f5 rfl
    have C5 := C4.adv f5
    have F5 := F4.tr (f5.mono Sadv_SRm)
    have v104' : σ5.2.1 104 (4 * Γ.2.1) = nI s0 := by rw [f5.1 _ _ rfl]; exact v104
    have N5 : ∀ j, j < 8 → σ5.2.1 101 (8 * Γ.2.1 + j) = nI (l.getD j 0) := fun j hj => by rw [f5.1 _ _ rfl, f34.1 _ _ rfl, f3.1 _ _ rfl, f2.1 _ _ rfl]; exact N1 j hj
    have n14' : σ5.2.1 92 14 = nI Γ.2.1 := by rw [f5.1 _ _ rfl, f34.1 _ _ rfl, f3.1 _ _ rfl, f2.1 _ _ rfl]; exact n14
    have n21' : σ5.2.1 92 21 = nI Γ.2.2.2.1 := by rw [f5.1 _ _ rfl, f34.1 _ _ rfl, f3.1 _ _ rfl, f2.1 _ _ rfl]; exact n21
    generalize nx t n q3 = q5 at fin h0 s5 hgt5
    have ev : vp_in (nI Γ.2.1) 31 := by simp (disch := omega) only [nI_lit, nI_add, nI_mulE, nI_clampE, nI_eqE, nI_leE, nI_ltE, vp_nIE, true_and, and_true]; omega
    have ec : (nI Γ.2.1).toNatClampNeg = Γ.2.1 := nI_clampE (by omega)
    -- behind the literal
    have j103 : ∀ (lt : Bool) q6 σ6 σ7, pP3 t n Γ.1 q5 (pho (pnew l) s0) Γ.2.2.2.1 Γ.2.2.2.2 = pP4 t n Γ.1 Γ.2.2.2.1 Γ.2.2.2.2 (pOcs t n Γ.1 3 q6 (plt (pho (pnew l) s0) lt)) → q5 ≤ q6 → FM (fun a i => decide (a = 102 ∧ i = Γ.2.1)) σ5 σ6 → σ6.2.1 102 Γ.2.1 = (if lt then 1 else 0) → FM Sadv σ6 σ7 → MS σ7 t n q6 → wX12_production_j103 Q E (nI Γ.2.1) σ7 := by
      intro lt q6 σ6 σ7 e3 hq6 f6 v6 f7 s7
      rw [e3] at fin h0
      unfold wX12_production_j103
      rw [ec]
      refine ⟨ev, fe ⟨5, ?_⟩⟩
      have f8 : FM (fun a i => decide (a = 103 ∧ i = Γ.2.1)) σ7 (ab_I σ7 103 Γ.2.1 0) := (FM.rf _ σ7).I (by simp)
      refine m_right (lc := Γ.2.2.2.2) σ 3 q6 (plt (pho (pnew l) s0) lt) _ rfl ?_ (((F5.tr (f6.mono (fun a i y => decide_eq_false (by have y := of_decide_eq_false y; omega)))).tr (f7.mono Sadv_SRm)).tr (f8.mono (fun a i y => decide_eq_false (by have y := of_decide_eq_false y; omega)))) fin h0
      refine ⟨s7.fm f8 rfl (fun _ => rfl) (fun _ => rfl) rfl rfl rfl rfl, ((G5.fm f6 rfl).fm f7 rfl).fm f8 rfl, ((C5.fm f6 rfl (fun _ => rfl) (fun _ => rfl) (fun _ => rfl) (fun _ => rfl)).adv f7).fm f8 rfl (fun _ => rfl) (fun _ => rfl) (fun _ => rfl) (fun _ => rfl), hV1, h30, fun j hj => ?_, by simp [gI_I]; rfl, fun o ho => ?_, ?_, by show 0 ≤ 3; omega, fun _ => rfl, ?_, by omega, ?_⟩
      · rw [f8.1 _ _ rfl, f7.1 _ _ rfl, f6.1 _ _ rfl]; exact N5 j hj
      · have ho : o ≤ 0 := ho
        have : o = 0 := by omega
        subst this
        rw [Nat.add_zero, f8.1 _ _ rfl, f7.1 _ _ rfl, f6.1 _ _ rfl]
        show σ5.2.1 104 (4 * Γ.2.1) = nI (uf (fun _ => 0) 0 s0 0) ∧ uf (fun _ => 0) 0 s0 0 < Γ.1.1
        rw [uf_s]
        exact ⟨v104', hlt⟩
      · rw [f8.1 _ _ rfl, f7.1 _ _ rfl]; exact v6
      · rw [f8.1 _ _ rfl, f7.1 _ _ rfl, f6.1 _ _ rfl]; exact n21'
      · rw [f8.1 _ _ rfl, f7.1 _ _ rfl, f6.1 _ _ rfl]; exact n14'
    refine m_goodY G5 (no (by decide) ?_)
    by_cases k35 : tkK t n q5 = 35
    · refine no (fun z => z ((s5.sg (w := 35) (by omega) rfl).mpr k35)) ?_
      unfold wX12_production_j89
      rw [ec, show vp_nar .boolean (1 : Int32) = (1 : Int32) from by decide]
      refine ⟨ev, fe ⟨ev, no (by simp [gI_I]) ?_⟩⟩
      have f6 : FM (fun a i => decide (a = 102 ∧ i = Γ.2.1)) σ5 (ab_I σ5 102 Γ.2.1 1) := (FM.rf _ σ5).I (by simp)
      have hgt6 := nx_gt (t := t) (n := n) (q := q5) (by omega)
      exact m_next (s5.fm f6 rfl (fun _ => rfl) (fun _ => rfl) rfl rfl rfl rfl) (fun σ7 f7 s7 => j103 true (nx t n q5) _ σ7 (by rw [pP3, if_pos k35]) (by omega) f6 (by simp [gI_I]) f7 s7)
    · refine yes (fun z => k35 ((s5.sg (w := 35) (by omega) rfl).mp z)) ?_
      unfold wX12_production_j88 wX12_production_j89
      rw [ec, show vp_nar .boolean (0 : Int32) = (0 : Int32) from by decide]
      have f6 : FM (fun a i => decide (a = 102 ∧ i = Γ.2.1)) σ5 (ab_I σ5 102 Γ.2.1 0) := (FM.rf _ σ5).I (by simp)
      refine ⟨ev, fe ⟨ev, yes (by simp [gI_I]) ?_⟩⟩
      exact j103 false q5 _ _ (by rw [pP3, if_neg k35]; rfl) (Nat.le_refl _) f6 (by simp [gI_I]) (FM.rf _ _) (s5.fm f6 rfl (fun _ => rfl) (fun _ => rfl) rfl rfl rfl rfl)
  · have ep : pPr t n Γ q = rF q (pnew []) Γ.2.2.2.1 Γ.2.2.2.2 := by unfold pPr; rw [if_neg hb]
    rw [ep] at h0
    have B : MBad (ab_I σ 92 44 (nI q)) q := ⟨by simp [gI_I], by omega⟩
    refine m_needB B (m_goodN B (yes rfl ?_))
    exact pb57 h30 B (fun σ4 f4 b4 => h0 rfl σ4 (((FM.rf _ σ).I rfl).tr f4) b4)
end ML
