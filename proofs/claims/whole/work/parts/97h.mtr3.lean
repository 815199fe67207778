/-! ===== trees, the model's: read whole ===== -/
section MR
variable {σ0 : ab_S} {t : Nat → Nat} {n : Nat} {Γ : GRT} {E : String → ab_S → Prop} {Q : ab_S → Prop}
theorem Pth_le {σ : ab_S} {T : TST} (hp : ∀ k, k < T.N → T.pa k ≤ k) : ∀ d a, a ≤ T.N → Pth σ T d a → d ≤ a
  | 0, _, _, _ => Nat.zero_le _
  | d + 1, a, ha, h => by
    have h1 := h.1
    have h2 := hp (a - 1) (by omega)
    have := Pth_le hp d _ (by omega) h.2.2.2
    omega
theorem Pth_0 {σ : ab_S} {T : TST} {d : Nat} (h : Pth σ T d 0) : d = 0 := by
  cases d with
  | zero => rfl
  | succ d => exact absurd rfl h.1
/-- what the reading comes to -/
def TFin (σ0 : ab_S) (Q : ab_S → Prop) (u : TRs) : Prop := (u.1 = true → ∀ σ', FM SmT σ0 σ' → MOk σ' → MTr σ' u.2.2 → Q σ') ∧ (u.1 = false → ∀ σ', FM SmT σ0 σ' → MBad σ' u.2.1 → Q σ')
theorem m_stop {σ : ab_S} {f m : Nat} (h : MBad σ f) (k : Q σ) : wX12_readTree_l31 Q E (wX12_readTree_j160 Q E) (m + 1) σ := by
  show wX12_readTree_l31_b _ _ _ _ _
  unfold wX12_readTree_l31_b
  refine m_goodN h (yes rfl ?_)
  unfold wX12_readTree_j160
  exact m_goodN h (yes rfl k)
/-- the loop comes to the next node -/
theorem m_115 {σ : ab_S} {q d m : Nat} {T : TST} (hV : GRV Γ) (hI : TI Γ T) (e0 : T.ab ≠ 0) (e1 : T.nc (T.ab - 1) < rt Γ (T.pr (T.ab - 1))) (hN : T.N ≤ 250) (h : MRd σ t n q Γ T d) (k : ∀ σ', FM SmT σ σ' → MRd σ' t n q Γ (tInc T) d → wX12_treeNode (nI (tSy Γ T)) (abI T.ab) (nI (if T.ab = 0 then 0 else T.nc (T.ab - 1) + 1)) (fun σ7 => wX12_readTree_l31 Q E (wX12_readTree_j160 Q E) m σ7) E σ') : wX12_readTree_j115 Q E (wX12_readTree_j160 Q E) (wX12_readTree_l31 Q E (wX12_readTree_j160 Q E) m) (nI (T.ab - 1)) (nI (T.nc (T.ab - 1))) (nI (T.pr (T.ab - 1))) σ := by
  obtain ⟨m1, m2, m3, m4, m5, m6⟩ := h
  have hab := hI.1
  have h30 := hV.2.1
  have hp := (hI.2.1 (T.ab - 1) (by omega)).1
  have hrt : rt Γ (T.pr (T.ab - 1)) ≤ 3 := (hV.2.2.2 _ hp).2.1.1
  cases d with
  | zero => exact absurd m6 e0
  | succ d =>
    have hdl := Pth_le (fun k hk => (hI.2.1 k hk).2.1) (d + 1) T.ab hab m6
    obtain ⟨p1, p2, p3, p4⟩ := m6
    have es : nI (d + 1) - 1 = nI d := by show nI _ - nI 1 = _; rw [nI_subE (by omega)]; congr 1
    have ec : (nI d).toNatClampNeg = d := nI_clampE (by omega)
    have ev : vp_in (nI d) 251 := by simp (disch := omega) only [nI_lit, nI_add, nI_mulE, nI_clampE, nI_eqE, nI_leE, nI_ltE, vp_nIE, true_and, and_true]; omega
    unfold wX12_readTree_j115
    rw [m5, es, ec, p3, nI_1]
    refine ⟨ev, ev, fe ?_⟩
    have F1 : FM (fun a _ => decide (a = 138)) σ (ab_I σ 138 d (nI (T.nc (T.ab - 1) + 1))) := (FM.rf _ σ).I (decide_eq_true rfl)
    have M1 : MRd (ab_I σ 138 d (nI (T.nc (T.ab - 1) + 1))) t n q Γ (tInc T) (d + 1) := by
      refine ⟨m1.fm F1 (decide_eq_false (by omega)) (fun i => decide_eq_false (by omega)) (fun i => decide_eq_false (by omega)) (decide_eq_false (by omega)) (decide_eq_false (by omega)) (decide_eq_false (by omega)) (decide_eq_false (by omega)), ?_, m3.fm hV F1 ⟨decide_eq_false (by omega), decide_eq_false (by omega), decide_eq_false (by omega)⟩ (fun a i q1 q2 => decide_eq_false (by omega)), m4.fm F1 (fun a i q => decide_eq_false (by omega)), by rw [gI_o (by omega)]; exact m5, ⟨e0, by rw [gI_o (by omega)]; exact p2, ?_, ?_⟩⟩
      · unfold MOk; rw [gI_o (by omega)]; exact m2
      · rw [gI_s, if_pos rfl]
        show _ = nI ((if T.ab = 0 then T.nc else uf T.nc (T.ab - 1) (T.nc (T.ab - 1) + 1)) (T.ab - 1))
        rw [if_neg e0, uf_s]
      · have hpa := (hI.2.1 (T.ab - 1) (by omega)).2.1
        refine Pth_cg (T := T) d (T.pa (T.ab - 1)) (fun i hi => ⟨by rw [gI_o (by omega)], by rw [gI_s, if_neg (by omega)]⟩) (by omega) (fun j hj => ⟨?_, rfl⟩) (fun j hj => (hI.2.1 j hj).2.1) p4
        show (if T.ab = 0 then T.nc else uf T.nc (T.ab - 1) (T.nc (T.ab - 1) + 1)) j = T.nc j
        rw [if_neg e0, uf_o _ _ (by omega)]
    refine m_goodY M1.2.1 (no (by decide) ?_)
    have e4 : (4 : Int32) * nI (T.pr (T.ab - 1)) + nI (T.nc (T.ab - 1)) + 1 = nI (4 * T.pr (T.ab - 1) + (T.nc (T.ab - 1) + 1)) := by
      show nI 4 * _ + _ + nI 1 = _
      rw [nI_mulE, nI_add, nI_add, Nat.add_assoc]
    have w4 : σ.2.1 104 (4 * T.pr (T.ab - 1) + (T.nc (T.ab - 1) + 1)) = nI (oSy Γ (T.pr (T.ab - 1)) (T.nc (T.ab - 1) + 1)) := (m3.2.2.2 _ hp).2.2.1 _ (by have : rt Γ (T.pr (T.ab - 1)) = (Γ.2.2.1 (T.pr (T.ab - 1))).2.1 := rfl; omega)
    rw [e4, nI_clampE (show 4 * T.pr (T.ab - 1) + (T.nc (T.ab - 1) + 1) < 2147483648 by omega), gI_o (by omega), w4]
    refine ⟨by simp (disch := omega) only [nI_lit, nI_add, nI_mulE, nI_clampE, nI_eqE, nI_leE, nI_ltE, vp_nIE, true_and, and_true]; omega, ?_⟩
    have kk := k _ (F1.mono (fun a i y => by have y := of_decide_eq_false y; exact decide_eq_false (by omega))) M1
    have es : tSy Γ T = oSy Γ (T.pr (T.ab - 1)) (T.nc (T.ab - 1) + 1) := by unfold tSy; rw [if_neg e0]
    rw [es, abI_s e0, if_neg e0] at kk
    unfold wX12_readTree_j157
    exact kk
/-- the next of the loop, from the top of the stack -/
theorem m_top {σ : ab_S} {q d m : Nat} {T : TST} (hV : GRV Γ) (hI : TI Γ T) (e0 : T.ab ≠ 0) (hN : T.N ≤ 250) (h : MRd σ t n q Γ T d) (k1 : T.nc (T.ab - 1) = rt Γ (T.pr (T.ab - 1)) → wX12_need (11 : Int32) (fun σ14 => (∀ σ15 : ab_S, σ15 = ab_I σ14 92 64 ((σ14.2.1 92 64) - (1 : Int32)) → wX12_readTree_l31 Q E (wX12_readTree_j160 Q E) m σ15)) E σ) (k2 : T.nc (T.ab - 1) < rt Γ (T.pr (T.ab - 1)) → T.nc (T.ab - 1) = 0 → wX12_readTree_j115 Q E (wX12_readTree_j160 Q E) (wX12_readTree_l31 Q E (wX12_readTree_j160 Q E) m) (nI (T.ab - 1)) (nI (T.nc (T.ab - 1))) (nI (T.pr (T.ab - 1))) σ) (k3 : T.nc (T.ab - 1) < rt Γ (T.pr (T.ab - 1)) → 0 < T.nc (T.ab - 1) → wX12_need (6 : Int32) (fun σ13 => wX12_readTree_j115 Q E (wX12_readTree_j160 Q E) (wX12_readTree_l31 Q E (wX12_readTree_j160 Q E) m) (nI (T.ab - 1)) (nI (T.nc (T.ab - 1))) (nI (T.pr (T.ab - 1))) σ13) E σ) : wX12_readTree_l31 Q E (wX12_readTree_j160 Q E) (m + 1) σ := by
  obtain ⟨m1, m2, m3, m4, m5, m6⟩ := h
  have hab := hI.1
  have h30 := hV.2.1
  have hT := hI.2.1 (T.ab - 1) (by omega)
  have hp := hT.1
  have hnc := hT.2.2.2.2.1
  have hrt : rt Γ (T.pr (T.ab - 1)) ≤ 3 := (hV.2.2.2 _ hp).2.1.1
  cases d with
  | zero => exact absurd m6 e0
  | succ d =>
    have hdl := Pth_le (fun k hk => (hI.2.1 k hk).2.1) (d + 1) T.ab hab m6
    obtain ⟨p1, p2, p3, p4⟩ := m6
    have es : nI (d + 1) - 1 = nI d := by show nI _ - nI 1 = _; rw [nI_subE (by omega)]; congr 1
    have ec : (nI d).toNatClampNeg = d := nI_clampE (by omega)
    have ev : vp_in (nI d) 251 := by simp (disch := omega) only [nI_lit, nI_add, nI_mulE, nI_clampE, nI_eqE, nI_leE, nI_ltE, vp_nIE, true_and, and_true]; omega
    show wX12_readTree_l31_b Q E (wX12_readTree_j160 Q E) (wX12_readTree_l31 Q E (wX12_readTree_j160 Q E) m) σ
    unfold wX12_readTree_l31_b
    refine m_goodY m2 (no (by decide) ?_)
    have w3 : σ.2.1 103 (T.pr (T.ab - 1)) = nI (rt Γ (T.pr (T.ab - 1))) := (m3.2.2.2 _ hp).2.1
    rw [m5, es, ec, p2, p3]
    refine no (by show ¬ _ ≤ nI 0; simp (disch := omega) only [nI_lit, nI_add, nI_mulE, nI_clampE, nI_eqE, nI_leE, nI_ltE, vp_nIE, true_and, and_true]; omega) ⟨ev, fe ⟨ev, fe ?_⟩⟩
    rw [nI_clampE (show T.ab - 1 < 2147483648 by omega), (m4.2 (T.ab - 1) (by omega)).1]
    refine ⟨by simp (disch := omega) only [nI_lit, nI_add, nI_mulE, nI_clampE, nI_eqE, nI_leE, nI_ltE, vp_nIE, true_and, and_true]; omega, fe ?_⟩
    rw [nI_clampE (show T.pr (T.ab - 1) < 2147483648 by omega), w3]
    refine ⟨by simp (disch := omega) only [nI_lit, nI_add, nI_mulE, nI_clampE, nI_eqE, nI_leE, nI_ltE, vp_nIE, true_and, and_true]; omega, ?_⟩
    by_cases c1 : T.nc (T.ab - 1) = rt Γ (T.pr (T.ab - 1))
    · exact no (fun z => z (by rw [c1])) (k1 c1)
    · refine yes (by rw [nI_eqE (by omega) (by omega)]; exact c1) ?_
      by_cases c0 : T.nc (T.ab - 1) = 0
      · exact yes (by show _ ≤ nI 0; simp (disch := omega) only [nI_lit, nI_add, nI_mulE, nI_clampE, nI_eqE, nI_leE, nI_ltE, vp_nIE, true_and, and_true]; omega) (k2 (by omega) c0)
      · exact no (by show ¬ _ ≤ nI 0; simp (disch := omega) only [nI_lit, nI_add, nI_mulE, nI_clampE, nI_eqE, nI_leE, nI_ltE, vp_nIE, true_and, and_true]; omega) (k3 (by omega) (by omega))
/-- what is to be shown of the next node -/
def NxtN (σ0 : ab_S) (t : Nat → Nat) (n : Nat) (Γ : GRT) (E : String → ab_S → Prop) (Q : ab_S → Prop) (f : Nat) : Prop := ∀ T q σ d m, T.N + f = 250 → TI Γ T → TRy Γ T → 2 * f + d + 1 ≤ m → FM SmT σ0 σ → MRd σ t n q Γ (tInc T) d → TFin σ0 Q (tR Γ t n f T q) → ∀ R : ab_S → Prop, (∀ σ', wX12_readTree_l31 Q E (wX12_readTree_j160 Q E) m σ' → R σ') → wX12_treeNode (nI (tSy Γ T)) (abI T.ab) (nI (if T.ab = 0 then 0 else T.nc (T.ab - 1) + 1)) R E σ
theorem m_tLA (hn : n ≤ 2400) (hV : GRV Γ) {f : Nat} (hX : NxtN σ0 t n Γ E Q f) : ∀ c T q σ d m, T.ab ≤ c → TI Γ T → (T.ab ≠ 0 → 1 ≤ T.nc (T.ab - 1)) → T.N + f = 250 → 2 * f + d + 2 ≤ m → FM SmT σ0 σ → MRd σ t n q Γ T d → TFin σ0 Q (if (tK t n (tC Γ t n c T q)).1 = 2 then tR Γ t n f (tK t n (tC Γ t n c T q)).2.2 (tK t n (tC Γ t n c T q)).2.1 else (decide ((tK t n (tC Γ t n c T q)).1 = 1), (tK t n (tC Γ t n c T q)).2)) → wX12_readTree_l31 Q E (wX12_readTree_j160 Q E) m σ := by
  intro c
  induction c with
  | zero =>
    intro T q σ d m hc hI h1 hN hm hF hM hfin
    have e0 : T.ab = 0 := by omega
    obtain ⟨m', rfl⟩ : ∃ m', m = m' + 1 := ⟨m - 1, by omega⟩
    have hd : d = 0 := by have := hM.2.2.2.2.2; rw [e0] at this; exact Pth_0 this
    have eC : tC Γ t n 0 T q = (true, q, T) := rfl
    rw [eC] at hfin
    unfold tK at hfin
    rw [if_pos rfl, if_pos e0] at hfin
    show wX12_readTree_l31_b _ _ _ _ _
    unfold wX12_readTree_l31_b
    refine m_goodY hM.2.1 (no (by decide) ?_)
    rw [hM.2.2.2.2.1, hd]
    refine yes (by decide) ?_
    unfold wX12_readTree_j160
    refine m_goodY hM.2.1 (no (by decide) ?_)
    by_cases k0 : tkK t n q = 0
    · rw [if_pos k0] at hfin
      exact yes (hM.1.k0.mpr k0) (hfin.1 rfl σ hF hM.2.1 hM.2.2.2.1)
    · rw [if_neg k0] at hfin
      refine no (fun z => k0 (hM.1.k0.mp z)) ?_
      rw [hM.1.2.2.1]
      obtain ⟨B1, F1⟩ := m_bad hM.1 hn
      exact m_failY hM.2.1 (hfin.2 rfl _ (hF.tr F1) B1)
  | succ c ih =>
    intro T q σ d m hc hI h1 hN hm hF hM hfin
    have hab := hI.1
    obtain ⟨m', rfl⟩ : ∃ m', m = m' + 1 := ⟨m - 1, by omega⟩
    by_cases e0 : T.ab = 0
    · -- as above
      refine ih T q σ d (m' + 1) (by omega) hI h1 hN hm hF hM ?_
      have eC : ∀ c, tC Γ t n c T q = (true, q, T) := fun c => by
        cases c with
        | zero => rfl
        | succ c => rw [tC, if_pos (Or.inl e0)]
      rw [eC] at hfin ⊢
      exact hfin
    · have hbad : ∀ σ' f', MBad σ' f' → MBad (ab_I σ' 92 64 ((σ'.2.1 92 64) - (1 : Int32))) f' := fun σ' f' hb => ⟨by rw [gI_I, if_pos rfl, if_neg (by decide)]; exact hb.1, hb.2⟩
      refine m_top hV hI e0 (by omega) hM (fun cf => ?_) (fun _ c0 => absurd (h1 e0) (by omega)) (fun cl _ => ?_)
      · have cn : ¬ (T.ab = 0 ∨ T.nc (T.ab - 1) < rt Γ (T.pr (T.ab - 1))) := fun z => z.elim e0 (fun q => by omega)
        rw [tC, if_neg cn] at hfin
        refine m_need (w := 41) hM.1 hM.2.1 (by omega) (by decide) (by decide) (fun k41 τ f1 s1 => fe ?_) (fun k41 => fe ?_)
        · rw [if_pos k41] at hfin
          obtain ⟨M1, F1⟩ := hM.adv hV f1 s1
          obtain ⟨b1, b2, b3, b4, b5, b6⟩ := M1
          cases d with
          | zero => exact absurd b6 e0
          | succ d =>
            have hT := hI.2.1 (T.ab - 1) (by omega)
            have es : nI (d + 1) - 1 = nI d := by show nI _ - nI 1 = _; rw [nI_subE (by omega)]; congr 1
            rw [b5, es]
            have F2 : FM (fun a i => decide (a = 92 ∧ i = 64)) τ (ab_I τ 92 64 (nI d)) := (FM.rf _ τ).I (decide_eq_true ⟨rfl, rfl⟩)
            have hpa := hT.2.1
            refine ih (tAb T (T.pa (T.ab - 1))) (nx t n q) _ d m' (by show T.pa (T.ab - 1) ≤ c; omega) (TI_cl hI e0 (by omega)) (fun z => ?_) hN (by omega) ((hF.tr F1).tr (F2.mono (fun a i y => by have y := of_decide_eq_false y; exact decide_eq_false (by omega)))) ?_ hfin
            · have z : T.pa (T.ab - 1) ≠ 0 := z
              obtain ⟨z1, z2, z3, z4⟩ := hT.2.2.2.2.2.2.2 z
              show 1 ≤ T.nc (T.pa (T.ab - 1) - 1)
              omega
            · refine ⟨b1.fm F2 (decide_eq_false (by omega)) (fun i => decide_eq_false (by omega)) (fun i => decide_eq_false (by omega)) (decide_eq_false (by omega)) (decide_eq_false (by omega)) (decide_eq_false (by omega)) (decide_eq_false (by omega)), ?_, b3.fm hV F2 ⟨decide_eq_false (by omega), decide_eq_false (by omega), decide_eq_false (by omega)⟩ (fun a i q1 q2 => decide_eq_false (by omega)), b4.fm F2 (fun a i q => decide_eq_false (by omega)), by rw [gI_s, if_pos rfl], ?_⟩
              · unfold MOk; rw [F2.1 _ _ (decide_eq_false (by omega))]; exact b2
              · show Pth (ab_I τ 92 64 (nI d)) (tAb T (T.pa (T.ab - 1))) d (T.pa (T.ab - 1))
                exact Pth_cg (T := T) d _ (fun i hi => ⟨by rw [gI_o (by omega)], by rw [gI_o (by omega)]⟩) (by omega) (fun j hj => ⟨rfl, rfl⟩) (fun j hj => (hI.2.1 j hj).2.1) b6.2.2.2
        · rw [if_neg k41] at hfin
          obtain ⟨B1, F1⟩ := m_bad hM.1 hn
          obtain ⟨m'', rfl⟩ : ∃ m'', m' = m'' + 1 := ⟨m' - 1, by omega⟩
          exact m_stop (hbad _ _ B1) (hfin.2 rfl _ ((hF.tr F1).I (decide_eq_true (by omega))) (hbad _ _ B1))
      · rw [tC, if_pos (Or.inr cl)] at hfin
        unfold tK at hfin
        rw [if_pos rfl, if_neg e0] at hfin
        refine m_need (w := 44) hM.1 hM.2.1 (by omega) (by decide) (by decide) (fun k44 τ f1 s1 => ?_) (fun k44 => ?_)
        · rw [if_pos k44, if_pos rfl] at hfin
          obtain ⟨M1, F1⟩ := hM.adv hV f1 s1
          refine m_115 hV hI e0 cl (by omega) M1 (fun σ' F' M' => ?_)
          exact hX T (nx t n q) σ' d m' hN hI ⟨fun z => absurd z e0, fun _ => cl⟩ (by omega) ((hF.tr F1).tr F') M' hfin _ (fun _ z => z)
        · rw [if_neg k44, if_neg (by show ¬ (0 : Nat) = 2; omega)] at hfin
          obtain ⟨B1, F1⟩ := m_bad hM.1 hn
          obtain ⟨m'', rfl⟩ : ∃ m'', m' = m'' + 1 := ⟨m' - 1, by omega⟩
          cases d with
          | zero => exact absurd hM.2.2.2.2.2 e0
          | succ d =>
            have hdl := Pth_le (fun k hk => (hI.2.1 k hk).2.1) (d + 1) T.ab hab hM.2.2.2.2.2
            have es : nI (d + 1) - 1 = nI d := by show nI _ - nI 1 = _; rw [nI_subE (by omega)]; congr 1
            have ev : vp_in (nI d) 251 := by simp (disch := omega) only [nI_lit, nI_add, nI_mulE, nI_clampE, nI_eqE, nI_leE, nI_ltE, vp_nIE, true_and, and_true]; omega
            unfold wX12_readTree_j115
            rw [show (ab_I σ 92 44 (nI q)).2.1 92 64 = nI (d + 1) by rw [gI_I, if_pos rfl, if_neg (by decide)]; exact hM.2.2.2.2.1, es]
            refine ⟨ev, ev, fe ?_⟩
            have B2 : MBad (ab_I (ab_I σ 92 44 (nI q)) 138 (nI d).toNatClampNeg ((ab_I σ 92 44 (nI q)).2.1 138 (nI d).toNatClampNeg + 1)) q := ⟨by rw [gI_o (by omega)]; exact B1.1, B1.2⟩
            refine m_goodN B2 (yes rfl ?_)
            unfold wX12_readTree_j157
            exact m_stop B2 (hfin.2 rfl _ ((hF.tr F1).I (decide_eq_true (by omega))) B2)
theorem m_tLN (hn : n ≤ 2400) (hV : GRV Γ) : ∀ f, NxtN σ0 t n Γ E Q f := by
  intro f
  induction f with
  | zero =>
    intro T q σ d m hN hI hr hm hF hM hfin R hR
    obtain ⟨m', rfl⟩ : ∃ m', m = m' + 1 := ⟨m - 1, by omega⟩
    have hdl := Pth_le (T := tInc T) (fun k hk => (hI.2.1 k hk).2.1) d T.ab hI.1 hM.2.2.2.2.2
    have hab := hI.1
    refine m_tnd hn hM hV hI hr (by omega) (by omega) (fun _ τ F B => ?_) (fun z => by omega)
    exact hR _ (m_stop B (hfin.2 rfl τ (hF.tr F) B))
  | succ f ih =>
    intro T q σ d m hN hI hr hm hF hM hfin R hR
    obtain ⟨m', rfl⟩ : ∃ m', m = m' + 1 := ⟨m - 1, by omega⟩
    have hdl := Pth_le (T := tInc T) (fun k hk => (hI.2.1 k hk).2.1) d T.ab hI.1 hM.2.2.2.2.2
    have hab := hI.1
    refine m_tnd hn hM hV hI hr (by omega) (by omega) (fun z => by omega) (fun _ τ hA => ?_)
    obtain ⟨F, hA⟩ := hA
    refine hR _ ?_
    rw [tR] at hfin
    have eN : tN Γ t n T q = tJ Γ t n T.N (tH Γ t n T q) := rfl
    rw [eN] at hfin
    have hTA := tH_I (t := t) (n := n) (q := q) hI hr
    generalize tH Γ t n T q = r at *
    rcases hA with ⟨a1, a2⟩ | ⟨a1, a2, a3⟩ | ⟨a1, a2, a3, a4⟩ | ⟨a1, a2, a3, a4⟩
    · have eJ : tJ Γ t n T.N r = (0, r.2) := by unfold tJ; rw [a1, if_neg (by decide)]
      rw [eJ, if_neg (by show ¬ (0 : Nat) = 2; omega)] at hfin
      exact m_stop a2 (hfin.2 rfl τ (hF.tr F) a2)
    · have hTA := hTA a1
      have eJ : tJ Γ t n T.N r = tK t n (tC Γ t n 250 r.2.2 r.2.1) := by unfold tJ; rw [a1, if_pos rfl, if_neg (by omega)]
      rw [eJ] at hfin
      have hI1 := hTA.leaf hI a2
      have hN1 := hTA.1
      have ha := hTA.2.1
      refine m_tLA hn hV ih 250 r.2.2 r.2.1 τ d (m' + 1) (by omega) hI1 (fun z => ?_) (by omega) (by omega) (hF.tr F) a3 hfin
      have hpa : r.2.2.pa T.N = T.ab := hTA.2.2.2.2.2.2
      obtain ⟨z1, z2, z3, z4⟩ := (hTA.2.2.1 T.N (by omega)).2.2.2.2.2.2.2 (by rw [hpa, ← ha]; exact z)
      rw [hpa, ← ha] at z2
      omega
    · have hTA := hTA a1
      have eJ : tJ Γ t n T.N r = (2, nx t n r.2.1, tAb r.2.2 (T.N + 1)) := by unfold tJ; rw [a1, if_pos rfl, if_pos a2, if_pos a3]
      rw [eJ, if_pos rfl] at hfin
      obtain ⟨b1, b2⟩ := hTA.node hI a2
      have hN1 := hTA.1
      have ea : (tAb r.2.2 (T.N + 1)).ab = T.N + 1 := rfl
      have e0 : (tAb r.2.2 (T.N + 1)).ab ≠ 0 := by rw [ea]; omega
      have c0 : (tAb r.2.2 (T.N + 1)).nc ((tAb r.2.2 (T.N + 1)).ab - 1) = 0 := by
        show r.2.2.nc (T.N + 1 - 1) = 0
        rw [show T.N + 1 - 1 = T.N by omega]; exact hTA.2.2.2.2.2.1
      have cl := b2.2 e0
      refine m_top hV b1 e0 (by show r.2.2.N ≤ 250; omega) a4 (fun z => by omega) (fun _ _ => ?_) (fun _ z => by omega)
      refine m_115 hV b1 e0 cl (by show r.2.2.N ≤ 250; omega) a4 (fun σ' F' M' => ?_)
      exact ih (tAb r.2.2 (T.N + 1)) (nx t n r.2.1) σ' (d + 1) m' (by show r.2.2.N + f = 250; omega) b1 b2 (by omega) ((hF.tr F).tr F') M' hfin _ (fun _ z => z)
    · have eJ : tJ Γ t n T.N r = (0, r.2.1, tAb r.2.2 (T.N + 1)) := by unfold tJ; rw [a1, if_pos rfl, if_pos a2, if_neg a3]
      rw [eJ, if_neg (by show ¬ (0 : Nat) = 2; omega)] at hfin
      exact m_stop a4 (hfin.2 rfl τ (hF.tr F) a4)
end MR
