/-! ===== expressions, the model's: numbers, attributes ===== -/
/-- the production that is being read -/
def MP (σ : ab_S) (p : Nat) (K : PC) : Prop := p < 30 ∧ K.2.1 ≤ 3 ∧ σ.2.1 103 p = nI K.2.1 ∧ (∀ o, o ≤ K.2.1 → σ.2.1 104 (4 * p + o) = nI (K.2.2.1 o) ∧ K.2.2.1 o < K.1.1) ∧ σ.2.1 102 p = (if K.2.2.2.1 then 1 else 0) ∧ ∀ x, x < 32 → (0 ≤ σ.2.1 105 (32 * p + x) ↔ K.2.2.2.2 x = true)
theorem MP.fm {S : Nat → Nat → Bool} {σ σ' : ab_S} {p : Nat} {K : PC} (h : MP σ p K) (f : FM S σ σ') (s3 : ∀ i, S 103 i = false) (s4 : ∀ i, S 104 i = false) (s2 : ∀ i, S 102 i = false) (s5 : ∀ i, S 105 i = false) : MP σ' p K := by
  obtain ⟨a, b, c, d, e, k⟩ := h
  exact ⟨a, b, by rw [f.1 _ _ (s3 _)]; exact c, fun o ho => by rw [f.1 _ _ (s4 _)]; exact d o ho, by rw [f.1 _ _ (s2 _)]; exact e, fun x hx => by rw [f.1 _ _ (s5 _)]; exact k x hx⟩
section ML
variable {σ : ab_S} {t : Nat → Nat} {n q p : Nat} {K : PC} {E : String → ab_S → Prop}
theorem m_numL (hM : MT σ t n) {e : Nat} (he : e ≤ n) (h42 : σ.2.1 92 42 = nI e) {Q : Int32 → ab_S → Prop} : ∀ f i a, e - i = f → i ≤ e → (∀ j, i ≤ j → j < e → 48 ≤ t j ∧ t j ≤ 57) → Q (nI (nvF t f i a)) σ → wX12_numberHere_l7 Q E (f + 1) (nI a) (nI i) σ := by
  have hn := hM.1
  intro f
  induction f with
  | zero =>
    intro i a hf hi hd h
    show wX12_numberHere_l7_b Q E _ (nI a) (nI i) σ
    unfold wX12_numberHere_l7_b
    rw [h42]
    exact yes (by simp (disch := omega) only [nI_lit, nI_add, nI_mulE, nI_clampE, nI_eqE, nI_leE, nI_ltE, vp_nIE, true_and, and_true]; omega) h
  | succ f ih =>
    intro i a hf hi hd h
    have hd0 := hd i (Nat.le_refl _) (by omega)
    show wX12_numberHere_l7_b Q E (wX12_numberHere_l7 Q E (f + 1)) (nI a) (nI i) σ
    unfold wX12_numberHere_l7_b
    rw [h42]
    refine no (by simp (disch := omega) only [nI_lit, nI_add, nI_mulE, nI_clampE, nI_eqE, nI_leE, nI_ltE, vp_nIE, true_and, and_true]; omega) ⟨by simp (disch := omega) only [nI_lit, nI_add, nI_mulE, nI_clampE, nI_eqE, nI_leE, nI_ltE, vp_nIE, true_and, and_true]; omega, ?_⟩
    rw [nI_clampE (by omega), (hM.2.2.1 i (by omega)).1]
    refine fe (fe ?_)
    have e1 : (10 : Int32) * nI a + nI (t i) - 48 = nI (a * 10 + (t i - 48)) := by
      show nI 10 * nI a + nI (t i) - nI 48 = _
      rw [nI_mulE, nI_add, nI_subE (by omega)]
      congr 1; omega
    rw [e1, nI_1]
    exact ih (i + 1) _ (by omega) (by omega) (fun j x y => hd j (by omega) y) h
theorem m_num (hS : MS σ t n q) (k3 : tkK t n q = 3) {Q : Int32 → ab_S → Prop} (h : Q (nI (nv t n q)) σ) : wX12_numberHere Q E σ := by
  obtain ⟨hM, hqn, h41, h42, h40, h43⟩ := hS
  have hte := tkE_le (t := t) hqn
  obtain ⟨n1, n2, n3, n4⟩ := num_v k3
  unfold wX12_numberHere
  rw [h41]
  exact fe ⟨_, m_numL hM hte.2 h42 _ q 0 rfl hte.1 n4 h⟩
theorem m_isDef (hC : MSy σ K.1) (hV : GV K.1) (hP : MP σ p K) {o a : Nat} (ho : o ≤ K.2.1) (ha : a < K.1.2.2.1 (K.2.2.1 o)) {Q : Int32 → ab_S → Prop} (h : Q (if (K.1.2.2.2.1 (K.2.2.1 o) a == decide (0 < o)) then 1 else 0) σ) : wX12_isDefined (nI p) (nI o) (nI a) Q E σ := by
  obtain ⟨p1, p2, p3, p4, p5, p6⟩ := hP
  obtain ⟨o1, o2⟩ := p4 o ho
  have hvs := hV.2.2 _ o2
  have h12 := hV.1
  have e4 : (4 : Int32) * nI p + nI o = nI (4 * p + o) := by show nI 4 * nI p + _ = _; rw [nI_mulE, nI_add]
  unfold wX12_isDefined
  rw [e4, nI_clampE (by omega), o1, nI_clampE (by omega)]
  refine ⟨by simp (disch := omega) only [nI_lit, nI_add, nI_mulE, nI_clampE, nI_eqE, nI_leE, nI_ltE, vp_nIE, true_and, and_true]; omega, by simp (disch := omega) only [nI_lit, nI_add, nI_mulE, nI_clampE, nI_eqE, nI_leE, nI_ltE, vp_nIE, true_and, and_true]; omega, ?_⟩
  have hb := b_one (σ.2.1 100 (K.2.2.1 o)) (a := a) (by have := hvs.2.1; omega)
  rw [(hC.2 _ o2).2.2.1, bm_bt (by have := hvs.2.1; omega) (by have := hvs.2.1; omega), decide_eq_true ha, Bool.true_and] at hb
  rw [(hC.2 _ o2).2.2.1]
  have fin : ∀ y : Int32, y = (if K.1.2.2.2.1 (K.2.2.1 o) a then 1 else 0) → wX12_isDefined_j28 (nI p) (nI o) (nI a) Q E y σ := by
    intro y hy
    unfold wX12_isDefined_j28 wX12_isDefined_j41
    by_cases z : 0 < o
    · refine no (by show ¬ nI o ≤ nI 0; simp (disch := omega) only [nI_lit, nI_add, nI_mulE, nI_clampE, nI_eqE, nI_leE, nI_ltE, vp_nIE, true_and, and_true]; omega) ?_
      rw [decide_eq_true z] at h
      rw [hy]
      cases hd : K.1.2.2.2.1 (K.2.2.1 o) a
      · rw [hd] at h; exact yes (by decide) h
      · rw [hd] at h; exact no (fun z => z rfl) h
    · refine yes (by show nI o ≤ nI 0; simp (disch := omega) only [nI_lit, nI_add, nI_mulE, nI_clampE, nI_eqE, nI_leE, nI_ltE, vp_nIE, true_and, and_true]; omega) ?_
      rw [decide_eq_false z] at h
      rw [hy]
      cases hd : K.1.2.2.2.1 (K.2.2.1 o) a
      · rw [hd] at h; exact no (fun z => z rfl) h
      · rw [hd] at h; exact yes (by decide) h
  by_cases hd : K.1.2.2.2.1 (K.2.2.1 o) a = true
  · exact no (fun z => z (hb.mpr hd)) (fin 1 (by rw [if_pos hd]))
  · exact yes (fun z => hd (hb.mp z)) (fin 0 (by rw [if_neg hd]))
theorem m_attr (d : Bool) (hS : MS σ t n (nx t n q)) (hq : q ≤ n) (hG : MOk σ) (k3 : tkK t n q = 3) (hC : MSy σ K.1) (hV : GV K.1) (hP : MP σ p K) {Q : Int32 → ab_S → Prop} (h1 : (pSl t n K d q).1 = true → ∀ σ', FM Sadv σ σ' → MS σ' t n (pSl t n K d q).2.1 → Q (nI (pSl t n K d q).2.2) σ') (h0 : (pSl t n K d q).1 = false → ∀ σ', FM Sadv (ab_I σ 92 44 (nI (pSl t n K d q).2.1)) σ' → Q 0 σ') : wX12_attributeHere (nI p) (nI (nv t n q)) (nI q) (if d then 1 else 0) Q E σ := by
  have hP0 := hP
  obtain ⟨p1, p2, p3, p4, p5, p6⟩ := hP
  obtain ⟨n1, n2, n3, n4⟩ := num_v k3
  have hn := hS.1.1
  have evp : vp_in (nI p) 31 := by simp (disch := omega) only [nI_lit, nI_add, nI_mulE, nI_clampE, nI_eqE, nI_leE, nI_ltE, vp_nIE, true_and, and_true]; omega
  have ecp : (nI p).toNatClampNeg = p := nI_clampE (by omega)
  unfold wX12_attributeHere
  rw [ecp, p3]
  refine ⟨evp, ?_⟩
  by_cases ko : nv t n q ≤ K.2.1
  · refine yes (by simp (disch := omega) only [nI_lit, nI_add, nI_mulE, nI_clampE, nI_eqE, nI_leE, nI_ltE, vp_nIE, true_and, and_true]; exact ko) ?_
    obtain ⟨o1, o2⟩ := p4 _ ko
    have hvs := hV.2.2 _ o2
    have h12 := hV.1
    have e4 : (4 : Int32) * nI p + nI (nv t n q) = nI (4 * p + nv t n q) := by show nI 4 * nI p + _ = _; rw [nI_mulE, nI_add]
    have ev4 : vp_in (nI (4 * p + nv t n q)) 124 := by simp (disch := omega) only [nI_lit, nI_add, nI_mulE, nI_clampE, nI_eqE, nI_leE, nI_ltE, vp_nIE, true_and, and_true]; omega
    have ec4 : (nI (4 * p + nv t n q)).toNatClampNeg = 4 * p + nv t n q := nI_clampE (by omega)
    rw [e4, ec4]
    refine m_need (w := 46) hS hG (by omega) rfl rfl (fun kd σ1 f1 s1 => ?_) (fun kd => ?_)
    · refine ⟨ev4, fe ?_⟩
      rw [f1.1 104 _ rfl, o1]
      have G1 : MOk σ1 := hG.fm f1 rfl
      have C1 : MSy σ1 K.1 := hC.adv f1
      have P1 : MP σ1 p K := hP0.fm f1 (fun _ => rfl) (fun _ => rfl) (fun _ => rfl) (fun _ => rfl)
      have e64 : (64 : Int32) * nI (K.2.2.1 (nv t n q)) = nI (64 * K.2.2.1 (nv t n q)) := by show nI 64 * _ = _; rw [nI_mulE]
      refine m_goodY G1 (no (by decide) ⟨by simp (disch := omega) only [nI_lit, nI_add, nI_mulE, nI_clampE, nI_eqE, nI_leE, nI_ltE, vp_nIE, true_and, and_true]; omega, ?_⟩)
      rw [nI_clampE (by omega), (C1.2 _ o2).2.1, e64]
      have hq2 : nx t n (nx t n q) ≤ 2400 := by have := s1.2.1; omega
      have hAe : slA t n K q = fi (K.1.2.2.2.2 (K.2.2.1 (nv t n q))) (K.1.2.2.1 (K.2.2.1 (nv t n q))) (nml t n (nx t n (nx t n q))) := rfl
      have pre : slC t n K d q = false → pSl t n K d q = (false, nx t n (nx t n q), 0) := by
        intro hc
        unfold pSl
        rw [if_pos ⟨k3, ko⟩, if_pos kd, if_neg (by rw [hc]; decide)]
      have bad2 : slC t n K d q = false → ∀ x6 : Int32, wX12_attributeHere_j127 (nI p) (nI (nv t n q)) (nI q) (if d then 1 else 0) Q E x6 σ1 := by
        intro hc x6
        have e := pre hc
        rw [e] at h0
        unfold wX12_attributeHere_j127 wX12_attributeHere_j128
        refine no (fun z => z rfl) ?_
        rw [s1.2.2.1]
        exact m_failY G1 (h0 rfl _ f1.I2)
      by_cases k2 : tkK t n (nx t n (nx t n q)) = 2
      · refine m_find (nm := K.1.2.2.2.2 (K.2.2.1 (nv t n q))) s1 k2 (by have := hvs.2.1; omega) (by omega) (fun i hi => ⟨(C1.2 _ o2).2.2.2 i hi, hvs.2.2.2 i hi⟩) hvs.2.2.1 ?_
        by_cases kf : fi (K.1.2.2.2.2 (K.2.2.1 (nv t n q))) (K.1.2.2.1 (K.2.2.1 (nv t n q))) (nml t n (nx t n (nx t n q))) = K.1.2.2.1 (K.2.2.1 (nv t n q))
        · rw [fiI_no kf]
          unfold wX12_attributeHere_j66
          refine yes (by decide) ?_
          unfold wX12_attributeHere_j90 wX12_attributeHere_j91
          refine yes rfl (bad2 ?_ _)
          unfold slC
          rw [hAe, kf]
          simp
        · have hne := fiI_ne kf (by have := hvs.2.1; omega)
          have ei : fiI (K.1.2.2.2.2 (K.2.2.1 (nv t n q))) (K.1.2.2.1 (K.2.2.1 (nv t n q))) (nml t n (nx t n (nx t n q))) = nI (slA t n K q) := by unfold fiI; rw [if_pos hne.2]; rfl
          rw [ei]
          rw [← hAe] at hne kf
          have ha8 : slA t n K q < 8 := by have := hvs.2.1; omega
          unfold wX12_attributeHere_j66
          refine no (nI_pos (by omega)) ?_
          refine m_isDef C1 hV P1 ko hne.2 ?_
          have fin0 : slC t n K d q = false → wX12_attributeHere_j91 (nI p) (nI (nv t n q)) (nI q) (if d then 1 else 0) Q E (nI (slA t n K q)) 0 σ1 := by
            intro hc
            unfold wX12_attributeHere_j91
            exact yes rfl (bad2 hc _)
          have e32 : (32 : Int32) * nI p + 8 * nI (nv t n q) + nI (slA t n K q) = nI (32 * p + (8 * nv t n q + slA t n K q)) := by
            show nI 32 * nI p + nI 8 * nI (nv t n q) + _ = _
            rw [nI_mulE, nI_mulE, nI_add, nI_add]
            congr 1; omega
          have hx32 : 8 * nv t n q + slA t n K q < 32 := by omega
          have ok : slC t n K d q = true → wX12_attributeHere_j123 (nI p) (nI (nv t n q)) (nI q) (if d then 1 else 0) Q E (nI (slA t n K q)) σ1 := by
            intro hc
            have e : pSl t n K d q = (true, nx t n (nx t n (nx t n q)), 8 * nv t n q + slA t n K q) := by
              unfold pSl
              rw [if_pos ⟨k3, ko⟩, if_pos kd, if_pos hc]
            rw [e] at h1
            unfold wX12_attributeHere_j123 wX12_attributeHere_j128
            refine yes (by decide) ?_
            have e8 : (8 : Int32) * nI (nv t n q) + nI (slA t n K q) = nI (8 * nv t n q + slA t n K q) := by show nI 8 * _ + _ = _; rw [nI_mulE, nI_add]
            rw [e8]
            exact m_next s1 (fun σ2 f2 s2 => h1 rfl σ2 (f1.tr f2) s2)
          by_cases hc : K.1.2.2.2.1 (K.2.2.1 (nv t n q)) (slA t n K q) = (d == decide (0 < nv t n q))
          · have hu : (if (K.1.2.2.2.1 (K.2.2.1 (nv t n q)) (slA t n K q) == decide (0 < nv t n q)) then (1 : Int32) else 0) = if d then 1 else 0 := by
              rw [hc]; cases d <;> cases decide (0 < nv t n q) <;> rfl
            rw [hu]
            refine no (fun z => z rfl) ?_
            unfold wX12_attributeHere_j91
            refine no (by decide) ?_
            cases d
            · refine yes rfl (ok ?_)
              unfold slC
              rw [decide_eq_true k2, decide_eq_true hne.2, hc]
              simp
            · refine no (by decide) ?_
              rw [e32, nI_clampE (by omega), f1.1 105 _ rfl]
              refine ⟨by simp (disch := omega) only [nI_lit, nI_add, nI_mulE, nI_clampE, nI_eqE, nI_leE, nI_ltE, vp_nIE, true_and, and_true]; omega, ?_⟩
              have hdf := p6 _ hx32
              by_cases hdd : K.2.2.2.2 (8 * nv t n q + slA t n K q) = true
              · refine yes (hdf.mpr hdd) (bad2 ?_ _)
                unfold slC
                rw [hdd]
                simp
              · refine no (fun z => hdd (hdf.mp z)) (ok ?_)
                unfold slC
                rw [decide_eq_true k2, decide_eq_true hne.2, hc]
                simp [hdd]
          · have hu : (if (K.1.2.2.2.1 (K.2.2.1 (nv t n q)) (slA t n K q) == decide (0 < nv t n q)) then (1 : Int32) else 0) ≠ if d then 1 else 0 := by
              intro z
              apply hc
              revert z
              cases K.1.2.2.2.1 (K.2.2.1 (nv t n q)) (slA t n K q) <;> cases d <;> cases decide (0 < nv t n q) <;> decide
            refine yes hu ?_
            unfold wX12_attributeHere_j90
            refine fin0 ?_
            unfold slC
            have : (K.1.2.2.2.1 (K.2.2.1 (nv t n q)) (slA t n K q) == (d == decide (0 < nv t n q))) = false := by
              cases hz : (K.1.2.2.2.1 (K.2.2.1 (nv t n q)) (slA t n K q) == (d == decide (0 < nv t n q)))
              · rfl
              · exact absurd (eq_of_beq hz) hc
            rw [this]
            simp
      · refine m_find0 s1 k2 ?_
        unfold wX12_attributeHere_j66
        refine yes (by decide) ?_
        unfold wX12_attributeHere_j90 wX12_attributeHere_j91
        refine yes rfl (bad2 ?_ _)
        unfold slC
        rw [decide_eq_false k2]
        simp
    · have e : pSl t n K d q = (false, nx t n q, 0) := by unfold pSl; rw [if_pos ⟨k3, ko⟩, if_neg kd]
      have hq1 : nx t n q ≤ 2400 := by have := hS.2.1; omega
      have o1' : (ab_I σ 92 44 (nI (nx t n q))).2.1 104 (4 * p + nv t n q) = nI (K.2.2.1 (nv t n q)) := by simp [gI_I, o1]
      rw [e] at h0
      refine ⟨ev4, fe ?_⟩
      refine m_goodN (f := nx t n q) ⟨by simp [gI_I], hq1⟩ (yes rfl ?_)
      unfold wX12_attributeHere_j66
      refine yes (by decide) ?_
      unfold wX12_attributeHere_j90 wX12_attributeHere_j91
      refine yes rfl ?_
      unfold wX12_attributeHere_j127 wX12_attributeHere_j128
      exact no (fun z => z rfl) (m_failN (f := nx t n q) ⟨by simp [gI_I], hq1⟩ (h0 rfl _ (FM.rf _ _)))
  · have e : pSl t n K d q = (false, q, 0) := by unfold pSl; rw [if_neg (fun z => ko z.2)]
    rw [e] at h0
    refine no (by simp (disch := omega) only [nI_lit, nI_add, nI_mulE, nI_clampE, nI_eqE, nI_leE, nI_ltE, vp_nIE, true_and, and_true]; omega) ?_
    exact m_failY hG (h0 rfl _ (FM.rf _ _))
end ML
