/-! ===== the calls that ask of a grammar ===== -/
theorem fm920 {σ : ab_S} {y : Int32} : FM S920 σ (ab_I σ 92 0 y) := (FM.rf _ σ).I (decide_eq_true (by omega))
theorem e920 {σ : ab_S} {y : Int32} : (ab_I σ 92 0 y).2.1 92 0 = y := by rw [gI_s, if_pos rfl]
theorem n920 {σ : ab_S} {y : Int32} {a i : Nat} (h : ¬ (a = 92 ∧ i = 0)) : (ab_I σ 92 0 y).2.1 a i = σ.2.1 a i := fm_i h where
  fm_i (h : ¬ (a = 92 ∧ i = 0)) : (ab_I σ 92 0 y).2.1 a i = σ.2.1 a i := by
    by_cases e : a = 92
    · rw [e, gI_s, if_neg (fun q => h ⟨e, q⟩)]
    · rw [gI_o e]
section MR
variable {σ : ab_S} {E : String → ab_S → Prop} {Q : Int32 → ab_S → Prop} {y z : Int32}
theorem m_r0 (h : Q 0 (ab_I σ 92 0 (nI 0))) : wX12_refuse 0 0 0 Q E σ := m_ref false false false (fun q => absurd q (by decide)) (fun _ q => absurd q (by decide)) (fun _ _ q => absurd q (by decide)) (fun _ _ _ => h)
theorem m_r1 (h : Q 1 (ab_I σ 92 0 (nI 1))) : wX12_refuse 1 y z Q E σ := by
  unfold wX12_refuse wX12_refuse_j26
  refine no (by decide) (fe ?_)
  rw [e920]; exact no (by decide) h
theorem m_r2 (h : Q 1 (ab_I σ 92 0 (nI 2))) : wX12_refuse 0 1 z Q E σ := by
  unfold wX12_refuse wX12_refuse_j26
  refine yes rfl (no (by decide) (fe ?_))
  rw [e920]; exact no (by decide) h
theorem m_r3 (h : Q 1 (ab_I σ 92 0 (nI 3))) : wX12_refuse 0 0 1 Q E σ := by
  unfold wX12_refuse wX12_refuse_j26
  refine yes rfl (yes rfl (no (by decide) (fe ?_)))
  rw [e920]; exact no (by decide) h
end MR
def isAt (Γ : GRT) (a b : Int32) : Prop := ∃ s, s < Γ.1.1 ∧ a = nI s ∧ isIx b (Γ.1.2.2.1 s)
def isVx (a : Int32) (N : Nat) : Prop := ∃ v, 1 ≤ v ∧ v ≤ N ∧ a = nI v
theorem isVx_n {a : Int32} {N : Nat} (hN : N ≤ 2147483646) (h : ¬ isVx a N) : a < 1 ∨ (¬ a < 1 ∧ nI N < a) := by
  by_cases h1 : a < 1
  · exact Or.inl h1
  · refine Or.inr ⟨h1, ?_⟩
    rcases i_nn a with q | ⟨k, q1, q2⟩
    · exact absurd (Int32.lt_trans q (by decide)) h1
    · rw [q2] at h1 ⊢
      have h1 : ¬ nI k < nI 1 := h1
      rw [nI_ltE (by omega) (by omega)] at h1
      by_cases e : k ≤ N
      · exact absurd ⟨k, by omega, e, q2⟩ h
      · simp (disch := omega) only [nI_lit, nI_add, nI_mulE, nI_clampE, nI_eqE, nI_leE, nI_ltE, vp_nIE, true_and, and_true]; omega
section QG
variable {σ : ab_S} {E : String → ab_S → Prop} {g : Nat} {Γ : GRT} {a b : Int32}
theorem c_ixn {N : Nat} (hN : N ≤ 2147483647) (h : ¬ isIx a N) {P K : Prop} (k : K) : ((a < 0) → K) ∧ (¬ (a < 0) → ((a < nI N) → P) ∧ (¬ (a < nI N) → K)) := by
  rcases isIx_n hN h with q | q
  · exact ⟨fun _ => k, fun z => absurd q z⟩
  · exact ⟨fun _ => k, fun _ => no (Int32.not_lt.mpr q) k⟩
theorem c_ixy {N k : Nat} (hN : N ≤ 2147483647) (hk : k < N) {P K : Prop} (p : P) : ((nI k < 0) → K) ∧ (¬ (nI k < 0) → ((nI k < nI N) → P) ∧ (¬ (nI k < nI N) → K)) := no (nI_pos (by omega)) (yes (by simp (disch := omega) only [nI_lit, nI_add, nI_mulE, nI_clampE, nI_eqE, nI_leE, nI_ltE, vp_nIE, true_and, and_true]; omega) p)
theorem c_nSy {s : Nat} {Q : ab_S → Prop} (hg : isG g) (h11 : σ.2.2.2 0 11 = some g) (hC : CGr σ g Γ) (hV : GRV Γ) (hs : s < Γ.1.1) (k : Q σ) : wX11_needSymbol (nI s) Q E σ := by
  have h12 := hV.1.1
  unfold wX11_needSymbol
  refine no (nI_pos (by omega)) ⟨g, h11, hg, ?_⟩
  rw [hC.1.1]
  exact yes (by simp (disch := omega) only [nI_lit, nI_add, nI_mulE, nI_clampE, nI_eqE, nI_leE, nI_ltE, vp_nIE, true_and, and_true]; omega) k
theorem c_nSn {Q : ab_S → Prop} (hg : isG g) (h11 : σ.2.2.2 0 11 = some g) (hC : CGr σ g Γ) (hV : GRV Γ) (hs : ¬ isIx a Γ.1.1) (k : E "java/lang/IllegalArgumentException" σ) : wX11_needSymbol a Q E σ := by
  have h12 := hV.1.1
  unfold wX11_needSymbol wX11_needSymbol_j15
  rcases isIx_n (by omega) hs with q | q
  · exact yes q k
  · refine ⟨fun _ => k, fun _ => ⟨g, h11, hg, ?_⟩⟩
    rw [hC.1.1]
    exact no (Int32.not_lt.mpr q) k
theorem c_nAy {s i : Nat} {Q : ab_S → Prop} (hg : isG g) (h11 : σ.2.2.2 0 11 = some g) (hC : CGr σ g Γ) (hV : GRV Γ) (hs : s < Γ.1.1) (hi : i < Γ.1.2.2.1 s) (k : Q σ) : wX11_needAttribute (nI s) (nI i) Q E σ := by
  have h12 := hV.1.1
  have h8 := (hV.1.2.2 s hs).2.1
  unfold wX11_needAttribute
  refine c_nSy hg h11 hC hV hs (no (nI_pos (by omega)) ⟨g, h11, hg, by simp (disch := omega) only [nI_lit, nI_add, nI_mulE, nI_clampE, nI_eqE, nI_leE, nI_ltE, vp_nIE, true_and, and_true]; omega, ?_⟩)
  rw [nI_clampE (show s < 2147483648 by omega), (hC.1.2 s hs).2.1]
  exact yes (by simp (disch := omega) only [nI_lit, nI_add, nI_mulE, nI_clampE, nI_eqE, nI_leE, nI_ltE, vp_nIE, true_and, and_true]; omega) k
theorem c_nAn {Q : ab_S → Prop} (hg : isG g) (h11 : σ.2.2.2 0 11 = some g) (hC : CGr σ g Γ) (hV : GRV Γ) (h : ¬ isAt Γ a b) (k : E "java/lang/IllegalArgumentException" σ) : wX11_needAttribute a b Q E σ := by
  have h12 := hV.1.1
  unfold wX11_needAttribute
  by_cases hs : isIx a Γ.1.1
  · obtain ⟨s, s1, s2⟩ := hs
    have h8 := (hV.1.2.2 s s1).2.1
    have hb : ¬ isIx b (Γ.1.2.2.1 s) := fun q => h ⟨s, s1, s2, q⟩
    rw [s2]
    refine c_nSy hg h11 hC hV s1 ?_
    unfold wX11_needAttribute_j22
    rcases isIx_n (by omega) hb with q | q
    · exact yes q k
    · refine ⟨fun _ => k, fun _ => ⟨g, h11, hg, by simp (disch := omega) only [nI_lit, nI_add, nI_mulE, nI_clampE, nI_eqE, nI_leE, nI_ltE, vp_nIE, true_and, and_true]; omega, ?_⟩⟩
      rw [nI_clampE (show s < 2147483648 by omega), (hC.1.2 s s1).2.1]
      exact no (Int32.not_lt.mpr q) k
  · exact c_nSn hg h11 hC hV hs k
theorem c_nVy {s v : Nat} {Q : ab_S → Prop} (hg : isG g) (h11 : σ.2.2.2 0 11 = some g) (hC : CGr σ g Γ) (hL : CLs σ g Γ) (hV : GRV Γ) (hF : LVF Γ) (hs : s < Γ.1.1) (h1 : 1 ≤ v) (h2 : v ≤ svs Γ s) (k : Q σ) : wX11_needVisit (nI s) (nI v) Q E σ := by
  have h12 := hV.1.1
  have h5 := (hF.vis s hs).2
  unfold wX11_needVisit
  refine c_nSy hg h11 hC hV hs (no (by show ¬ nI v < nI 1; simp (disch := omega) only [nI_lit, nI_add, nI_mulE, nI_clampE, nI_eqE, nI_leE, nI_ltE, vp_nIE, true_and, and_true]; omega) ⟨g, h11, hg, by simp (disch := omega) only [nI_lit, nI_add, nI_mulE, nI_clampE, nI_eqE, nI_leE, nI_ltE, vp_nIE, true_and, and_true]; omega, ?_⟩)
  rw [nI_clampE (show s < 2147483648 by omega), (hL s hs).2]
  exact yes (by simp (disch := omega) only [nI_lit, nI_add, nI_mulE, nI_clampE, nI_eqE, nI_leE, nI_ltE, vp_nIE, true_and, and_true]; omega) k
theorem c_nVn {Q : ab_S → Prop} (hg : isG g) (h11 : σ.2.2.2 0 11 = some g) (hC : CGr σ g Γ) (hL : CLs σ g Γ) (hV : GRV Γ) (hF : LVF Γ) (h : ¬ ∃ s, s < Γ.1.1 ∧ a = nI s ∧ isVx b (svs Γ s)) (k : E "java/lang/IllegalArgumentException" σ) : wX11_needVisit a b Q E σ := by
  have h12 := hV.1.1
  unfold wX11_needVisit
  by_cases hs : isIx a Γ.1.1
  · obtain ⟨s, s1, s2⟩ := hs
    have h5 := (hF.vis s s1).2
    have hb : ¬ isVx b (svs Γ s) := fun q => h ⟨s, s1, s2, q⟩
    rw [s2]
    refine c_nSy hg h11 hC hV s1 ?_
    unfold wX11_needVisit_j23
    rcases isVx_n (by omega) hb with q | ⟨q1, q2⟩
    · exact yes q k
    · refine no q1 ⟨g, h11, hg, by simp (disch := omega) only [nI_lit, nI_add, nI_mulE, nI_clampE, nI_eqE, nI_leE, nI_ltE, vp_nIE, true_and, and_true]; omega, ?_⟩
      rw [nI_clampE (show s < 2147483648 by omega), (hL s s1).2]
      exact no (Int32.not_le.mpr q2) k
  · exact c_nSn hg h11 hC hV hs k
def isPl (Γ : GRT) (a b : Int32) : Prop := ∃ p, p < Γ.2.1 ∧ a = nI p ∧ isVx b (svs Γ (hdS Γ p))
theorem c_nPy {p v : Nat} {Q : ab_S → Prop} (hg : isG g) (h11 : σ.2.2.2 0 11 = some g) (hZ : CZ σ g Γ) (hV : GRV Γ) (hF : LVF Γ) (hp : p < Γ.2.1) (h1 : 1 ≤ v) (h2 : v ≤ svs Γ (hdS Γ p)) (k : Q σ) : wX11_needPlan (nI p) (nI v) Q E σ := by
  have h30 := hV.2.1
  have hC := hZ.1.2.2.1
  have hs : hdS Γ p < Γ.1.1 := (hV.2.2.2 p hp).2.1.2.1 0 (Nat.zero_le _)
  unfold wX11_needPlan
  refine no (nI_pos (by omega)) ⟨g, h11, hg, ?_⟩
  rw [hC.2.1]
  exact yes (by simp (disch := omega) only [nI_lit, nI_add, nI_mulE, nI_clampE, nI_eqE, nI_leE, nI_ltE, vp_nIE, true_and, and_true]; omega) ⟨g, h11, hg, c_sym (o := 0) hZ hV hp (Nat.zero_le _) (c_nVy hg h11 hC hZ.1.2.2.2 hV hF hs h1 h2 k)⟩
theorem c_nPn {Q : ab_S → Prop} (hg : isG g) (h11 : σ.2.2.2 0 11 = some g) (hZ : CZ σ g Γ) (hV : GRV Γ) (hF : LVF Γ) (h : ¬ isPl Γ a b) (k : E "java/lang/IllegalArgumentException" σ) : wX11_needPlan a b Q E σ := by
  have h30 := hV.2.1
  have hC := hZ.1.2.2.1
  unfold wX11_needPlan wX11_needPlan_j15
  by_cases hs : isIx a Γ.2.1
  · obtain ⟨p, s1, s2⟩ := hs
    have hs : hdS Γ p < Γ.1.1 := (hV.2.2.2 p s1).2.1.2.1 0 (Nat.zero_le _)
    have h12 := hV.1.1
    rw [s2]
    refine no (nI_pos (by omega)) ⟨g, h11, hg, ?_⟩
    rw [hC.2.1]
    refine yes (by simp (disch := omega) only [nI_lit, nI_add, nI_mulE, nI_clampE, nI_eqE, nI_leE, nI_ltE, vp_nIE, true_and, and_true]; omega) ⟨g, h11, hg, c_sym (o := 0) hZ hV s1 (Nat.zero_le _) (c_nVn hg h11 hC hZ.1.2.2.2 hV hF ?_ k)⟩
    rintro ⟨s, q1, q2, q3⟩
    have q2 : nI (hdS Γ p) = nI s := q2
    rw [nI_eqE (by omega) (by omega)] at q2
    rw [← q2] at q3
    exact h ⟨p, s1, s2, q3⟩
  · rcases isIx_n (by omega) hs with q | q
    · exact yes q k
    · refine ⟨fun _ => k, fun _ => ⟨g, h11, hg, ?_⟩⟩
      rw [hC.2.1]
      exact no (Int32.not_lt.mpr q) k
variable {Q : Int32 → ab_S → Prop}
theorem m_isAy {s i : Nat} (hM : MGr σ Γ) (hV : GRV Γ) (hs : s < Γ.1.1) (hi : i < Γ.1.2.2.1 s) (k : Q 1 σ) : wX12_isAttribute (nI s) (nI i) Q E σ := by
  have h12 := hV.1.1
  have h8 := (hV.1.2.2 s hs).2.1
  unfold wX12_isAttribute
  rw [hM.1.1]
  refine m_ixy (by omega) ⟨s, hs, rfl⟩ (no (by decide) ?_)
  rw [hM.1.1]
  refine m_ixy (by omega) ⟨s, hs, rfl⟩ (no (by decide) ?_)
  unfold wX12_isAttribute_j39
  rw [nI_clampE (show s < 2147483648 by omega), (hM.1.2 s hs).2.1]
  exact ⟨by simp (disch := omega) only [nI_lit, nI_add, nI_mulE, nI_clampE, nI_eqE, nI_leE, nI_ltE, vp_nIE, true_and, and_true]; omega, m_ixy (by omega) ⟨i, hi, rfl⟩ (no (by decide) k)⟩
theorem m_isAn (hM : MGr σ Γ) (hV : GRV Γ) (h : ¬ isAt Γ a b) (k : Q 0 σ) : wX12_isAttribute a b Q E σ := by
  have h12 := hV.1.1
  unfold wX12_isAttribute
  rw [hM.1.1]
  by_cases hs : isIx a Γ.1.1
  · refine m_ixy (by omega) hs (no (by decide) ?_)
    rw [hM.1.1]
    refine m_ixy (by omega) hs (no (by decide) ?_)
    obtain ⟨s, s1, s2⟩ := hs
    have h8 := (hV.1.2.2 s s1).2.1
    unfold wX12_isAttribute_j39
    rw [s2, nI_clampE (show s < 2147483648 by omega), (hM.1.2 s s1).2.1]
    exact ⟨by simp (disch := omega) only [nI_lit, nI_add, nI_mulE, nI_clampE, nI_eqE, nI_leE, nI_ltE, vp_nIE, true_and, and_true]; omega, m_ixn (by omega) (fun q => h ⟨s, s1, s2, q⟩) (yes rfl k)⟩
  · exact m_ixn (by omega) hs (yes rfl k)
theorem m_vxy {N : Nat} (hN : N ≤ 2147483646) (h : isVx a N) (k : Q 1 σ) : wX12_in a 1 (nI N) Q E σ := by
  obtain ⟨v, h1, h2, h3⟩ := h
  unfold wX12_in
  rw [h3]
  exact no (by show ¬ nI v < nI 1; simp (disch := omega) only [nI_lit, nI_add, nI_mulE, nI_clampE, nI_eqE, nI_leE, nI_ltE, vp_nIE, true_and, and_true]; omega) (no (by simp (disch := omega) only [nI_lit, nI_add, nI_mulE, nI_clampE, nI_eqE, nI_leE, nI_ltE, vp_nIE, true_and, and_true]; omega) k)
theorem m_vxn {N : Nat} (hN : N ≤ 2147483646) (h : ¬ isVx a N) (k : Q 0 σ) : wX12_in a 1 (nI N) Q E σ := by
  unfold wX12_in
  rcases isVx_n hN h with q | ⟨q1, q2⟩
  · exact yes q k
  · exact no q1 (yes q2 k)
end QG
