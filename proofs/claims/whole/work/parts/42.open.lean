theorem CT.fr {S : Nat → Bool} {σ σ' : ab_S} {t : Nat → Nat} {n : Nat} (h : CT σ t n) (f : Fr S σ σ') (s1 : S 1 = false) (s2 : S 2 = false) : CT σ' t n := by
  obtain ⟨h1, h2, h3⟩ := h
  exact ⟨h1, by rw [f.1 1 s1]; exact h2, fun i hi => by rw [f.1 2 s2]; exact h3 i hi⟩
def nx (t : Nat → Nat) (n q : Nat) : Nat := sp bl t n (tkE t n q)
def bp (t : Nat → Nat) (n : Nat) : Nat → Nat
  | 0 => 0
  | j + 1 => tkE t n (sp bl t n (bp t n j))
def tp (t : Nat → Nat) (n j : Nat) : Nat := sp bl t n (bp t n j)
theorem tp_s (t : Nat → Nat) (n j : Nat) : tp t n (j + 1) = nx t n (tp t n j) := rfl
theorem bp_s (t : Nat → Nat) (n j : Nat) : bp t n (j + 1) = tkE t n (tp t n j) := rfl
theorem tkE_le {t : Nat → Nat} {n q : Nat} (h : q ≤ n) : q ≤ tkE t n q ∧ tkE t n q ≤ n := by
  by_cases hq : q < n
  · have := tkE_gt (t := t) hq; omega
  · unfold tkE; rw [if_pos (by omega)]; omega
theorem bp_le (t : Nat → Nat) (n : Nat) : ∀ j, bp t n j ≤ n
  | 0 => Nat.zero_le _
  | j + 1 => (tkE_le (sp_ge (bp_le t n j)).2).2
theorem tp_le (t : Nat → Nat) (n j : Nat) : tp t n j ≤ n := (sp_ge (bp_le t n j)).2
theorem tkK_end {t : Nat → Nat} {n q : Nat} (h : tkK t n q ≠ 0) : q < n := by
  unfold tkK at h
  split at h
  · exact absurd rfl h
  · omega
theorem bp_up {t : Nat → Nat} {n j : Nat} (h : tkK t n (tp t n j) ≠ 0) : bp t n j < bp t n (j + 1) := by
  have h1 := tkK_end h
  have h2 := sp_ge (p := bl) (t := t) (bp_le t n j)
  have h3 := tkE_gt (t := t) h1
  rw [bp_s]
  unfold tp at *
  omega
def S46 : Nat → Bool := fun a => a == 4 || a == 5 || a == 6
def S3 : Nat → Bool := fun a => a == 3
def S36 : Nat → Bool := fun a => a == 3 || a == 4 || a == 5 || a == 6
/-- a token has been taken down at m -/
def TkN (σ σ' : ab_S) (t : Nat → Nat) (n m q : Nat) : Prop := Fr S46 σ σ' ∧ (∀ j, j ≠ m → σ'.2.1 4 j = σ.2.1 4 j ∧ σ'.2.1 5 j = σ.2.1 5 j ∧ σ'.2.2.1 6 j = σ.2.2.1 6 j) ∧ σ'.2.1 4 m = nI (tkK t n q) ∧ σ'.2.1 5 m = nI q ∧ (tkK t n q = 2 ∨ tkK t n q = 3 → σ'.2.2.1 6 m = ctn t n q)
section CL
variable {σ : ab_S} {t : Nat → Nat} {n : Nat} {E : String → ab_S → Prop}
theorem c_nameL (hT : CT σ t n) {a0 : Int32} {Q : Int32 → ab_S → Prop} {K : Int64 → Int32 → ab_S → Prop} : ∀ f i acc, n - i = f → i ≤ n → K (pkI t (sp ltr t n i - i) i acc) (nI (sp ltr t n i)) σ → wX6_scanName_l5 a0 Q E K (f + 1) acc (nI i) σ := by
  have hT2 := hT
  obtain ⟨hn, h1, h2⟩ := hT2
  have H : ∀ (Bk : Int64 → Int32 → ab_S → Prop) i acc, i ≤ n → (i < n → ltr (t i) = true → Bk ((acc <<< ((5 : Int32).toInt64 &&& 63)) ||| ((nI (t i) - (97 : Int32) + (1 : Int32)).toInt64)) (nI (i + 1)) σ) → (¬ (i < n ∧ ltr (t i) = true) → K acc (nI i) σ) → wX6_scanName_l5_b a0 Q E K Bk acc (nI i) σ := by
    intro Bk i acc hi g1 g2
    unfold wX6_scanName_l5_b
    by_cases hc : i < n
    · have hti := h2 i hc
      have hlt := hti.2
      rw [h1]
      refine no (by simp (disch := omega) only [nI_lit, nI_add, nI_mulE, nI_clampE, nI_eqE, nI_leE, nI_ltE, vp_nIE, true_and, and_true]; omega) ⟨by simp (disch := omega) only [nI_lit, nI_add, nI_mulE, nI_clampE, nI_eqE, nI_leE, nI_ltE, vp_nIE, true_and, and_true]; omega, ?_⟩
      simp (disch := omega) only [nI_clampE, hti.1]
      refine c_isL hlt ?_
      cases hb : ltr (t i)
      · exact ⟨fun _ => g2 (by simp [hb]), fun h9 => absurd (by decide) h9⟩
      · refine ⟨fun h9 => absurd h9 (by decide), fun _ => ⟨by simp (disch := omega) only [nI_lit, nI_add, nI_mulE, nI_clampE, nI_eqE, nI_leE, nI_ltE, vp_nIE, true_and, and_true]; omega, fe (fe ?_)⟩⟩
        rw [nI_1, hti.1]
        exact g1 hc hb
    · rw [h1]
      exact yes (by simp (disch := omega) only [nI_lit, nI_add, nI_mulE, nI_clampE, nI_eqE, nI_leE, nI_ltE, vp_nIE, true_and, and_true]; omega) (g2 (by omega))
  intro f
  induction f with
  | zero =>
    intro i acc hf hi h
    refine H _ i acc hi (fun h9 => absurd h9 (by omega)) (fun h9 => ?_)
    rw [sp_no h9, Nat.sub_self] at h
    exact h
  | succ f ih =>
    intro i acc hf hi h
    refine H _ i acc hi (fun h9 h8 => ?_) (fun h9 => ?_)
    · have hg := sp_ge (p := ltr) (t := t) (n := n) (i := i + 1) (by omega)
      rw [sp_yes h9 h8, show sp ltr t n (i + 1) - i = (sp ltr t n (i + 1) - (i + 1)) + 1 by omega] at h
      exact ih (i + 1) _ (by omega) (by omega) h
    · rw [sp_no h9, Nat.sub_self] at h
      exact h
theorem c_numL (hT : CT σ t n) {a0 : Int32} {Q : Int32 → ab_S → Prop} {K : Int64 → Int32 → ab_S → Prop} : ∀ f i acc, n - i = f → i ≤ n → K (dcI t (sp dgt t n i - i) i acc) (nI (sp dgt t n i)) σ → wX6_scanNumber_l5 a0 Q E K (f + 1) acc (nI i) σ := by
  have hT2 := hT
  obtain ⟨hn, h1, h2⟩ := hT2
  have H : ∀ (Bk : Int64 → Int32 → ab_S → Prop) i acc, i ≤ n → (i < n → dgt (t i) = true → Bk ((acc * (10 : Int64)) + (nI (t i)).toInt64 - (48 : Int64)) (nI (i + 1)) σ) → (¬ (i < n ∧ dgt (t i) = true) → K acc (nI i) σ) → wX6_scanNumber_l5_b a0 Q E K Bk acc (nI i) σ := by
    intro Bk i acc hi g1 g2
    unfold wX6_scanNumber_l5_b
    by_cases hc : i < n
    · have hti := h2 i hc
      have hlt := hti.2
      rw [h1]
      refine no (by simp (disch := omega) only [nI_lit, nI_add, nI_mulE, nI_clampE, nI_eqE, nI_leE, nI_ltE, vp_nIE, true_and, and_true]; omega) ⟨by simp (disch := omega) only [nI_lit, nI_add, nI_mulE, nI_clampE, nI_eqE, nI_leE, nI_ltE, vp_nIE, true_and, and_true]; omega, ?_⟩
      simp (disch := omega) only [nI_clampE, hti.1]
      refine c_isD hlt ?_
      cases hb : dgt (t i)
      · exact ⟨fun _ => g2 (by simp [hb]), fun h9 => absurd (by decide) h9⟩
      · refine ⟨fun h9 => absurd h9 (by decide), fun _ => ⟨by simp (disch := omega) only [nI_lit, nI_add, nI_mulE, nI_clampE, nI_eqE, nI_leE, nI_ltE, vp_nIE, true_and, and_true]; omega, fe (fe ?_)⟩⟩
        rw [nI_1, hti.1]
        exact g1 hc hb
    · rw [h1]
      exact yes (by simp (disch := omega) only [nI_lit, nI_add, nI_mulE, nI_clampE, nI_eqE, nI_leE, nI_ltE, vp_nIE, true_and, and_true]; omega) (g2 (by omega))
  intro f
  induction f with
  | zero =>
    intro i acc hf hi h
    refine H _ i acc hi (fun h9 => absurd h9 (by omega)) (fun h9 => ?_)
    rw [sp_no h9, Nat.sub_self] at h
    exact h
  | succ f ih =>
    intro i acc hf hi h
    refine H _ i acc hi (fun h9 h8 => ?_) (fun h9 => ?_)
    · have hg := sp_ge (p := dgt) (t := t) (n := n) (i := i + 1) (by omega)
      rw [sp_yes h9 h8, show sp dgt t n (i + 1) - i = (sp dgt t n (i + 1) - (i + 1)) + 1 by omega] at h
      exact ih (i + 1) _ (by omega) (by omega) h
    · rw [sp_no h9, Nat.sub_self] at h
      exact h
theorem c_name (hT : CT σ t n) {m q : Nat} (hm : σ.2.1 3 4 = nI m) (hm2 : m ≤ 2400) (hq : q ≤ n) {Q : Int32 → ab_S → Prop} (h : Q (nI (sp ltr t n q)) (ab_I (ab_L σ 6 m (pkI t (sp ltr t n q - q) q 0)) 4 m (nI (if 8 < sp ltr t n q - q then 1 else kw t q (sp ltr t n q))))) : wX6_scanName (nI q) Q E σ := by
  have hn := hT.1
  have hg := sp_ge (p := ltr) (t := t) hq
  refine ⟨_, c_nameL hT _ q _ rfl hq ?_⟩
  unfold wX6_scanName_j60
  rw [hm]
  refine ⟨by simp (disch := omega) only [nI_lit, nI_add, nI_mulE, nI_clampE, nI_eqE, nI_leE, nI_ltE, vp_nIE, true_and, and_true]; omega, ?_⟩
  simp (disch := omega) only [nI_clampE]
  refine fe ?_
  rw [nI_subE hg.1]
  by_cases hc : 8 < sp ltr t n q - q
  · rw [if_pos hc] at h
    refine no (by simp (disch := omega) only [nI_lit, nI_add, nI_mulE, nI_clampE, nI_eqE, nI_leE, nI_ltE, vp_nIE, true_and, and_true]; omega) ?_
    unfold wX6_scanName_j98
    rw [gI_L, hm]
    refine ⟨by simp (disch := omega) only [nI_lit, nI_add, nI_mulE, nI_clampE, nI_eqE, nI_leE, nI_ltE, vp_nIE, true_and, and_true]; omega, ?_⟩
    simp (disch := omega) only [nI_clampE]
    exact fe h
  · rw [if_neg hc] at h
    refine yes (by simp (disch := omega) only [nI_lit, nI_add, nI_mulE, nI_clampE, nI_eqE, nI_leE, nI_ltE, vp_nIE, true_and, and_true]; omega) ?_
    refine c_kind (hT.fr (S := S46) ((Fr.rf _ _).L rfl) rfl rfl) hg.2 hg.1 ?_
    unfold wX6_scanName_j98
    rw [gI_L, hm]
    refine ⟨by simp (disch := omega) only [nI_lit, nI_add, nI_mulE, nI_clampE, nI_eqE, nI_leE, nI_ltE, vp_nIE, true_and, and_true]; omega, ?_⟩
    simp (disch := omega) only [nI_clampE]
    exact fe h
theorem c_num (hT : CT σ t n) {m q : Nat} (hm : σ.2.1 3 4 = nI m) (hm2 : m ≤ 2400) (hq : q ≤ n) {Q : Int32 → ab_S → Prop} (h : Q (nI (sp dgt t n q)) (ab_I (ab_L σ 6 m (dcI t (sp dgt t n q - q) q 0)) 4 m (nI (if 6 < sp dgt t n q - q then 1 else 3)))) : wX6_scanNumber (nI q) Q E σ := by
  have hn := hT.1
  have hg := sp_ge (p := dgt) (t := t) hq
  refine ⟨_, c_numL hT _ q _ rfl hq ?_⟩
  unfold wX6_scanNumber_j61
  rw [hm]
  refine ⟨by simp (disch := omega) only [nI_lit, nI_add, nI_mulE, nI_clampE, nI_eqE, nI_leE, nI_ltE, vp_nIE, true_and, and_true]; omega, ?_⟩
  simp (disch := omega) only [nI_clampE]
  refine fe ?_
  rw [nI_subE hg.1]
  by_cases hc : 6 < sp dgt t n q - q
  · rw [if_pos hc] at h
    refine no (by simp (disch := omega) only [nI_lit, nI_add, nI_mulE, nI_clampE, nI_eqE, nI_leE, nI_ltE, vp_nIE, true_and, and_true]; omega) ?_
    unfold wX6_scanNumber_j93
    rw [gI_L, hm]
    refine ⟨by simp (disch := omega) only [nI_lit, nI_add, nI_mulE, nI_clampE, nI_eqE, nI_leE, nI_ltE, vp_nIE, true_and, and_true]; omega, ?_⟩
    simp (disch := omega) only [nI_clampE]
    exact fe h
  · rw [if_neg hc] at h
    refine yes (by simp (disch := omega) only [nI_lit, nI_add, nI_mulE, nI_clampE, nI_eqE, nI_leE, nI_ltE, vp_nIE, true_and, and_true]; omega) ?_
    unfold wX6_scanNumber_j93
    rw [gI_L, hm]
    refine ⟨by simp (disch := omega) only [nI_lit, nI_add, nI_mulE, nI_clampE, nI_eqE, nI_leE, nI_ltE, vp_nIE, true_and, and_true]; omega, ?_⟩
    simp (disch := omega) only [nI_clampE]
    exact fe h
theorem sgn_ski : ∀ c, c < 128 → (ski (nI c) < 0 ↔ sgn c = false) := by decide +kernel
theorem c_scan (hT : CT σ t n) {m q : Nat} (hm : σ.2.1 3 4 = nI m) (hm2 : m ≤ 2400) (hq : q ≤ n) {Q : Int32 → ab_S → Prop} (h : ∀ σ', TkN σ σ' t n m q → Q (nI (tkE t n q)) σ') : wX6_scan (nI q) Q E σ := by
  have hn := hT.1
  unfold wX6_scan
  rw [hm]
  refine ⟨by simp (disch := omega) only [nI_lit, nI_add, nI_mulE, nI_clampE, nI_eqE, nI_leE, nI_ltE, vp_nIE, true_and, and_true]; omega, ?_⟩
  simp (disch := omega) only [nI_clampE]
  refine fe ?_
  have hF : Fr S46 σ (ab_I σ 5 m (nI q)) := (Fr.rf _ _).I rfl
  have hT2 := hT.fr hF rfl rfl
  have hm3 : (ab_I σ 5 m (nI q)).2.1 3 4 = nI m := hm
  by_cases hc : q < n
  · have hti := hT.2.2 q hc
    have hlt := hti.2
    rw [hT2.2.1]
    refine yes (by simp (disch := omega) only [nI_lit, nI_add, nI_mulE, nI_clampE, nI_eqE, nI_leE, nI_ltE, vp_nIE, true_and, and_true]; omega) ⟨by simp (disch := omega) only [nI_lit, nI_add, nI_mulE, nI_clampE, nI_eqE, nI_leE, nI_ltE, vp_nIE, true_and, and_true]; omega, fe ?_⟩
    rw [(hT2.2.2 q hc).1]
    refine c_isL hlt ?_
    cases hb : ltr (t q)
    · refine ⟨fun _ => ?_, fun h9 => absurd (by decide) h9⟩
      refine c_isD hlt ?_
      cases hd : dgt (t q)
      · refine ⟨fun _ => ?_, fun h9 => absurd (by decide) h9⟩
        have hk : tkK t n q = if sgn (t q) = true then t q else 1 := by unfold tkK; rw [if_neg (by omega), hb, hd]; simp
        have he : tkE t n q = q + 1 := by unfold tkE; rw [if_neg (by omega), hb, hd]; simp
        have fin : ∀ y : Int32, y = nI (tkK t n q) → wX6_scan_j91 (nI q) Q E y (nI m) (ab_I σ 5 m (nI q)) := by
          intro y hy
          unfold wX6_scan_j91
          refine ⟨by simp (disch := omega) only [nI_lit, nI_add, nI_mulE, nI_clampE, nI_eqE, nI_leE, nI_ltE, vp_nIE, true_and, and_true]; omega, ?_⟩
          simp (disch := omega) only [nI_clampE]
          refine fe ?_
          have e9 : nI q + 1 = nI (tkE t n q) := by rw [nI_1, he]
          rw [e9]
          refine h _ ⟨hF.I rfl, fun j hj => ?_, ?_, ?_, fun h9 => ?_⟩
          · simp [gI_I, gL_I, hj]
          · simp [gI_I, hy]
          · simp [gI_I]
          · have hs : sgn (t q) = true → 35 ≤ t q := fun z => (sgn_ge z).1
            rw [hk] at h9
            split at h9
            · have := hs (by assumption); omega
            · omega
        rw [hm3]
        refine ⟨fun h9 => fin _ ?_, fun h9 => fin _ ?_⟩
        · rw [hk, (sgn_ski _ hlt).mp h9]; rfl
        · rw [hk, if_pos (by cases z : sgn (t q) with | true => rfl | false => exact absurd ((sgn_ski _ hlt).mpr z) h9)]
      · refine ⟨fun h9 => absurd h9 (by decide), fun _ => ?_⟩
        have hk : tkK t n q = if 6 < sp dgt t n q - q then 1 else 3 := by unfold tkK; rw [if_neg (by omega), hb, hd]; simp
        have he : tkE t n q = sp dgt t n q := by unfold tkE; rw [if_neg (by omega), hb, hd]; simp
        refine c_num hT2 hm3 hm2 hq ?_
        rw [← he]
        refine h _ ⟨(hF.L rfl).I rfl, fun j hj => ?_, ?_, ?_, fun h9 => ?_⟩
        · simp [gI_I, gL_I, gI_L, gL_L, hj]
        · simp [gI_I, gI_L, hk, he]
        · simp [gI_I, gI_L]
        · simp [gL_I, gL_L, ctn, hb, he]
    · refine ⟨fun h9 => absurd h9 (by decide), fun _ => ?_⟩
      have hk : tkK t n q = if 8 < sp ltr t n q - q then 1 else kw t q (sp ltr t n q) := by unfold tkK; rw [if_neg (by omega), hb]; simp
      have he : tkE t n q = sp ltr t n q := by unfold tkE; rw [if_neg (by omega), hb]; simp
      refine c_name hT2 hm3 hm2 hq ?_
      rw [← he]
      refine h _ ⟨(hF.L rfl).I rfl, fun j hj => ?_, ?_, ?_, fun h9 => ?_⟩
      · simp [gI_I, gL_I, gI_L, gL_L, hj]
      · simp [gI_I, gI_L, hk, he]
      · simp [gI_I, gI_L]
      · simp [gL_I, gL_L, ctn, hb, he]
  · rw [hT2.2.1]
    have hk : tkK t n q = 0 := by unfold tkK; rw [if_pos (by omega)]
    have he : tkE t n q = q := by unfold tkE; rw [if_pos (by omega)]
    refine no (by simp (disch := omega) only [nI_lit, nI_add, nI_mulE, nI_clampE, nI_eqE, nI_leE, nI_ltE, vp_nIE, true_and, and_true]; omega) ?_
    rw [hm3]
    refine ⟨by simp (disch := omega) only [nI_lit, nI_add, nI_mulE, nI_clampE, nI_eqE, nI_leE, nI_ltE, vp_nIE, true_and, and_true]; omega, ?_⟩
    simp (disch := omega) only [nI_clampE]
    refine fe ?_
    rw [he] at h
    refine h _ ⟨hF.I rfl, fun j hj => ?_, ?_, ?_, fun h9 => ?_⟩
    · simp [gI_I, gL_I, hj]
    · simp [gI_I, hk]; rfl
    · simp [gI_I]
    · omega
end CL
