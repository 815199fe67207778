def TkS (σ : ab_S) (t : Nat → Nat) (n m : Nat) : Prop := ∀ j, j < m → σ.2.1 4 j = nI (tkK t n (tp t n j)) ∧ σ.2.1 5 j = nI (tp t n j) ∧ (tkK t n (tp t n j) = 2 ∨ tkK t n (tp t n j) = 3 → σ.2.2.1 6 j = ctn t n (tp t n j))
/-- the class's scanner stands at the token that begins at q -/
def CS (σ : ab_S) (t : Nat → Nat) (n q : Nat) : Prop := ∃ m j, σ.2.1 3 4 = nI m ∧ m ≤ 2401 ∧ TkS σ t n m ∧ (∀ j, j + 1 < m → 2 ≤ tkK t n (tp t n j)) ∧ tkK t n (tp t n (m - 1)) < 2 ∧ σ.2.1 3 5 = nI j ∧ j < m ∧ q = tp t n j ∧ σ.2.1 3 6 = nI (tkK t n q) ∧ σ.2.1 3 7 = nI q ∧ (tkK t n q = 3 → σ.2.1 3 8 = (ctn t n q).toInt32) ∧ (tkK t n q = 2 → σ.2.2.1 3 9 = ctn t n q)
theorem CS.kind {σ : ab_S} {t : Nat → Nat} {n q : Nat} (h : CS σ t n q) : σ.2.1 3 6 = nI (tkK t n q) := by
  obtain ⟨m, j, h1, h2, h3, h4, h5, h6, h7, h8, h9, h10, h11, h12⟩ := h; exact h9
theorem CS.place {σ : ab_S} {t : Nat → Nat} {n q : Nat} (h : CS σ t n q) : σ.2.1 3 7 = nI q := by
  obtain ⟨m, j, h1, h2, h3, h4, h5, h6, h7, h8, h9, h10, h11, h12⟩ := h; exact h10
theorem CS.num {σ : ab_S} {t : Nat → Nat} {n q : Nat} (h : CS σ t n q) (k : tkK t n q = 3) : σ.2.1 3 8 = (ctn t n q).toInt32 := by
  obtain ⟨m, j, h1, h2, h3, h4, h5, h6, h7, h8, h9, h10, h11, h12⟩ := h; exact h11 k
theorem CS.name {σ : ab_S} {t : Nat → Nat} {n q : Nat} (h : CS σ t n q) (k : tkK t n q = 2) : σ.2.2.1 3 9 = ctn t n q := by
  obtain ⟨m, j, h1, h2, h3, h4, h5, h6, h7, h8, h9, h10, h11, h12⟩ := h; exact h12 k
theorem CS.le {σ : ab_S} {t : Nat → Nat} {n q : Nat} (h : CS σ t n q) : q ≤ n := by
  obtain ⟨m, j, h1, h2, h3, h4, h5, h6, h7, h8, h9, h10, h11, h12⟩ := h; rw [h8]; exact tp_le t n j
theorem CS.fr {S : Nat → Bool} {σ σ' : ab_S} {t : Nat → Nat} {n q : Nat} (h : CS σ t n q) (f : Fr S σ σ') (s3 : S 3 = false) (s4 : S 4 = false) (s5 : S 5 = false) (s6 : S 6 = false) : CS σ' t n q := by
  obtain ⟨m, j, h1, h2, h3, h4, h5, h6, h7, h8, h9, h10, h11, h12⟩ := h
  refine ⟨m, j, ?_, h2, fun i hi => ?_, h4, h5, ?_, h7, h8, ?_, ?_, ?_, ?_⟩
  · rw [f.1 3 s3]; exact h1
  · rw [f.1 4 s4, f.1 5 s5, f.2.1 6 s6]; exact h3 i hi
  · rw [f.1 3 s3]; exact h6
  · rw [f.1 3 s3]; exact h9
  · rw [f.1 3 s3]; exact h10
  · rw [f.1 3 s3]; exact h11
  · rw [f.2.1 3 s3]; exact h12
section CL
variable {σ : ab_S} {t : Nat → Nat} {n : Nat} {E : String → ab_S → Prop}
/-- at token j the fields are set -/
theorem c_j23 {m j : Nat} (h1 : σ.2.1 3 4 = nI m) (h2 : m ≤ 2401) (h3 : TkS σ t n m) (h4 : ∀ j, j + 1 < m → 2 ≤ tkK t n (tp t n j)) (h5 : tkK t n (tp t n (m - 1)) < 2) (h6 : σ.2.1 3 5 = nI j) (h7 : j < m) {Q : ab_S → Prop} (h : ∀ σ', Fr S3 σ σ' → CS σ' t n (tp t n j) → Q σ') : wX6_advance_j23 Q E σ := by
  unfold wX6_advance_j23
  rw [h6]
  refine ⟨by simp (disch := omega) only [nI_lit, nI_add, nI_mulE, nI_clampE, nI_eqE, nI_leE, nI_ltE, vp_nIE, true_and, and_true]; omega, fe ?_⟩
  have hv : vp_in (nI j) 2401 := by simp (disch := omega) only [nI_lit, nI_add, nI_mulE, nI_clampE, nI_eqE, nI_leE, nI_ltE, vp_nIE, true_and, and_true]; omega
  have hj : (nI j).toNatClampNeg = j := by simp (disch := omega) only [nI_lit, nI_add, nI_mulE, nI_clampE, nI_eqE, nI_leE, nI_ltE, vp_nIE, true_and, and_true]
  have e1 : ∀ (x y : Int32), (ab_I (ab_I σ 3 6 x) 3 7 y).2.1 3 5 = nI j := fun x y => h6
  have e0 : ∀ (x : Int32), (ab_I σ 3 6 x).2.1 3 5 = nI j := fun x => h6
  have e2 : ∀ (x y z : Int32), (ab_I (ab_I (ab_I σ 3 6 x) 3 7 y) 3 8 z).2.1 3 5 = nI j := fun x y z => h6
  rw [e0]
  refine ⟨hv, fe ?_⟩
  rw [e1]
  refine ⟨hv, fe ?_⟩
  rw [e2]
  refine ⟨hv, fe ?_⟩
  rw [hj]
  obtain ⟨k1, k2, k3⟩ := h3 j h7
  refine h _ ((((Fr.rf S3 σ).I rfl).I rfl).I rfl |>.L rfl) ⟨m, j, h1, h2, h3, h4, h5, h6, h7, rfl, ?_, ?_, ?_, ?_⟩
  · simp [gI_L, gI_I, k1]
  · simp [gI_L, gI_I, k2]
  · intro k; simp [gI_L, gI_I, gL_I, k3 (Or.inr k)]
  · intro k; simp [gL_L, gL_I, gI_I, k3 (Or.inl k)]
theorem c_adv {q : Nat} (hS : CS σ t n q) (hk : 2 ≤ tkK t n q) {Q : ab_S → Prop} (h : ∀ σ', Fr S3 σ σ' → CS σ' t n (nx t n q) → Q σ') : wX6_advance Q E σ := by
  obtain ⟨m, j, h1, h2, h3, h4, h5, h6, h7, h8, h9, h10, h11, h12⟩ := hS
  have hjm : j + 1 < m := by
    rcases Nat.lt_or_ge (j + 1) m with g | g
    · exact g
    · have : m - 1 = j := by omega
      rw [this, ← h8] at h5; omega
  unfold wX6_advance
  rw [h1, h6, nI_1]
  refine no (by simp (disch := omega) only [nI_lit, nI_add, nI_mulE, nI_clampE, nI_eqE, nI_leE, nI_ltE, vp_nIE, true_and, and_true]; omega) (fe ?_)
  refine c_j23 (m := m) (j := j + 1) ?_ h2 ?_ h4 h5 ?_ hjm (fun σ' f hc => ?_)
  · exact h1
  · exact h3
  · simp [gI_I]
  · refine h σ' (((Fr.rf S3 σ).I rfl).tr f) ?_
    rw [h8, ← tp_s]; exact hc
theorem c_take {q w : Nat} (hS : CS σ t n q) (hw : 2 ≤ w) (hw2 : w < 128) {Q : Int32 → ab_S → Prop} (h1 : tkK t n q = w → ∀ σ', Fr S3 σ σ' → CS σ' t n (nx t n q) → Q 1 σ') (h0 : tkK t n q ≠ w → Q 0 σ) : wX6_take (nI w) Q E σ := by
  unfold wX6_take
  rw [hS.kind]
  have := tkK_lt (t := t) (n := n) (q := q)
  by_cases hc : tkK t n q = w
  · exact yes (by simp (disch := omega) only [nI_lit, nI_add, nI_mulE, nI_clampE, nI_eqE, nI_leE, nI_ltE, vp_nIE, true_and, and_true]; exact hc) (c_adv hS (by omega) (h1 hc))
  · exact no (by simp (disch := omega) only [nI_lit, nI_add, nI_mulE, nI_clampE, nI_eqE, nI_leE, nI_ltE, vp_nIE, true_and, and_true]; exact hc) (h0 hc)
theorem c_dot {q : Nat} (hS : CS σ t n q) (hk : 2 ≤ tkK t n q) {Q : Int32 → ab_S → Prop} (h : Q (if tkK t n (nx t n q) = 46 then 1 else 0) σ) : wX6_isAheadOfDot Q E σ := by
  obtain ⟨m, j, h1, h2, h3, h4, h5, h6, h7, h8, h9, h10, h11, h12⟩ := hS
  have hjm : j + 1 < m := by
    rcases Nat.lt_or_ge (j + 1) m with g | g
    · exact g
    · have : m - 1 = j := by omega
      rw [this, ← h8] at h5; omega
  have hk1 := (h3 (j + 1) hjm).1
  have := tkK_lt (t := t) (n := n) (q := nx t n q)
  rw [tp_s, ← h8] at hk1
  unfold wX6_isAheadOfDot
  rw [h1, h6, nI_1]
  refine no (by simp (disch := omega) only [nI_lit, nI_add, nI_mulE, nI_clampE, nI_eqE, nI_leE, nI_ltE, vp_nIE, true_and, and_true]; omega) ⟨by simp (disch := omega) only [nI_lit, nI_add, nI_mulE, nI_clampE, nI_eqE, nI_leE, nI_ltE, vp_nIE, true_and, and_true]; omega, ?_⟩
  simp (disch := omega) only [nI_clampE]
  rw [hk1]
  by_cases hc : tkK t n (nx t n q) = 46
  · rw [if_pos hc] at h
    exact no (by simp (disch := omega) only [nI_lit, nI_add, nI_mulE, nI_clampE, nI_eqE, nI_leE, nI_ltE, vp_nIE, true_and, and_true]; omega) h
  · rw [if_neg hc] at h
    exact yes (by simp (disch := omega) only [nI_lit, nI_add, nI_mulE, nI_clampE, nI_eqE, nI_leE, nI_ltE, vp_nIE, true_and, and_true]; exact hc) h
theorem c_openL {Q : ab_S → Prop} {K : ab_S → Prop} (σ0 : ab_S) (hK : ∀ σ m, Fr S36 σ0 σ → σ.2.1 3 4 = nI m → 0 < m → m ≤ 2401 → TkS σ t n m → (∀ j, j + 1 < m → 2 ≤ tkK t n (tp t n j)) → tkK t n (tp t n (m - 1)) < 2 → K σ) : ∀ f m σ, n - bp t n m ≤ f → CT σ t n → Fr S36 σ0 σ → σ.2.1 3 4 = nI m → m ≤ bp t n m → TkS σ t n m → (∀ j, j < m → 2 ≤ tkK t n (tp t n j)) → ∀ g, f + 2 ≤ g → wX6_open_l9 Q E K g (nI (bp t n m)) 1 σ := by
  have fin : ∀ (g : Nat) (x : Int32) (σ : ab_S), 1 ≤ g → K σ → wX6_open_l9 Q E K g x 0 σ := by
    intro g x σ h1 h
    obtain ⟨g, rfl⟩ : ∃ k, g = k + 1 := ⟨g - 1, by omega⟩
    exact yes rfl h
  have key : ∀ (f : Nat), (∀ m σ, n - bp t n m < f → CT σ t n → Fr S36 σ0 σ → σ.2.1 3 4 = nI m → m ≤ bp t n m → TkS σ t n m → (∀ j, j < m → 2 ≤ tkK t n (tp t n j)) → ∀ g, f + 1 ≤ g → wX6_open_l9 Q E K g (nI (bp t n m)) 1 σ) → ∀ m σ, n - bp t n m ≤ f → CT σ t n → Fr S36 σ0 σ → σ.2.1 3 4 = nI m → m ≤ bp t n m → TkS σ t n m → (∀ j, j < m → 2 ≤ tkK t n (tp t n j)) → ∀ g, f + 2 ≤ g → wX6_open_l9 Q E K g (nI (bp t n m)) 1 σ := by
    intro f ih m σ hf hT hF hm hmb hs hg g hfg
    obtain ⟨g, rfl⟩ : ∃ k, g = k + 1 := ⟨g - 1, by omega⟩
    have hn := hT.1
    have hbl := bp_le t n m
    show wX6_open_l9_b Q E K (wX6_open_l9 Q E K g) (nI (bp t n m)) 1 σ
    unfold wX6_open_l9_b
    rw [hm]
    refine no (by decide) (no (by simp (disch := omega) only [nI_lit, nI_add, nI_mulE, nI_clampE, nI_eqE, nI_leE, nI_ltE, vp_nIE, true_and, and_true]; omega) ?_)
    refine c_skip hT hbl ?_
    refine c_scan hT hm (by omega) (sp_ge hbl).2 (fun σ' hN => ?_)
    obtain ⟨n1, n2, n3, n4, n5⟩ := hN
    have hm' : σ'.2.1 3 4 = nI m := by rw [n1.1 3 rfl]; exact hm
    rw [hm']
    refine ⟨by simp (disch := omega) only [nI_lit, nI_add, nI_mulE, nI_clampE, nI_eqE, nI_leE, nI_ltE, vp_nIE, true_and, and_true]; omega, ?_⟩
    simp (disch := omega) only [nI_clampE]
    rw [n3]
    have hlt := tkK_lt (t := t) (n := n) (q := tp t n m)
    have hF' : Fr S36 σ0 (ab_I σ' 3 4 (nI (m + 1))) := (hF.tr (n1.mono (by intro a h9; simp [S36, S46] at *; omega))).I rfl
    have hS' : TkS (ab_I σ' 3 4 (nI (m + 1))) t n (m + 1) := by
      intro j hj
      by_cases e : j = m
      · subst e; exact ⟨n3, n4, n5⟩
      · obtain ⟨a, b, c⟩ := n2 j e
        have := hs j (by omega)
        show σ'.2.1 4 j = _ ∧ σ'.2.1 5 j = _ ∧ (_ → σ'.2.2.1 6 j = _)
        rw [a, b, c]; exact this
    have hstop : tkK t n (tp t n m) < 2 → K (ab_I σ' 3 4 (nI (m + 1))) := by
      intro hk
      refine hK _ (m + 1) hF' (by simp [gI_I]) (by omega) (by omega) hS' (fun j hj => hg j (by omega)) hk
    refine ⟨fun h9 => ?_, fun h9 => ⟨by simp (disch := omega) only [nI_lit, nI_add, nI_mulE, nI_clampE, nI_eqE, nI_leE, nI_ltE, vp_nIE, true_and, and_true]; omega, fun h8 => ?_, fun h8 => ?_⟩⟩
    · unfold wX6_open_j62 wX6_open_j63
      rw [hm', nI_1]
      exact fe (fin _ _ _ (by omega) (hstop (by have h9 : nI (tkK t n (tp t n m)) = nI 0 := h9; rw [nI_eqE (by omega) (by omega)] at h9; omega)))
    · unfold wX6_open_j62 wX6_open_j63
      rw [hm', nI_1]
      exact fe (fin _ _ _ (by omega) (hstop (by have h8 : nI (tkK t n (tp t n m)) = nI 1 := h8; rw [nI_eqE (by omega) (by omega)] at h8; omega)))
    · unfold wX6_open_j63
      rw [hm', nI_1]
      have hk : 2 ≤ tkK t n (tp t n m) := by
        have a : tkK t n (tp t n m) ≠ 0 := fun z => h9 (by show nI (tkK t n (tp t n m)) = 0; rw [z]; rfl)
        have b : tkK t n (tp t n m) ≠ 1 := fun z => h8 (by show nI (tkK t n (tp t n m)) = 1; rw [z]; rfl)
        omega
      have hup := bp_up (t := t) (n := n) (j := m) (by omega)
      have hbl2 := bp_le t n (m + 1)
      refine fe ?_
      refine ih (m + 1) _ (by omega) ?_ hF' (by simp [gI_I]) (by omega) hS' (fun j hj => ?_) g (by omega)
      · exact (hT.fr n1 rfl rfl).fr (S := S3) ((Fr.rf S3 σ').I rfl) rfl rfl
      · by_cases e : j = m
        · rw [e]; exact hk
        · exact hg j (by omega)
  intro f
  induction f with
  | zero => exact key 0 (fun m σ h => absurd h (by omega))
  | succ f ih => exact key (f + 1) (fun m σ h a b c d e1 e2 g hg => ih m σ (by omega) a b c d e1 e2 g (by omega))
theorem c_open (hT : CT σ t n) {Q : ab_S → Prop} (h : ∀ σ', Fr S36 σ σ' → CS σ' t n (sp bl t n 0) → Q σ') : wX6_open Q E σ := by
  have hn := hT.1
  unfold wX6_open
  refine fe ⟨n + 2, ?_⟩
  refine c_openL (t := t) (n := n) σ ?_ n 0 (ab_I σ 3 4 0) (by omega) ?_ ((Fr.rf _ _).I rfl) (by simp [gI_I]; rfl) (Nat.zero_le _) (fun j hj => absurd hj (by omega)) (fun j hj => absurd hj (by omega)) (n + 2) (by omega)
  · intro τ m hF hm h0 h1 hs hg hk
    unfold wX6_open_j77
    refine fe ?_
    unfold wX6_advance
    have e1 : (ab_I τ 3 5 (-1)).2.1 3 4 = nI m := hm
    have e2 : (ab_I τ 3 5 (-1)).2.1 3 5 + 1 = nI 0 := by simp [gI_I]; rfl
    rw [e1, e2]
    refine no (by simp (disch := omega) only [nI_lit, nI_add, nI_mulE, nI_clampE, nI_eqE, nI_leE, nI_ltE, vp_nIE, true_and, and_true]; omega) (fe ?_)
    refine c_j23 (m := m) (j := 0) ?_ h1 ?_ hg hk ?_ h0 (fun σ' f hc => ?_)
    · exact hm
    · exact hs
    · simp [gI_I]
    · exact h σ' (((hF.I rfl).I rfl).tr (f.mono (by intro a h9; simp [S36, S3] at *; omega))) hc
  · exact hT.fr (S := S3) ((Fr.rf S3 σ).I rfl) rfl rfl
end CL
