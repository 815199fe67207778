/-! ===== the model's scanner ===== -/
/-- only cells of S have changed -/
def FM (S : Nat → Nat → Bool) (σ σ' : ab_S) : Prop := (∀ a i, S a i = false → σ'.2.1 a i = σ.2.1 a i) ∧ (∀ a i, S a i = false → σ'.2.2.1 a i = σ.2.2.1 a i) ∧ ∀ a i, S a i = false → σ'.2.2.2 a i = σ.2.2.2 a i
theorem FM.rf (S : Nat → Nat → Bool) (σ : ab_S) : FM S σ σ := ⟨fun _ _ _ => rfl, fun _ _ _ => rfl, fun _ _ _ => rfl⟩
theorem FM.tr {S : Nat → Nat → Bool} {σ τ υ : ab_S} (h : FM S σ τ) (g : FM S τ υ) : FM S σ υ := ⟨fun a i z => (g.1 a i z).trans (h.1 a i z), fun a i z => (g.2.1 a i z).trans (h.2.1 a i z), fun a i z => (g.2.2 a i z).trans (h.2.2 a i z)⟩
theorem FM.mono {S S' : Nat → Nat → Bool} {σ τ : ab_S} (h : FM S σ τ) (k : ∀ a i, S' a i = false → S a i = false) : FM S' σ τ := ⟨fun a i z => h.1 a i (k a i z), fun a i z => h.2.1 a i (k a i z), fun a i z => h.2.2 a i (k a i z)⟩
theorem FM.I {S : Nat → Nat → Bool} {σ τ : ab_S} (h : FM S σ τ) {a i : Nat} {x : Int32} (k : S a i = true) : FM S σ (ab_I τ a i x) := by
  refine ⟨fun b j z => ?_, h.2.1, h.2.2⟩
  rw [← h.1 b j z, gI_I]
  by_cases hb : b = a
  · subst hb
    by_cases hj : j = i
    · subst hj; rw [k] at z; cases z
    · simp [hj]
  · simp [hb]
theorem FM.L {S : Nat → Nat → Bool} {σ τ : ab_S} (h : FM S σ τ) {a i : Nat} {x : Int64} (k : S a i = true) : FM S σ (ab_L τ a i x) := by
  refine ⟨h.1, fun b j z => ?_, h.2.2⟩
  rw [← h.2.1 b j z, gL_L]
  by_cases hb : b = a
  · subst hb
    by_cases hj : j = i
    · subst hj; rw [k] at z; cases z
    · simp [hj]
  · simp [hb]
def sgm (k : Nat) : Nat := if k = 35 then 12 else if k = 40 then 10 else if k = 41 then 11 else if k = 42 then 15 else if k = 43 then 13 else if k = 44 then 6 else if k = 45 then 14 else if k = 46 then 7 else if k = 47 then 16 else if k = 58 then 3 else if k = 59 then 5 else if k = 60 then 17 else if k = 61 then 4 else if k = 123 then 8 else if k = 125 then 9 else 18
/-- a kind of token as the model has it, and its word -/
def mk (k : Nat) : Nat := if k = 0 then 0 else if k = 1 then 18 else if k = 3 then 2 else if k ≤ 9 then 1 else sgm k
def mwd (k : Nat) : Nat := if 4 ≤ k ∧ k ≤ 9 then k - 3 else 0
def vk (k : Nat) : Bool := decide (k ≤ 9) || sgn k
theorem tkK_vk (t : Nat → Nat) (n q : Nat) : vk (tkK t n q) = true := by
  unfold tkK
  repeat' split
  all_goals first
    | rfl
    | (have := kw_b t q (sp ltr t n q); simp [vk]; omega)
    | (rename_i h; simp only [vk, h, Bool.or_true])
theorem mk_lt : ∀ k, k < 128 → mk k < 19 ∧ mwd k < 7 := by decide +kernel
theorem sgm_18 : ∀ c, c < 128 → sgn c = false → sgm c = 18 := by decide +kernel
theorem mk_sgm : ∀ c, c < 128 → sgn c = true → mk c = sgm c ∧ mwd c = 0 := by decide +kernel
/-- the model's text -/
def MT (σ : ab_S) (t : Nat → Nat) (n : Nat) : Prop := n ≤ 2400 ∧ σ.2.1 92 8 = nI n ∧ (∀ i, i < n → σ.2.1 96 i = nI (t i) ∧ t i < 128) ∧ ∀ j, j < 6 → σ.2.2.1 94 (j + 1) = ([418461491, 482788, 533, 201, 464148, 183685] : List Int64).getD j 0
def MS (σ : ab_S) (t : Nat → Nat) (n q : Nat) : Prop := MT σ t n ∧ q ≤ n ∧ σ.2.1 92 41 = nI q ∧ σ.2.1 92 42 = nI (tkE t n q) ∧ σ.2.1 92 40 = nI (mk (tkK t n q)) ∧ σ.2.1 92 43 = nI (mwd (tkK t n q))
def Sadv : Nat → Nat → Bool := fun a i => a == 92 && (decide (40 ≤ i) && decide (i ≤ 43))
theorem MT.fm {S : Nat → Nat → Bool} {σ σ' : ab_S} {t : Nat → Nat} {n : Nat} (h : MT σ t n) (f : FM S σ σ') (s1 : S 92 8 = false) (s2 : ∀ i, S 96 i = false) (s3 : ∀ i, S 94 i = false) : MT σ' t n := by
  obtain ⟨h1, h2, h3, h4⟩ := h
  exact ⟨h1, by rw [f.1 92 8 s1]; exact h2, fun i hi => by rw [f.1 96 i (s2 i)]; exact h3 i hi, fun j hj => by rw [f.2.1 94 _ (s3 _)]; exact h4 j hj⟩
theorem MS.fm {S : Nat → Nat → Bool} {σ σ' : ab_S} {t : Nat → Nat} {n q : Nat} (h : MS σ t n q) (f : FM S σ σ') (s1 : S 92 8 = false) (s2 : ∀ i, S 96 i = false) (s3 : ∀ i, S 94 i = false) (s4 : S 92 40 = false) (s5 : S 92 41 = false) (s6 : S 92 42 = false) (s7 : S 92 43 = false) : MS σ' t n q := by
  obtain ⟨h0, h1, h2, h3, h4, h5⟩ := h
  exact ⟨h0.fm f s1 s2 s3, h1, by rw [f.1 92 41 s5]; exact h2, by rw [f.1 92 42 s6]; exact h3, by rw [f.1 92 40 s4]; exact h4, by rw [f.1 92 43 s7]; exact h5⟩
def wl (j k : Nat) : Int64 := (([[418461491, 13076921, 408653, 12770, 399, 12], [482788, 15087, 471, 14], [533, 16], [201, 6], [464148, 14504, 453, 14], [183685, 5740, 179, 5]] : List (List Int64)).getD j []).getD k 0
theorem wl_f : ∀ j, j < 6 → ∀ k, k < skL.getD j 0 → (¬ lg_cmp (wl j k) 0 ≤ 0) ∧ (96 : Int32) + ((wl j k) &&& 31).toInt32 = (skB.getD j []).getD k 0 ∧ (wl j k) >>> ((5 : Int32).toInt64 &&& 63) = wl j (k + 1) ∧ ¬ lg_cmp (wl j k) 0 = 0 := by decide +kernel
theorem wl_e : ∀ j, j < 6 → wl j (skL.getD j 0) = 0 ∧ wl j 0 = ([418461491, 482788, 533, 201, 464148, 183685] : List Int64).getD j 0 ∧ 0 < skL.getD j 0 := by decide +kernel
theorem w_ex : ∀ j, j < 6 → ∀ i, i < 6 → j ≠ i → skL.getD j 0 ≠ skL.getD i 0 ∨ (skB.getD j []).getD 0 0 ≠ (skB.getD i []).getD 0 0 := by decide +kernel
theorem mW_ex {t : Nat → Nat} {q e j i : Nat} (hj : j < 6) (hi : i < 6) (hij : j ≠ i) (h : mW t q e j = true) : mW t q e i = false := by
  cases g : mW t q e i with
  | false => rfl
  | true =>
    simp only [mW, Bool.and_eq_true, decide_eq_true_eq] at h g
    rcases w_ex j hj i hi hij with z | z
    · exact absurd (h.1.symm.trans g.1) z
    · exact absurd ((h.2 0 (wl_e j hj).2.2).symm.trans (g.2 0 (wl_e i hi).2.2)) z
section ML
variable {σ : ab_S} {t : Nat → Nat} {n : Nat} {E : String → ab_S → Prop}
theorem m_in {c a b : Nat} (hc : c < 2147483648) (ha : a < 2147483648) (hb : b < 2147483648) {Q : Int32 → ab_S → Prop} (h : Q (if a ≤ c ∧ c ≤ b then 1 else 0) σ) : wX12_in (nI c) (nI a) (nI b) Q E σ := by
  unfold wX12_in
  by_cases h1 : a ≤ c
  · refine no (by simp (disch := omega) only [nI_lit, nI_add, nI_mulE, nI_clampE, nI_eqE, nI_leE, nI_ltE, vp_nIE, true_and, and_true]; omega) ?_
    by_cases h2 : c ≤ b
    · rw [if_pos ⟨h1, h2⟩] at h; exact no (by simp (disch := omega) only [nI_lit, nI_add, nI_mulE, nI_clampE, nI_eqE, nI_leE, nI_ltE, vp_nIE, true_and, and_true]; omega) h
    · rw [if_neg (fun z => h2 z.2)] at h; exact yes (by simp (disch := omega) only [nI_lit, nI_add, nI_mulE, nI_clampE, nI_eqE, nI_leE, nI_ltE, vp_nIE, true_and, and_true]; omega) h
  · rw [if_neg (fun z => h1 z.1)] at h; exact yes (by simp (disch := omega) only [nI_lit, nI_add, nI_mulE, nI_clampE, nI_eqE, nI_leE, nI_ltE, vp_nIE, true_and, and_true]; omega) h
theorem m_small {c : Nat} (hc : c < 128) {Q : Int32 → ab_S → Prop} (h : Q (if ltr c then 1 else 0) σ) : wX12_isSmall (nI c) Q E σ := by
  unfold wX12_isSmall
  refine m_in (a := 97) (b := 122) (by omega) (by omega) (by omega) ?_
  have e : (if 97 ≤ c ∧ c ≤ 122 then (1 : Int32) else 0) = if ltr c then 1 else 0 := by simp [ltr]
  rw [e]
  exact ⟨by split <;> simp, h⟩
theorem m_digit {c : Nat} (hc : c < 128) {Q : Int32 → ab_S → Prop} (h : Q (if dgt c then 1 else 0) σ) : wX12_isDigit (nI c) Q E σ := by
  unfold wX12_isDigit
  refine m_in (a := 48) (b := 57) (by omega) (by omega) (by omega) ?_
  have e : (if 48 ≤ c ∧ c ≤ 57 then (1 : Int32) else 0) = if dgt c then 1 else 0 := by simp [dgt]
  rw [e]
  exact ⟨by split <;> simp, h⟩
/-- the sign at p, 0 behind the end -/
def sa (t : Nat → Nat) (n p : Nat) : Nat := if p < n then t p else 0
theorem sa_lt (hM : MT σ t n) (p : Nat) : sa t n p < 128 := by
  unfold sa; split
  · exact (hM.2.2.1 p (by assumption)).2
  · omega
theorem m_signAt (hM : MT σ t n) {p : Nat} (hp : p ≤ n) {Q : Int32 → ab_S → Prop} (h : Q (nI (sa t n p)) σ) : wX12_signAt (nI p) Q E σ := by
  obtain ⟨hn, h1, h2, h3⟩ := hM
  unfold wX12_signAt
  rw [h1]
  unfold sa at h
  by_cases hc : p < n
  · rw [if_pos hc] at h
    refine no (by simp (disch := omega) only [nI_lit, nI_add, nI_mulE, nI_clampE, nI_eqE, nI_leE, nI_ltE, vp_nIE, true_and, and_true]; omega) ⟨by simp (disch := omega) only [nI_lit, nI_add, nI_mulE, nI_clampE, nI_eqE, nI_leE, nI_ltE, vp_nIE, true_and, and_true]; omega, ?_⟩
    simp (disch := omega) only [nI_clampE]
    rw [(h2 p hc).1]; exact h
  · rw [if_neg hc] at h
    exact yes (by simp (disch := omega) only [nI_lit, nI_add, nI_mulE, nI_clampE, nI_eqE, nI_leE, nI_ltE, vp_nIE, true_and, and_true]; omega) h
theorem m_sign {c : Nat} (hc : c < 128) {Q : Int32 → ab_S → Prop} (h : Q (nI (sgm c)) σ) : wX12_sign (nI c) Q E σ := by
  unfold wX12_sign
  simp (disch := omega) only [nI_lit, nI_add, nI_mulE, nI_clampE, nI_eqE, nI_leE, nI_ltE, vp_nIE]
  refine ⟨fun h9 => ?_, fun n0 => ?_⟩
  · have e : nI (sgm c) = _ := congrArg (fun z => nI (sgm z)) h9
    rw [e] at h; exact h
  refine ⟨fun h9 => ?_, fun n1 => ?_⟩
  · have e : nI (sgm c) = _ := congrArg (fun z => nI (sgm z)) h9
    rw [e] at h; exact h
  refine ⟨fun h9 => ?_, fun n2 => ?_⟩
  · have e : nI (sgm c) = _ := congrArg (fun z => nI (sgm z)) h9
    rw [e] at h; exact h
  refine ⟨fun h9 => ?_, fun n3 => ?_⟩
  · have e : nI (sgm c) = _ := congrArg (fun z => nI (sgm z)) h9
    rw [e] at h; exact h
  refine ⟨fun h9 => ?_, fun n4 => ?_⟩
  · have e : nI (sgm c) = _ := congrArg (fun z => nI (sgm z)) h9
    rw [e] at h; exact h
  refine ⟨fun h9 => ?_, fun n5 => ?_⟩
  · have e : nI (sgm c) = _ := congrArg (fun z => nI (sgm z)) h9
    rw [e] at h; exact h
  refine ⟨fun h9 => ?_, fun n6 => ?_⟩
  · have e : nI (sgm c) = _ := congrArg (fun z => nI (sgm z)) h9
    rw [e] at h; exact h
  refine ⟨fun h9 => ?_, fun n7 => ?_⟩
  · have e : nI (sgm c) = _ := congrArg (fun z => nI (sgm z)) h9
    rw [e] at h; exact h
  refine ⟨fun h9 => ?_, fun n8 => ?_⟩
  · have e : nI (sgm c) = _ := congrArg (fun z => nI (sgm z)) h9
    rw [e] at h; exact h
  refine ⟨fun h9 => ?_, fun n9 => ?_⟩
  · have e : nI (sgm c) = _ := congrArg (fun z => nI (sgm z)) h9
    rw [e] at h; exact h
  refine ⟨fun h9 => ?_, fun n10 => ?_⟩
  · have e : nI (sgm c) = _ := congrArg (fun z => nI (sgm z)) h9
    rw [e] at h; exact h
  refine ⟨fun h9 => ?_, fun n11 => ?_⟩
  · have e : nI (sgm c) = _ := congrArg (fun z => nI (sgm z)) h9
    rw [e] at h; exact h
  refine ⟨fun h9 => ?_, fun n12 => ?_⟩
  · have e : nI (sgm c) = _ := congrArg (fun z => nI (sgm z)) h9
    rw [e] at h; exact h
  refine ⟨fun h9 => ?_, fun n13 => ?_⟩
  · have e : nI (sgm c) = _ := congrArg (fun z => nI (sgm z)) h9
    rw [e] at h; exact h
  refine ⟨fun h9 => ?_, fun n14 => ?_⟩
  · have e : nI (sgm c) = _ := congrArg (fun z => nI (sgm z)) h9
    rw [e] at h; exact h
  have e : sgm c = 18 := by unfold sgm; rw [if_neg n0, if_neg n1, if_neg n2, if_neg n3, if_neg n4, if_neg n5, if_neg n6, if_neg n7, if_neg n8, if_neg n9, if_neg n10, if_neg n11, if_neg n12, if_neg n13, if_neg n14]
  rw [e] at h; exact h
theorem m_wordL (hM : MT σ t n) {j q e : Nat} (hj : j < 6) (hq : q ≤ e) (he : e ≤ n) (h42 : σ.2.1 92 42 = nI e) {Q : Int32 → ab_S → Prop} {Bk : Int32 → Int32 → ab_S → Prop} {x1 : Int32} : ∀ f k, skL.getD j 0 - k = f → k ≤ skL.getD j 0 → q + k ≤ e → (∀ m, m < k → nI (t (q + m)) = (skB.getD j []).getD m 0) → Bk (if mW t q e j then nI (j + 1) else x1) (nI (j + 2)) σ → wX12_wordHere_l23 Q E (wX12_wordHere_j69 Q E Bk) (f + 1) x1 (nI (j + 1)) (nI (q + k)) (wl j k) σ := by
  have hs := sk_len j hj
  obtain ⟨hn, h1, h2, h3⟩ := hM
  have K : ∀ k, k ≤ skL.getD j 0 → q + k ≤ e → Bk (if mW t q e j then nI (j + 1) else x1) (nI (j + 2)) σ → (q + k = e ∧ k = skL.getD j 0 → mW t q e j = true) → (¬ (q + k = e ∧ k = skL.getD j 0) → mW t q e j = false) → wX12_wordHere_j69 Q E Bk x1 (nI (j + 1)) (nI (q + k)) (wl j k) σ := by
    intro k hk hk2 h g1 g2
    unfold wX12_wordHere_j69
    rw [h42]
    by_cases hc : q + k = e
    · refine no (by simp [hc]) ?_
      by_cases hl : k = skL.getD j 0
      · rw [g1 ⟨hc, hl⟩, if_pos rfl] at h
        refine no (by rw [hl, (wl_e j hj).1]; decide) ?_
        unfold wX12_wordHere_j89
        refine fe ?_
        rw [nI_1]; exact h
      · rw [g2 (fun z => hl z.2), if_neg (by decide)] at h
        refine yes (wl_f j hj k (by omega)).2.2.2 ?_
        unfold wX12_wordHere_j88 wX12_wordHere_j89
        refine fe ?_
        rw [nI_1]; exact h
    · rw [g2 (fun z => hc z.1), if_neg (by decide)] at h
      refine yes (by simp (disch := omega) only [nI_lit, nI_add, nI_mulE, nI_clampE, nI_eqE, nI_leE, nI_ltE, vp_nIE, true_and, and_true]; exact hc) ?_
      unfold wX12_wordHere_j88 wX12_wordHere_j89
      refine fe ?_
      rw [nI_1]; exact h
  have H : ∀ (B2 : Int32 → Int32 → Int32 → Int64 → ab_S → Prop) k, k ≤ skL.getD j 0 → q + k ≤ e → (∀ m, m < k → nI (t (q + m)) = (skB.getD j []).getD m 0) → Bk (if mW t q e j then nI (j + 1) else x1) (nI (j + 2)) σ → (k < skL.getD j 0 → q + k < e → nI (t (q + k)) = (skB.getD j []).getD k 0 → B2 x1 (nI (j + 1)) (nI (q + (k + 1))) (wl j (k + 1)) σ) → wX12_wordHere_l23_b Q E (wX12_wordHere_j69 Q E Bk) B2 x1 (nI (j + 1)) (nI (q + k)) (wl j k) σ := by
    intro B2 k hk hk2 hm h g
    unfold wX12_wordHere_l23_b
    rw [h42]
    by_cases hc : q + k < e
    · refine no (by simp (disch := omega) only [nI_lit, nI_add, nI_mulE, nI_clampE, nI_eqE, nI_leE, nI_ltE, vp_nIE, true_and, and_true]; omega) ?_
      by_cases hl : k < skL.getD j 0
      · obtain ⟨f1, f2, f3, f4⟩ := wl_f j hj k hl
        refine no f1 ⟨by simp (disch := omega) only [nI_lit, nI_add, nI_mulE, nI_clampE, nI_eqE, nI_leE, nI_ltE, vp_nIE, true_and, and_true]; omega, ?_⟩
        simp (disch := omega) only [nI_clampE]
        rw [(h2 (q + k) (by omega)).1, f2, f3]
        by_cases hq2 : nI (t (q + k)) = (skB.getD j []).getD k 0
        · refine no (fun z => z hq2) (fe (fe ?_))
          rw [nI_1]
          exact g hl hc hq2
        · refine yes hq2 (K k hk hk2 h (fun z => absurd z.2 (by omega)) (fun _ => ?_))
          cases z : mW t q e j with
          | false => rfl
          | true =>
            simp only [mW, Bool.and_eq_true, decide_eq_true_eq] at z
            exact absurd (z.2 k hl) hq2
      · have e0 : k = skL.getD j 0 := by omega
        refine yes (by rw [e0, (wl_e j hj).1]; decide) (K k hk hk2 h (fun z => absurd z.1 (by omega)) (fun _ => ?_))
        cases z : mW t q e j with
        | false => rfl
        | true =>
          simp only [mW, Bool.and_eq_true, decide_eq_true_eq] at z
          omega
    · refine yes (by simp (disch := omega) only [nI_lit, nI_add, nI_mulE, nI_clampE, nI_eqE, nI_leE, nI_ltE, vp_nIE, true_and, and_true]; omega) (K k hk hk2 h (fun z => ?_) (fun z => ?_))
      · simp only [mW, Bool.and_eq_true, decide_eq_true_eq]
        exact ⟨by omega, fun m hm2 => hm m (by omega)⟩
      · cases y : mW t q e j with
        | false => rfl
        | true =>
          simp only [mW, Bool.and_eq_true, decide_eq_true_eq] at y
          omega
  intro f
  induction f with
  | zero =>
    intro k hf hk hk2 hm h
    exact H _ k hk hk2 hm h (fun z => absurd z (by omega))
  | succ f ih =>
    intro k hf hk hk2 hm h
    refine H _ k hk hk2 hm h (fun z y w => ih (k + 1) (by omega) (by omega) (by omega) (fun m hm2 => ?_) h)
    by_cases em : m = k
    · rw [em]; exact w
    · exact hm m (by omega)
theorem m_word (hM : MT σ t n) {q e : Nat} (hq : q ≤ e) (he : e ≤ n) (h41 : σ.2.1 92 41 = nI q) (h42 : σ.2.1 92 42 = nI e) {Q : Int32 → ab_S → Prop} (h : Q (nI (mwd (kw t q e))) σ) : wX12_wordHere Q E σ := by
  have step : ∀ (g j : Nat) (x1 : Int32), j < 6 → wX12_wordHere_l4 Q E g (if mW t q e j then nI (j + 1) else x1) (nI (j + 2)) σ → wX12_wordHere_l4 Q E (g + 1) x1 (nI (j + 1)) σ := by
    intro g j x1 hj hg
    show wX12_wordHere_l4_b Q E (wX12_wordHere_l4 Q E g) x1 (nI (j + 1)) σ
    unfold wX12_wordHere_l4_b
    rw [h41]
    refine no (by simp (disch := omega) only [nI_lit, nI_add, nI_mulE, nI_clampE, nI_eqE, nI_leE, nI_ltE, vp_nIE, true_and, and_true]; omega) (fe ⟨by simp (disch := omega) only [nI_lit, nI_add, nI_mulE, nI_clampE, nI_eqE, nI_leE, nI_ltE, vp_nIE, true_and, and_true]; omega, ?_⟩)
    simp (disch := omega) only [nI_clampE]
    rw [hM.2.2.2 j hj, ← (wl_e j hj).2.1]
    exact fe ⟨_, m_wordL hM hj hq he h42 _ 0 rfl (by omega) (by omega) (fun m z => absurd z (by omega)) hg⟩
  refine ⟨7, ?_⟩
  refine step 6 0 0 (by omega) (step 5 1 _ (by omega) (step 4 2 _ (by omega) (step 3 3 _ (by omega) (step 2 4 _ (by omega) (step 1 5 _ (by omega) ?_)))))
  refine yes (by decide) ?_
  have ex := @mW_ex t q e
  have key : (if mW t q e 5 = true then nI (5 + 1) else if mW t q e 4 = true then nI (4 + 1) else if mW t q e 3 = true then nI (3 + 1) else if mW t q e 2 = true then nI (2 + 1) else if mW t q e 1 = true then nI (1 + 1) else if mW t q e 0 = true then nI (0 + 1) else 0) = nI (mwd (kw t q e)) := by
    unfold kw
    cases h0 : mW t q e 0
    · cases h1 : mW t q e 1
      · cases h2 : mW t q e 2
        · cases h3 : mW t q e 3
          · cases h4 : mW t q e 4
            · cases h5 : mW t q e 5 <;> rfl
            · rw [ex (i := 5) (by omega) (by omega) (by omega) h4]; rfl
          · rw [ex (i := 4) (by omega) (by omega) (by omega) h3, ex (i := 5) (by omega) (by omega) (by omega) h3]; rfl
        · rw [ex (i := 3) (by omega) (by omega) (by omega) h2, ex (i := 4) (by omega) (by omega) (by omega) h2, ex (i := 5) (by omega) (by omega) (by omega) h2]; rfl
      · rw [ex (i := 2) (by omega) (by omega) (by omega) h1, ex (i := 3) (by omega) (by omega) (by omega) h1, ex (i := 4) (by omega) (by omega) (by omega) h1, ex (i := 5) (by omega) (by omega) (by omega) h1]; rfl
    · rw [ex (i := 1) (by omega) (by omega) (by omega) h0, ex (i := 2) (by omega) (by omega) (by omega) h0, ex (i := 3) (by omega) (by omega) (by omega) h0, ex (i := 4) (by omega) (by omega) (by omega) h0, ex (i := 5) (by omega) (by omega) (by omega) h0]; rfl
  rw [key]
  exact h
/-- blanks -/
theorem m_blL (hM : MT σ t n) {Q : ab_S → Prop} {K : Int32 → ab_S → Prop} : ∀ f i, n - i = f → i ≤ n → K (nI (sp bl t n i)) σ → wX12_advance_l5 Q E K (f + 1) (nI i) σ := by
  have H : ∀ (Bk : Int32 → ab_S → Prop) i, i ≤ n → (i < n → bl (t i) = true → Bk (nI (i + 1)) σ) → (¬ (i < n ∧ bl (t i) = true) → K (nI i) σ) → wX12_advance_l5_b Q E K Bk (nI i) σ := by
    intro Bk i hi g1 g2
    have hn := hM.1
    have hlt := sa_lt hM i
    unfold wX12_advance_l5_b
    refine m_signAt hM hi ?_
    refine ⟨fun h9 => ?_, fun h9 => m_signAt hM hi ⟨fun h8 => ?_, fun h8 => ?_⟩⟩
    · have h9 : nI (sa t n i) = nI 32 := h9
      rw [nI_eqE (by omega) (by omega)] at h9
      unfold sa at h9
      split at h9
      · unfold wX12_advance_j25
        refine fe ?_
        rw [nI_1]
        exact g1 (by assumption) (by simp [bl, h9])
      · omega
    · refine g2 (fun z => ?_)
      have : ¬ nI (sa t n i) = nI 32 := h9
      rw [nI_eqE (by omega) (by omega)] at this
      have h8 : ¬ nI (sa t n i) = nI 10 := h8
      rw [nI_eqE (by omega) (by omega)] at h8
      unfold sa at this h8
      rw [if_pos z.1] at this h8
      have := z.2
      simp [bl] at this
      omega
    · have h8 : nI (sa t n i) = nI 10 := Classical.not_not.mp h8
      rw [nI_eqE (by omega) (by omega)] at h8
      unfold sa at h8
      split at h8
      · unfold wX12_advance_j25
        refine fe ?_
        rw [nI_1]
        exact g1 (by assumption) (by simp [bl, h8])
      · omega
  intro f
  induction f with
  | zero =>
    intro i hf hi h
    refine H _ i hi (fun h9 => absurd h9 (by omega)) (fun h9 => ?_)
    rw [sp_no h9] at h
    exact h
  | succ f ih =>
    intro i hf hi h
    refine H _ i hi (fun h9 h8 => ?_) (fun h9 => ?_)
    · rw [sp_yes h9 h8] at h
      exact ih (i + 1) (by omega) (by omega) h
    · rw [sp_no h9] at h
      exact h
/-- letters or digits -/
theorem m_runL (hM : MT σ t n) {c : Nat} (hc : c < 128) {p : Nat → Bool} (hp : p = if ltr c then ltr else dgt) {Q : ab_S → Prop} {K : Int32 → Int32 → ab_S → Prop} : ∀ f i, n - i = f → i ≤ n → K (nI (sp p t n i)) (nI c) σ → wX12_advance_l82 Q E K (f + 1) (nI i) (nI c) σ := by
  have hn := hM.1
  have H : ∀ (Bk : Int32 → Int32 → ab_S → Prop) i, i ≤ n → (i < n → p (t i) = true → Bk (nI (i + 1)) (nI c) σ) → (¬ (i < n ∧ p (t i) = true) → K (nI i) (nI c) σ) → wX12_advance_l82_b Q E K Bk (nI i) (nI c) σ := by
    intro Bk i hi g1 g2
    have hlt := sa_lt hM i
    unfold wX12_advance_l82_b
    refine m_small hc ?_
    cases hb : ltr c
    · refine ⟨fun _ => ?_, fun h9 => absurd (by decide) h9⟩
      rw [hb] at hp
      have hp : p = dgt := hp
      subst hp
      refine m_signAt hM hi (m_digit hlt ?_)
      by_cases hq : i < n
      · rw [show sa t n i = t i by simp [sa, hq]]
        cases hd : dgt (t i)
        · exact ⟨fun _ => g2 (by simp [hd]), fun h9 => absurd (by decide) h9⟩
        · refine ⟨fun h9 => absurd h9 (by decide), fun _ => ?_⟩
          unfold wX12_advance_j114
          refine fe ?_
          rw [nI_1]; exact g1 hq hd
      · rw [show sa t n i = 0 by simp [sa, hq]]
        exact ⟨fun _ => g2 (by omega), fun h9 => absurd (by decide) h9⟩
    · refine ⟨fun h9 => absurd h9 (by decide), fun _ => ?_⟩
      rw [hb] at hp
      have hp : p = ltr := hp
      subst hp
      refine m_signAt hM hi (m_small hlt ?_)
      by_cases hq : i < n
      · rw [show sa t n i = t i by simp [sa, hq]]
        cases hd : ltr (t i)
        · exact ⟨fun _ => g2 (by simp [hd]), fun h9 => absurd (by decide) h9⟩
        · refine ⟨fun h9 => absurd h9 (by decide), fun _ => ?_⟩
          unfold wX12_advance_j114
          refine fe ?_
          rw [nI_1]; exact g1 hq hd
      · rw [show sa t n i = 0 by simp [sa, hq]]
        exact ⟨fun _ => g2 (by omega), fun h9 => absurd (by decide) h9⟩
  intro f
  induction f with
  | zero =>
    intro i hf hi h
    refine H _ i hi (fun h9 => absurd h9 (by omega)) (fun h9 => ?_)
    rw [sp_no h9] at h
    exact h
  | succ f ih =>
    intro i hf hi h
    refine H _ i hi (fun h9 h8 => ?_) (fun h9 => ?_)
    · rw [sp_yes h9 h8] at h
      exact ih (i + 1) (by omega) (by omega) h
    · rw [sp_no h9] at h
      exact h
/-- behind a name or a number -/
theorem m_j120 (hM : MT σ t n) {q c : Nat} (hq : q < n) (hc : c = t q) (h41 : σ.2.1 92 41 = nI q) (h43 : σ.2.1 92 43 = nI 0) (hld : ltr c = true ∨ dgt c = true) {Q : ab_S → Prop} (h : ∀ σ', FM Sadv σ σ' → MS σ' t n q → Q σ') : wX12_advance_j120 Q E (nI (tkE t n q)) (nI c) σ := by
  have hn := hM.1
  have hlt : c < 128 := by rw [hc]; exact (hM.2.2.1 q hq).2
  have hg := tkE_gt (t := t) hq
  unfold wX12_advance_j120
  refine fe (m_small hlt ?_)
  have fin : ∀ (τ : ab_S), FM Sadv σ τ → τ.2.1 92 41 = nI q → τ.2.1 92 42 = nI (tkE t n q) → ∀ k y : Nat, (y = mk (tkK t n q)) → (y = 1 → mwd (tkK t n q) = mwd (kw t q (tkE t n q))) → (y ≠ 1 → mwd (tkK t n q) = 0) → y < 19 → wX12_advance_j168 Q E (nI y) τ := by
    intro τ hF g1 g2 k y hy hw1 hw0 hy2
    have hM2 := hM.fm hF rfl (fun _ => rfl) (fun _ => rfl)
    have hm := mk_lt (tkK t n q) tkK_lt
    unfold wX12_advance_j168
    refine fe ?_
    rw [show (ab_I τ 92 40 (nI y)).2.1 92 40 = nI y by simp [gI_I]]
    have last : ∀ z : Nat, z = mwd (tkK t n q) → wX12_advance_j188 Q E (nI z) (ab_I τ 92 40 (nI y)) := by
      intro z hz
      unfold wX12_advance_j188
      refine fe (h _ ((hF.I rfl).I rfl) ⟨?_, by omega, ?_, ?_, ?_, ?_⟩)
      · exact hM2.fm (S := Sadv) (((FM.rf _ τ).I rfl).I rfl) rfl (fun _ => rfl) (fun _ => rfl)
      · simp [gI_I, g1]
      · simp [gI_I, g2]
      · simp [gI_I, hy]
      · simp [gI_I, hz]
    by_cases h1 : y = 1
    · refine no (by simp (disch := omega) only [nI_lit, nI_add, nI_mulE, nI_clampE, nI_eqE, nI_leE, nI_ltE, vp_nIE, true_and, and_true]; omega) ?_
      refine m_word (q := q) (e := tkE t n q) (hM2.fm (S := Sadv) ((FM.rf _ τ).I rfl) rfl (fun _ => rfl) (fun _ => rfl)) (by omega) hg.2 ?_ ?_ ?_
      · simp [gI_I, g1]
      · simp [gI_I, g2]
      · exact last _ (hw1 h1).symm
    · exact yes (by simp (disch := omega) only [nI_lit, nI_add, nI_mulE, nI_clampE, nI_eqE, nI_leE, nI_ltE, vp_nIE, true_and, and_true]; omega) (last 0 (hw0 h1).symm)
  have e41 : (ab_I σ 92 42 (nI (tkE t n q))).2.1 92 41 = nI q := h41
  have hF : FM Sadv σ (ab_I σ 92 42 (nI (tkE t n q))) := (FM.rf _ σ).I rfl
  have e42 : (ab_I σ 92 42 (nI (tkE t n q))).2.1 92 42 = nI (tkE t n q) := by simp [gI_I]
  have hkE : tkE t n q = if ltr (t q) then sp ltr t n q else if dgt (t q) then sp dgt t n q else q + 1 := by unfold tkE; rw [if_neg (by omega)]
  have hkK : tkK t n q = if ltr (t q) then (if 8 < sp ltr t n q - q then 1 else kw t q (sp ltr t n q)) else if dgt (t q) then (if 6 < sp dgt t n q - q then 1 else 3) else if sgn (t q) then t q else 1 := by unfold tkK; rw [if_neg (by omega)]
  cases hb : ltr c
  · refine ⟨fun _ => ?_, fun h9 => absurd (by decide) h9⟩
    have hd : dgt (t q) = true := by rw [← hc]; rcases hld with z | z; · rw [hb] at z; cases z
                                     · exact z
    rw [← hc, hb] at hkE hkK
    rw [hc, hd] at hkE hkK
    simp only [Bool.false_eq_true, if_false, if_true] at hkE hkK
    unfold wX12_advance_j139
    rw [e41, nI_subE (by omega)]
    by_cases h6 : 6 < tkE t n q - q
    · refine no (by simp (disch := omega) only [nI_lit, nI_add, nI_mulE, nI_clampE, nI_eqE, nI_leE, nI_ltE, vp_nIE, true_and, and_true]; omega) ?_
      rw [← hkE, if_pos h6] at hkK
      exact fin _ hF e41 e42 0 18 (by rw [hkK]; rfl) (fun z => absurd z (by omega)) (fun _ => by rw [hkK]; rfl) (by omega)
    · refine yes (by simp (disch := omega) only [nI_lit, nI_add, nI_mulE, nI_clampE, nI_eqE, nI_leE, nI_ltE, vp_nIE, true_and, and_true]; omega) (m_small hlt ?_)
      rw [hb]
      refine ⟨fun _ => ?_, fun h9 => absurd (by decide) h9⟩
      rw [← hkE, if_neg h6] at hkK
      exact fin _ hF e41 e42 0 2 (by rw [hkK]; rfl) (fun z => absurd z (by omega)) (fun _ => by rw [hkK]; rfl) (by omega)
  · refine ⟨fun h9 => absurd h9 (by decide), fun _ => ?_⟩
    rw [← hc, hb] at hkE hkK
    simp only [if_true] at hkE hkK
    unfold wX12_advance_j139
    rw [e41, nI_subE (by omega)]
    by_cases h6 : 8 < tkE t n q - q
    · refine no (by simp (disch := omega) only [nI_lit, nI_add, nI_mulE, nI_clampE, nI_eqE, nI_leE, nI_ltE, vp_nIE, true_and, and_true]; omega) ?_
      rw [← hkE, if_pos h6] at hkK
      exact fin _ hF e41 e42 0 18 (by rw [hkK]; rfl) (fun z => absurd z (by omega)) (fun _ => by rw [hkK]; rfl) (by omega)
    · refine yes (by simp (disch := omega) only [nI_lit, nI_add, nI_mulE, nI_clampE, nI_eqE, nI_leE, nI_ltE, vp_nIE, true_and, and_true]; omega) (m_small hlt ?_)
      rw [hb]
      refine ⟨fun h9 => absurd h9 (by decide), fun _ => ?_⟩
      rw [← hkE, if_neg h6] at hkK
      have hk := kw_b t q (tkE t n q)
      exact fin _ hF e41 e42 0 1 (by rw [hkK]; unfold mk; rw [if_neg (by omega), if_neg (by omega), if_neg (by omega), if_pos (by omega)]) (fun _ => by rw [hkK]) (fun z => absurd rfl z) (by omega)
theorem m_adv (hM : MT σ t n) {e : Nat} (he : e ≤ n) (h42 : σ.2.1 92 42 = nI e) {Q : ab_S → Prop} (h : ∀ σ', FM Sadv σ σ' → MS σ' t n (sp bl t n e) → Q σ') : wX12_advance Q E σ := by
  have hn := hM.1
  unfold wX12_advance
  rw [h42]
  refine fe ⟨_, m_blL hM _ e rfl he ?_⟩
  generalize hq : sp bl t n e = q at h
  have hqn : q ≤ n := by rw [← hq]; exact (sp_ge he).2
  unfold wX12_advance_j31
  refine fe (fe ?_)
  have hF : FM Sadv σ (ab_I (ab_I σ 92 41 (nI q)) 92 43 0) := ((FM.rf _ σ).I rfl).I rfl
  generalize hτ : ab_I (ab_I σ 92 41 (nI q)) 92 43 0 = τ at hF
  have g41 : τ.2.1 92 41 = nI q := by rw [← hτ]; simp [gI_I]
  have g43 : τ.2.1 92 43 = nI 0 := by rw [← hτ]; simp [gI_I]; rfl
  have hM2 := hM.fm hF rfl (fun _ => rfl) (fun _ => rfl)
  refine m_signAt hM2 hqn ?_
  rw [hM2.2.1]
  by_cases hc : q < n
  · have hlt := (hM.2.2.1 q hc).2
    refine yes (by simp (disch := omega) only [nI_lit, nI_add, nI_mulE, nI_clampE, nI_eqE, nI_leE, nI_ltE, vp_nIE, true_and, and_true]; omega) ?_
    rw [show sa t n q = t q by simp [sa, hc]]
    refine m_small hlt ?_
    cases hb : ltr (t q)
    · refine ⟨fun h9 => absurd (by decide) h9, fun _ => ?_⟩
      refine m_digit hlt ?_
      cases hd : dgt (t q)
      · refine ⟨fun _ => ?_, fun h9 => absurd (by decide) h9⟩
        have hkE : tkE t n q = q + 1 := by unfold tkE; rw [if_neg (by omega), hb, hd]; simp
        have hkK : tkK t n q = if sgn (t q) then t q else 1 := by unfold tkK; rw [if_neg (by omega), hb, hd]; simp
        refine m_sign hlt (fe (fe ?_))
        rw [nI_1]
        refine h _ ((hF.I rfl).I rfl) ⟨?_, hqn, ?_, ?_, ?_, ?_⟩
        · exact hM2.fm (S := Sadv) (((FM.rf _ τ).I rfl).I rfl) rfl (fun _ => rfl) (fun _ => rfl)
        · simp [gI_I, g41]
        · simp [gI_I, hkE]
        · simp [gI_I, hkK]
          cases hs : sgn (t q)
          · simp [sgm_18 _ hlt hs, mk]
          · simp [(mk_sgm _ hlt hs).1]
        · simp [gI_I, hkK, g43]
          cases hs : sgn (t q)
          · simp [mwd]
          · simp [(mk_sgm _ hlt hs).2]
      · refine ⟨fun h9 => absurd h9 (by decide), fun _ => ⟨_, m_runL (p := dgt) hM2 hlt (by rw [hb]; rfl) _ q rfl hqn ?_⟩⟩
        rw [show sp dgt t n q = tkE t n q by unfold tkE; rw [if_neg (by omega), hb, hd]; simp]
        exact m_j120 hM2 hc rfl g41 g43 (Or.inr hd) (fun σ' f s => h σ' (hF.tr f) s)
    · refine ⟨fun _ => ⟨_, m_runL (p := ltr) hM2 hlt (by rw [hb]; rfl) _ q rfl hqn ?_⟩, fun h9 => absurd (by decide) h9⟩
      rw [show sp ltr t n q = tkE t n q by unfold tkE; rw [if_neg (by omega), hb]; simp]
      exact m_j120 hM2 hc rfl g41 g43 (Or.inl hb) (fun σ' f s => h σ' (hF.tr f) s)
  · refine no (by simp (disch := omega) only [nI_lit, nI_add, nI_mulE, nI_clampE, nI_eqE, nI_leE, nI_ltE, vp_nIE, true_and, and_true]; omega) (fe (fe ?_))
    have hkE : tkE t n q = q := by unfold tkE; rw [if_pos (by omega)]
    have hkK : tkK t n q = 0 := by unfold tkK; rw [if_pos (by omega)]
    refine h _ ((hF.I rfl).I rfl) ⟨?_, hqn, ?_, ?_, ?_, ?_⟩
    · exact hM2.fm (S := Sadv) (((FM.rf _ τ).I rfl).I rfl) rfl (fun _ => rfl) (fun _ => rfl)
    · simp [gI_I, g41]
    · simp [gI_I, hkE]
    · simp [gI_I, hkK, mk]; rfl
    · simp [gI_I, hkK, mwd, g43]
/-- on to the next token -/
theorem m_next {q : Nat} (hS : MS σ t n q) {Q : ab_S → Prop} (h : ∀ σ', FM Sadv σ σ' → MS σ' t n (nx t n q) → Q σ') : wX12_advance Q E σ := by
  obtain ⟨h0, h1, h2, h3, h4, h5⟩ := hS
  exact m_adv h0 (tkE_le h1).2 h3 h
end ML
