theorem ab_I_self (σ : ab_S) (a i : Nat) : ab_I σ a i (σ.2.1 a i) = σ := by
  obtain ⟨s1, s2, s3, s4⟩ := σ
  unfold ab_I
  congr 1
  congr 1
  funext b j
  simp only []
  by_cases hb : b = a
  · subst hb
    by_cases hj : j = i
    · subst hj; simp
    · simp [hj]
  · simp [hb]
/-- names unlike each other -/
def UQ (nm : Nat → List Nat) (N : Nat) : Prop := ∀ i j, i < N → j < N → nm i = nm j → i = j
theorem fi_uq {nm : Nat → List Nat} {N i : Nat} {l : List Nat} (hu : UQ nm N) (hi : i < N) (h : nm i = l) : fi nm N l = i := by
  have h1 : fi nm N l < N := by
    rcases Nat.lt_or_ge (fi nm N l) N with z | z
    · exact z
    · exact absurd h (fi_no (nm := nm) (N := N) (l := l) (by omega))
  exact hu _ _ h1 hi ((fi_hit h1).trans h.symm)
theorem kind2 : ∀ k, k < 128 → vk k = true → ((mk k = 1 ∧ mwd k = 0) ↔ k = 2) := by decide +kernel
def eq8 (x y : List Nat) (k : Nat) : Bool := (List.range 8).all (fun m => decide (m < k) || decide (x.getD m 0 = y.getD m 0))
theorem eq8_i (x y : List Nat) (k : Nat) : eq8 x y k = true ↔ ∀ m, m < 8 → k ≤ m → x.getD m 0 = y.getD m 0 := by
  unfold eq8
  rw [List.all_eq_true]
  constructor
  · intro h m a b
    have := h m (List.mem_range.mpr a)
    rw [Bool.or_eq_true, decide_eq_true_eq, decide_eq_true_eq] at this
    rcases this with z | z
    · omega
    · exact z
  · intro h m a
    rw [Bool.or_eq_true, decide_eq_true_eq, decide_eq_true_eq]
    rcases Nat.lt_or_ge m k with z | z
    · exact Or.inl z
    · exact Or.inr (h m (List.mem_range.mp a) z)
theorem eq8_s (x y : List Nat) {k : Nat} (h : k < 8) : eq8 x y k = (decide (x.getD k 0 = y.getD k 0) && eq8 x y (k + 1)) := by
  rw [Bool.eq_iff_iff]
  rw [Bool.and_eq_true, eq8_i, eq8_i, decide_eq_true_eq]
  constructor
  · intro z; exact ⟨z k h (Nat.le_refl _), fun m a b => z m a (by omega)⟩
  · rintro ⟨c, d⟩ m a b
    by_cases em : m = k
    · rw [em]; exact c
    · exact d m a (by omega)
theorem eq8_8 (x y : List Nat) : eq8 x y 8 = true := by
  rw [eq8_i]
  intro m a b; omega
theorem eq8_0 {x y : List Nat} (h : VL x) (h' : VL y) : eq8 x y 0 = true ↔ x = y := by
  rw [← getD_inj h h']
  rw [eq8_i]
  exact ⟨fun z k a => z k a (by omega), fun z m a _ => z m a⟩
theorem nm_ch {σ : ab_S} {t : Nat → Nat} {n q k : Nat} (hS : MS σ t n q) : (nml t n q).getD k 0 = if q + k < tkE t n q then t (q + k) else 0 := by
  unfold nml
  rw [tkn_get]
  have := (tkE_le (t := t) hS.2.1).1
  by_cases h : k < tkE t n q - q
  · rw [if_pos h, if_pos (by omega)]
  · rw [if_neg h, if_neg (by omega)]
section ML
variable {σ : ab_S} {t : Nat → Nat} {n q : Nat} {E : String → ab_S → Prop}
theorem m_findI (hS : MS σ t n q) {A An from' N i : Nat} (hb : from' + 8 * N ≤ An) (hA : An < 100000) (hi : i < N) {nm : Nat → List Nat} (hr : ∀ k, k < 8 → σ.2.1 A (from' + 8 * i + k) = nI ((nm i).getD k 0)) (hc : ∀ k, (nm i).getD k 0 < 128) {a2 x4 : Int32} {Q : Int32 → ab_S → Prop} {K : Int32 → Int32 → Int32 → ab_S → Prop} : ∀ f k (b : Bool), 8 - k = f → k ≤ 8 → K x4 (nI i) (if b && eq8 (nm i) (nml t n q) k then 1 else 0) σ → wX12_find_l33 A An (nI from') a2 Q E K (f + 1) x4 (nI i) (if b then 1 else 0) (nI k) σ := by
  have hS2 := hS
  obtain ⟨hM, hqn, h41, h42, h40, h43⟩ := hS2
  have hn := hM.1
  have hte := (tkE_le (t := t) hqn)
  have H : ∀ (Bk : Int32 → Int32 → Int32 → Int32 → ab_S → Prop) k (b : Bool), k < 8 → Bk x4 (nI i) (if b && decide ((nm i).getD k 0 = (nml t n q).getD k 0) then 1 else 0) (nI (k + 1)) σ → wX12_find_l33_b A An (nI from') a2 Q E K Bk x4 (nI i) (if b then 1 else 0) (nI k) σ := by
    intro Bk k b hk h
    have hck := hc k
    have e8 : nI from' + 8 * nI i + nI k = nI (from' + 8 * i + k) := by show nI from' + nI 8 * nI i + nI k = _; rw [nI_mulE, nI_add, nI_add]
    unfold wX12_find_l33_b
    refine no (by simp (disch := omega) only [nI_lit, nI_add, nI_mulE, nI_clampE, nI_eqE, nI_leE, nI_ltE, vp_nIE, true_and, and_true]; omega) ?_
    cases b
    · refine yes rfl ?_
      unfold wX12_find_j94 wX12_find_j95
      refine fe ?_
      rw [nI_1]
      exact h
    · refine no (by decide) ?_
      rw [e8, h41, h42, nI_add]
      refine ⟨by simp (disch := omega) only [nI_lit, nI_add, nI_mulE, nI_clampE, nI_eqE, nI_leE, nI_ltE, vp_nIE, true_and, and_true]; omega, ?_⟩
      simp (disch := omega) only [nI_clampE]
      rw [hr k hk]
      have hch := nm_ch hS (k := k)
      have fin : ∀ c : Nat, c < 128 → c = (nml t n q).getD k 0 → wX12_find_j87 A An (nI from') a2 Q E K Bk x4 (nI i) (nI k) (nI c) (nI ((nm i).getD k 0)) σ := by
        intro c hc128 hc2
        unfold wX12_find_j87
        rw [← hc2] at h
        by_cases he : (nm i).getD k 0 = c
        · rw [decide_eq_true he] at h
          refine no (fun z => z (by rw [he])) ?_
          unfold wX12_find_j95
          refine fe ?_
          rw [nI_1]; exact h
        · rw [decide_eq_false he] at h
          refine yes (by simp (disch := omega) only [nI_lit, nI_add, nI_mulE, nI_clampE, nI_eqE, nI_leE, nI_ltE, vp_nIE, true_and, and_true]; exact he) ?_
          unfold wX12_find_j94 wX12_find_j95
          refine fe ?_
          rw [nI_1]; exact h
      by_cases hq : q + k < tkE t n q
      · rw [if_pos hq] at hch
        refine no (by simp (disch := omega) only [nI_lit, nI_add, nI_mulE, nI_clampE, nI_eqE, nI_leE, nI_ltE, vp_nIE, true_and, and_true]; omega) ⟨by simp (disch := omega) only [nI_lit, nI_add, nI_mulE, nI_clampE, nI_eqE, nI_leE, nI_ltE, vp_nIE, true_and, and_true]; omega, ?_⟩
        have := hM.2.2.1 (q + k) (by omega)
        rw [this.1]
        exact fin _ this.2 hch.symm
      · rw [if_neg hq] at hch
        exact yes (by simp (disch := omega) only [nI_lit, nI_add, nI_mulE, nI_clampE, nI_eqE, nI_leE, nI_ltE, vp_nIE, true_and, and_true]; omega) (fin 0 (by omega) hch.symm)
  intro f
  induction f with
  | zero =>
    intro k b hf hk h
    refine yes (by simp (disch := omega) only [nI_lit, nI_add, nI_mulE, nI_clampE, nI_eqE, nI_leE, nI_ltE, vp_nIE, true_and, and_true]; omega) ?_
    have e8 : k = 8 := by omega
    rw [e8, eq8_8, Bool.and_true] at h
    exact h
  | succ f ih =>
    intro k b hf hk h
    refine H _ k b (by omega) ?_
    refine ih (k + 1) _ (by omega) (by omega) ?_
    rw [Bool.and_assoc, ← eq8_s _ _ (by omega)]
    exact h
theorem m_find0 (hS : MS σ t n q) (hk : tkK t n q ≠ 2) {A An : Nat} {a1 a2 : Int32} {Q : Int32 → ab_S → Prop} (h : Q (-1) σ) : wX12_find A An a1 a2 Q E σ := by
  obtain ⟨hM, hqn, h41, h42, h40, h43⟩ := hS
  have hm := mk_lt (tkK t n q) tkK_lt
  refine ⟨1, ?_⟩
  show wX12_find_l6_b A An a1 a2 Q E _ (-1) 0 σ
  unfold wX12_find_l6_b
  rw [h40, h43]
  refine ⟨fun _ => h, fun _ => ⟨fun _ => h, fun h9 => ⟨fun _ => h, fun h8 => absurd ((kind2 _ tkK_lt (tkK_vk t n q)).mp ?_) hk⟩⟩⟩
  have a : nI (mk (tkK t n q)) = nI 1 := Classical.not_not.mp h9
  have b : nI (mwd (tkK t n q)) = nI 0 := Classical.not_not.mp h8
  rw [nI_eqE (by omega) (by omega)] at a b
  exact ⟨a, b⟩
theorem m_find (hS : MS σ t n q) (hk : tkK t n q = 2) {A An from' N : Nat} (hb : from' + 8 * N ≤ An) (hA : An < 100000) {nm : Nat → List Nat} (hr : ∀ i, i < N → (∀ k, k < 8 → σ.2.1 A (from' + 8 * i + k) = nI ((nm i).getD k 0)) ∧ VL (nm i)) (hu : UQ nm N) {Q : Int32 → ab_S → Prop} (h : Q (fiI nm N (nml t n q)) σ) : wX12_find A An (nI from') (nI N) Q E σ := by
  have hS2 := hS
  obtain ⟨hM, hqn, h41, h42, h40, h43⟩ := hS2
  have hv := (nml_v hk).1
  have h1 : mk (tkK t n q) = 1 ∧ mwd (tkK t n q) = 0 := (kind2 _ tkK_lt (tkK_vk t n q)).mpr hk
  rw [h1.1] at h40
  rw [h1.2] at h43
  refine ⟨N + 1, ?_⟩
  suffices H : ∀ f i, N - i = f → i ≤ N → wX12_find_l6 A An (nI from') (nI N) Q E (f + 1) (if fi nm N (nml t n q) < i then nI (fi nm N (nml t n q)) else -1) (nI i) σ by
    have := H N 0 rfl (by omega)
    rw [if_neg (by omega)] at this
    exact this
  intro f
  induction f with
  | zero =>
    intro i hf hi
    have e : i = N := by omega
    refine yes (by simp (disch := omega) only [nI_lit, nI_add, nI_mulE, nI_clampE, nI_eqE, nI_leE, nI_ltE, vp_nIE, true_and, and_true]; omega) ?_
    unfold fiI at h
    rw [e]
    exact h
  | succ f ih =>
    intro i hf hi
    obtain ⟨hr1, hr2⟩ := hr i (by omega)
    show wX12_find_l6_b A An (nI from') (nI N) Q E (wX12_find_l6 A An (nI from') (nI N) Q E (f + 1)) _ (nI i) σ
    unfold wX12_find_l6_b
    rw [h40, h43]
    refine no (by simp (disch := omega) only [nI_lit, nI_add, nI_mulE, nI_clampE, nI_eqE, nI_leE, nI_ltE, vp_nIE, true_and, and_true]; omega) (no (fun z => z rfl) (no (fun z => z rfl) ⟨9, ?_⟩))
    have hc : ∀ k, (nm i).getD k 0 < 128 := by
      intro k
      rcases Nat.lt_or_ge k (nm i).length with z | z
      · rw [gd_in z]; have := hr2.2.2 _ (List.getElem_mem z); omega
      · rw [gd_out z]; omega
    refine m_findI (nm := nm) hS hb hA (by omega) hr1 hc 8 0 true rfl (by omega) ?_
    have ih' := ih (i + 1) (by omega) (by omega)
    unfold wX12_find_j103
    by_cases hc2 : nm i = nml t n q
    · rw [Bool.true_and, (eq8_0 hr2 hv).mpr hc2, if_pos rfl]
      refine no (by decide) ?_
      unfold wX12_find_j115
      refine fe ?_
      rw [nI_1]
      have := fi_uq hu (by omega) hc2
      rw [this, if_pos (by omega)] at ih'
      exact ih'
    · rw [Bool.true_and, if_neg (fun z => hc2 ((eq8_0 hr2 hv).mp z))]
      refine yes rfl ?_
      unfold wX12_find_j115
      refine fe ?_
      rw [nI_1]
      have hne : fi nm N (nml t n q) ≠ i := fun z => hc2 (by have := fi_hit (nm := nm) (N := N) (l := nml t n q) (by omega); rw [z] at this; exact this)
      have e : (if fi nm N (nml t n q) < i + 1 then nI (fi nm N (nml t n q)) else (-1 : Int32)) = if fi nm N (nml t n q) < i then nI (fi nm N (nml t n q)) else -1 := by
        by_cases z : fi nm N (nml t n q) < i
        · rw [if_pos z, if_pos (by omega)]
        · rw [if_neg z, if_neg (by omega)]
      rw [e] at ih'
      exact ih'
/-- no fault yet; a fault -/
def MOk (σ : ab_S) : Prop := σ.2.1 92 44 = -1
def MBad (σ : ab_S) (f : Nat) : Prop := σ.2.1 92 44 = nI f ∧ f ≤ 2400
theorem m_goodY (h : MOk σ) {Q : Int32 → ab_S → Prop} (k : Q 1 σ) : wX12_good Q E σ := by
  unfold wX12_good
  rw [show σ.2.1 92 44 = -1 from h]
  exact no (by decide) k
theorem m_goodN {f : Nat} (h : MBad σ f) {Q : Int32 → ab_S → Prop} (k : Q 0 σ) : wX12_good Q E σ := by
  obtain ⟨h1, h2⟩ := h
  unfold wX12_good
  rw [h1]
  exact yes (by simp (disch := omega) only [nI_lit, nI_add, nI_mulE, nI_clampE, nI_eqE, nI_leE, nI_ltE, vp_nIE, true_and, and_true]; omega) k
theorem m_failY (h : MOk σ) {a : Int32} {Q : ab_S → Prop} (k : Q (ab_I σ 92 44 a)) : wX12_fail a Q E σ := by
  unfold wX12_fail
  rw [show σ.2.1 92 44 = -1 from h]
  exact no (by decide) (fe k)
theorem m_failN {f : Nat} (h : MBad σ f) {a : Int32} {Q : ab_S → Prop} (k : Q σ) : wX12_fail a Q E σ := by
  unfold wX12_fail
  refine yes (by rw [h.1]; have := h.2; simp (disch := omega) only [nI_lit, nI_add, nI_mulE, nI_clampE, nI_eqE, nI_leE, nI_ltE, vp_nIE, true_and, and_true]; omega) ?_
  unfold wX12_fail_j16
  refine fe ?_
  rw [ab_I_self]; exact k
theorem m_needB {f : Nat} (h : MBad σ f) {a : Int32} {Q : ab_S → Prop} (k : Q σ) : wX12_need a Q E σ := by
  unfold wX12_need
  have e : wX12_need_j16 a Q E σ := m_goodN h (yes rfl k)
  exact ⟨fun _ => e, fun _ => m_failN h e⟩
theorem mk_inj : ∀ k, k < 128 → vk k = true → ∀ w, w < 128 → sgn w = true → ((mk k = mk w) ↔ k = w) := by decide +kernel
/-- need: w the sign -/
theorem m_need (hS : MS σ t n q) (hG : MOk σ) {w : Nat} (hw : w < 128) (hw2 : sgn w = true) {a : Int32} (ha : a = nI (mk w)) {Q : ab_S → Prop} (h1 : tkK t n q = w → ∀ σ', FM Sadv σ σ' → MS σ' t n (nx t n q) → Q σ') (h0 : tkK t n q ≠ w → Q (ab_I σ 92 44 (nI q))) : wX12_need a Q E σ := by
  subst ha
  have hS2 := hS
  obtain ⟨hM, hqn, h41, h42, h40, h43⟩ := hS2
  have hm := mk_lt (tkK t n q) tkK_lt
  have hm2 := mk_lt w hw
  have hn := hM.1
  unfold wX12_need
  rw [h40]
  by_cases hc : tkK t n q = w
  · refine yes (by rw [hc]) ?_
    unfold wX12_need_j16
    refine m_goodY hG (no (by decide) ?_)
    exact m_next hS (fun σ' f s => h1 hc σ' f s)
  · refine no ?_ ?_
    · rw [nI_eqE (by omega) (by omega), mk_inj _ tkK_lt (tkK_vk t n q) w hw hw2]; exact hc
    · rw [h41]
      refine m_failY hG ?_
      unfold wX12_need_j16
      refine m_goodN (f := q) ⟨by simp [gI_I], by omega⟩ (yes rfl (h0 hc))
end ML
