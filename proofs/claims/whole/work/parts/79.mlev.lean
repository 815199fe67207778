/-! ===== levels, the model's ===== -/
theorem B64.bit0 {v : Int64} {f : Nat → Bool} (h : B64 v f) {y : Nat} (hy : y < 32) : lg_cmp ((v >>> ((nI y).toInt64 &&& 63)) &&& (1 : Int64)) 0 = 0 ↔ f y = false := by
  rw [lgc0]
  constructor
  · intro z
    have h2 := congrArg (fun w => btL w 0) z
    simp only [bL_and, bL_0] at h2
    rw [bL_sshr y (by omega) _ (by omega), if_pos (by omega), Nat.add_zero, show btL 1 0 = true from by decide, Bool.and_true, h y (by omega), decide_eq_true hy, Bool.true_and] at h2
    exact h2
  · intro z
    apply bL_ext
    intro i hi
    rw [bL_and, bL_sshr y (by omega) _ hi, bL_1 i hi, bL_0]
    by_cases e : i = 0
    · subst e; rw [if_pos (by omega), Nat.add_zero, h y (by omega), z]; simp
    · rw [decide_eq_false e, Bool.and_false]
def mh (J : MX2) (n : Nat) (L : Nat → Nat) (a : Nat) : Prop := L a = 0 ∧ ∀ b, b < n → J b a = true → 0 < L b
def MLv (σ : ab_S) (s : Nat) (L : Nat → Nat) : Prop := ∀ a, a < 8 → σ.2.1 111 (8 * s + a) = nI (L a)
/-- within level k -/
def lMd (J : MX2) (dn : Nat → Bool) (n k : Nat) (L M : Nat → Nat) : Prop := ∀ a, M a = L a ∨ (M a = k ∧ lck J dn n k L a = true)
section LV
variable {J : MX2} {dn : Nat → Bool} {n k : Nat} {L M : Nat → Nat}
theorem lMd_add (hk : 0 < k) (hM : lMd J dn n k L M) {a : Nat} (ha : a < n) (hd : dn a = decide (k % 2 = 0)) (hm : mh J n M a) : lMd J dn n k L (uf M a k) := by
  have hL : L a = 0 := by rcases hM a with z | z; rw [← z]; exact hm.1; have := hm.1; omega
  have hc : lck J dn n k L a = true := by
    refine lck_i.mpr ⟨lfr_i.mpr ⟨ha, hL, hd⟩, fun b hb hj => ?_⟩
    have := hm.2 b hb hj
    rcases hM b with z | z
    · rw [z] at this; exact Or.inl this
    · exact Or.inr (lck_i.mp z.2).1
  intro b
  by_cases e : b = a
  · rw [e, uf_s]; exact Or.inr ⟨rfl, hc⟩
  · rw [uf_o _ _ e]; exact hM b
theorem lMd_end (hJ : lOd J n) (hk : 0 < k) (hM : lMd J dn n k L M) (hn : ∀ a, a < n → dn a = decide (k % 2 = 0) → ¬ mh J n M a) : M = lsk J dn n k L := by
  have H : ∀ a, lck J dn n k L a = true → M a = k := by
    refine l_ind hJ (fun a ih hc => ?_)
    have hf := lfr_i.mp (lck_i.mp hc).1
    apply Classical.byContradiction
    intro hne
    have h0 : M a = 0 := by
      rcases hM a with z | z
      · rw [z]; exact hf.2.1
      · exact absurd z.1 hne
    refine hn a hf.1 hf.2.2 ⟨h0, fun b hb hj => ?_⟩
    rcases lck_cl hJ hc hj with z | z
    · rcases hM b with w | w
      · rw [w]; exact z
      · rw [w.1]; exact hk
    · rw [ih b hj z]; exact hk
  funext a
  unfold lsk
  cases hc : lck J dn n k L a
  · rw [if_neg (by decide)]
    rcases hM a with z | z
    · exact z
    · rw [hc] at z; exact absurd z.2 Bool.false_ne_true
  · rw [if_pos rfl]; exact H a hc
theorem ldn_uf {a : Nat} (ha : a < n) (hM : M a = 0) (hk : 0 < k) : ldn n (uf M a k) = ldn n M + 1 := by
  unfold ldn
  have e : (fun i => decide (0 < uf M a k i)) = uf (fun i => decide (0 < M i)) a true := by
    funext i
    by_cases h : i = a
    · rw [h, uf_s, uf_s, decide_eq_true hk]
    · rw [uf_o _ _ h, uf_o _ _ h]
  rw [e, cnt_uf (by rw [hM]; rfl), if_pos ha]
theorem ldn_le (M : Nat → Nat) : ldn n M ≤ n := cnt_le _ _
theorem ldn_al : lal n M = true ↔ ldn n M = n := by
  constructor
  · intro h
    have := ldn_le (n := n) M
    rcases Nat.lt_or_ge (ldn n M) n with z | z
    · exfalso
      have H : ∀ m, m ≤ n → cnt (fun a => decide (0 < M a)) m = m := by
        intro m
        induction m with
        | zero => intro _; rfl
        | succ m ih => intro hm; rw [cnt, ih (by omega), decide_eq_true (lal_i.mp h m (by omega)), if_pos rfl]
      have := H n (Nat.le_refl _)
      unfold ldn at z; omega
    · omega
  · intro h; exact lal_n (by omega)
end LV
section ML
variable {σ : ab_S} {s n k : Nat} {J : MX2} {dn : Nat → Bool} {L M : Nat → Nat} {E : String → ab_S → Prop}
theorem m_may (hs : s < 12) (h8 : n ≤ 8) (hcn : σ.2.1 99 s = nI n) (hI : ∀ b, b < n → B64 (σ.2.2.1 110 (8 * s + b)) (J b)) (hM : MLv σ s M) (hb : ∀ a, M a < 100) {a : Nat} (ha : a < n) {Q : Int32 → ab_S → Prop} (h1 : mh J n M a → Q 1 σ) (h0 : ¬ mh J n M a → Q 0 σ) : wX12_mayHave (nI s) (nI a) Q E σ := by
  have e8 : ∀ z : Nat, (8 : Int32) * nI s + nI z = nI (8 * s + z) := fun z => by show nI 8 * nI s + _ = _; rw [nI_mulE, nI_add]
  have H : ∀ (x : Bool), (x = true ↔ M a = 0) → wX12_mayHave_j19 (nI s) (nI a) Q E (if x then 1 else 0) σ := by
    intro x hx
    unfold wX12_mayHave_j19
    refine ⟨n + 1, ?_⟩
    suffices H2 : ∀ f b (x : Bool), n - b = f → b ≤ n → (x = true ↔ M a = 0 ∧ ∀ b', b' < b → J b' a = true → 0 < M b') → wX12_mayHave_l23 (nI s) (nI a) Q E (f + 1) (if x then 1 else 0) (nI b) σ from H2 n 0 x rfl (Nat.zero_le _) ⟨fun z => ⟨hx.mp z, fun b' hb' => absurd hb' (by omega)⟩, fun z => hx.mpr z.1⟩
    intro f
    induction f with
    | zero =>
      intro b x hf hbn hx
      show wX12_mayHave_l23_b _ _ _ _ _ _ _ _
      unfold wX12_mayHave_l23_b
      rw [nI_clampE (by omega), hcn]
      refine ⟨by simp (disch := omega) only [nI_lit, nI_add, nI_mulE, nI_clampE, nI_eqE, nI_leE, nI_ltE, vp_nIE, true_and, and_true]; omega, yes (by simp (disch := omega) only [nI_lit, nI_add, nI_mulE, nI_clampE, nI_eqE, nI_leE, nI_ltE, vp_nIE, true_and, and_true]; omega) ⟨by cases x <;> simp, ?_⟩⟩
      have hb2 : b = n := by omega
      rw [hb2] at hx
      cases x
      · exact h0 (fun z => absurd (hx.mpr z) Bool.false_ne_true)
      · exact h1 (hx.mp rfl)
    | succ f ih =>
      intro b x hf hbn hx
      show wX12_mayHave_l23_b (nI s) (nI a) Q E (wX12_mayHave_l23 (nI s) (nI a) Q E (f + 1)) _ (nI b) σ
      unfold wX12_mayHave_l23_b
      rw [e8, nI_clampE (show s < 2147483648 by omega), nI_clampE (show 8 * s + b < 2147483648 by omega), hcn]
      refine ⟨by simp (disch := omega) only [nI_lit, nI_add, nI_mulE, nI_clampE, nI_eqE, nI_leE, nI_ltE, vp_nIE, true_and, and_true]; omega, no (by simp (disch := omega) only [nI_lit, nI_add, nI_mulE, nI_clampE, nI_eqE, nI_leE, nI_ltE, vp_nIE, true_and, and_true]; omega) ?_⟩
      have ev : vp_in (nI (8 * s + b)) 104 := by simp (disch := omega) only [nI_lit, nI_add, nI_mulE, nI_clampE, nI_eqE, nI_leE, nI_ltE, vp_nIE, true_and, and_true]; omega
      have go : ∀ y : Bool, (y = true ↔ M a = 0 ∧ ∀ b', b' < b + 1 → J b' a = true → 0 < M b') → wX12_mayHave_j79 (nI s) (nI a) Q E (wX12_mayHave_l23 (nI s) (nI a) Q E (f + 1)) (nI b) (if y then 1 else 0) σ := by
        intro y hy
        unfold wX12_mayHave_j79
        rw [nI_1]
        exact fe (ih (b + 1) y (by omega) (by omega) hy)
      cases x
      · refine yes rfl ?_
        unfold wX12_mayHave_j78
        exact go false ⟨fun z => absurd z Bool.false_ne_true, fun z => absurd (hx.mpr ⟨z.1, fun b' hb' => z.2 b' (by omega)⟩) Bool.false_ne_true⟩
      · refine no (by decide) ⟨ev, ?_⟩
        have hbit := (hI b (by omega)).bit0 (y := a) (by omega)
        have hx := hx.mp rfl
        cases hj : J b a
        · refine yes (hbit.mpr hj) ?_
          unfold wX12_mayHave_j74
          refine go true ⟨fun _ => ⟨hx.1, fun b' hb' hj' => ?_⟩, fun _ => rfl⟩
          by_cases e : b' = b
          · rw [e, hj] at hj'; exact absurd hj' Bool.false_ne_true
          · exact hx.2 b' (by omega) hj'
        · refine no (fun z => by rw [hbit.mp z] at hj; exact absurd hj (by decide)) ⟨ev, ?_⟩
          rw [hM b (by omega)]
          have hb100 := hb b
          rcases Nat.eq_zero_or_pos (M b) with z | z
          · refine yes (by rw [z]; decide) ?_
            unfold wX12_mayHave_j78
            exact go false ⟨fun w => absurd w Bool.false_ne_true, fun w => by have := w.2 b (by omega) hj; omega⟩
          · refine no (by show ¬ nI (M b) ≤ nI 0; simp (disch := omega) only [nI_lit, nI_add, nI_mulE, nI_clampE, nI_eqE, nI_leE, nI_ltE, vp_nIE, true_and, and_true]; omega) ?_
            unfold wX12_mayHave_j74
            refine go true ⟨fun _ => ⟨hx.1, fun b' hb' hj' => ?_⟩, fun _ => rfl⟩
            by_cases e : b' = b
            · rw [e]; exact z
            · exact hx.2 b' (by omega) hj'
  unfold wX12_mayHave
  rw [e8, nI_clampE (by omega), hM a (by omega)]
  have hb100 := hb a
  refine ⟨by simp (disch := omega) only [nI_lit, nI_add, nI_mulE, nI_clampE, nI_eqE, nI_leE, nI_ltE, vp_nIE, true_and, and_true]; omega, ?_⟩
  by_cases z : M a = 0
  · exact no (fun w => w (by rw [z]; rfl)) (H true ⟨fun _ => z, fun _ => rfl⟩)
  · exact yes (by show ¬ nI (M a) = nI 0; rw [nI_eqE (by omega) (by omega)]; exact z) (H false ⟨fun w => absurd w Bool.false_ne_true, fun w => absurd w z⟩)
def Slm (s : Nat) : Nat → Nat → Bool := fun a i => decide (a = 111 ∧ 8 * s ≤ i ∧ i < 8 * s + 8)
/-- what the model's loop knows -/
def mLf (σ : ab_S) (s n : Nat) (dn : Nat → Bool) (J : MX2) : Prop := s < 12 ∧ n ≤ 8 ∧ σ.2.1 99 s = nI n ∧ σ.2.1 100 s = bm dn n ∧ ∀ b, b < n → B64 (σ.2.2.1 110 (8 * s + b)) (J b)
theorem mLf.fm {σ' : ab_S} (h : mLf σ s n dn J) (f : FM (Slm s) σ σ') : mLf σ' s n dn J := by
  obtain ⟨a, b, c, d, e⟩ := h
  exact ⟨a, b, by rw [f.1 _ _ (decide_eq_false (by omega))]; exact c, by rw [f.1 _ _ (decide_eq_false (by omega))]; exact d, fun x hx => by rw [f.2.1 _ _ (decide_eq_false (by omega))]; exact e x hx⟩
/-- one sweep -/
theorem m_swp (σ0 : ab_S) (hf0 : mLf σ0 s n dn J) (hk : 0 < k) (hk2 : k < 12) {m0 : Nat} {Q : ab_S → Prop} {K148 : Int32 → Int32 → Int32 → Int32 → ab_S → Prop} {M0 : Nat → Nat} (h : ∀ τ M (b : Bool), FM (Slm s) σ0 τ → MLv τ s M → lMd J dn n k L M → (∀ a, M a < 100) → (b = true → ldn n M0 < ldn n M) → (b = false → M = M0 ∧ ∀ a, a < n → dn a = decide (k % 2 = 0) → ¬ mh J n M0 a) → K148 (nI (n - ldn n M)) (nI (if ldn n L < ldn n M then k else m0)) (nI k) (if b then 1 else 0) τ) : ∀ f a τ M (b : Bool), n - a = f → a ≤ n → FM (Slm s) σ0 τ → MLv τ s M → lMd J dn n k L M → (∀ a, M a < 100) → ldn n L ≤ ldn n M → (b = true → ldn n M0 < ldn n M) → (b = false → M = M0 ∧ ∀ a', a' < a → dn a' = decide (k % 2 = 0) → ¬ mh J n M0 a') → ldn n M0 ≤ ldn n M → wX12_giveLevels_l59 (nI s) Q E K148 (f + 1) (nI (n - ldn n M)) (nI (if ldn n L < ldn n M then k else m0)) (nI k) (if b then 1 else 0) (nI a) τ := by
  intro f
  induction f with
  | zero =>
    intro a τ M b hf ha hF hM hMd hB hLe h1 h0 hle
    obtain ⟨g1, g2, g3, g4, g5⟩ := hf0.fm hF
    show wX12_giveLevels_l59_b _ _ _ _ _ _ _ _ _ _ _
    unfold wX12_giveLevels_l59_b
    rw [nI_clampE (by omega), g3]
    refine ⟨by simp (disch := omega) only [nI_lit, nI_add, nI_mulE, nI_clampE, nI_eqE, nI_leE, nI_ltE, vp_nIE, true_and, and_true]; omega, yes (by simp (disch := omega) only [nI_lit, nI_add, nI_mulE, nI_clampE, nI_eqE, nI_leE, nI_ltE, vp_nIE, true_and, and_true]; omega) (h τ M b hF hM hMd hB h1 (fun z => ⟨(h0 z).1, fun a' ha' => (h0 z).2 a' (by omega)⟩))⟩
  | succ f ih =>
    intro a τ M b hf ha hF hM hMd hB hLe h1 h0 hle
    obtain ⟨g1, g2, g3, g4, g5⟩ := hf0.fm hF
    have hal : a < n := by omega
    show wX12_giveLevels_l59_b (nI s) Q E K148 (wX12_giveLevels_l59 (nI s) Q E K148 (f + 1)) _ _ _ _ (nI a) τ
    unfold wX12_giveLevels_l59_b
    rw [nI_clampE (by omega), g3, g4]
    have evs : vp_in (nI s) 13 := by simp (disch := omega) only [nI_lit, nI_add, nI_mulE, nI_clampE, nI_eqE, nI_leE, nI_ltE, vp_nIE, true_and, and_true]; omega
    refine ⟨evs, no (by simp (disch := omega) only [nI_lit, nI_add, nI_mulE, nI_clampE, nI_eqE, nI_leE, nI_ltE, vp_nIE, true_and, and_true]; omega) ⟨evs, ?_⟩⟩
    have hbd := b_one (bm dn n) (a := a) (by omega)
    rw [bm_bt (by omega) (by omega), decide_eq_true hal, Bool.true_and] at hbd
    have skip : (dn a = decide (k % 2 = 0) → ¬ mh J n M a) → wX12_giveLevels_j142 (nI s) Q E K148 (wX12_giveLevels_l59 (nI s) Q E K148 (f + 1)) (nI (n - ldn n M)) (nI (if ldn n L < ldn n M then k else m0)) (nI k) (if b then 1 else 0) (nI a) τ := by
      intro hno
      unfold wX12_giveLevels_j142
      rw [nI_1]
      refine fe (ih (a + 1) τ M b (by omega) (by omega) hF hM hMd hB hLe h1 (fun z => ⟨(h0 z).1, fun a' ha' hd' => ?_⟩) hle)
      by_cases e : a' = a
      · rw [e] at hd' ⊢
        rw [← (h0 z).1]; exact hno hd'
      · exact (h0 z).2 a' (by omega) hd'
    have j106 : ∀ y0 : Bool, wX12_giveLevels_j106 (nI s) Q E K148 (wX12_giveLevels_l59 (nI s) Q E K148 (f + 1)) (nI (n - ldn n M)) (nI (if ldn n L < ldn n M then k else m0)) (nI k) (if b then 1 else 0) (nI a) (if decide (k % 2 = 0) then 1 else 0) (if dn a then 1 else 0) τ := by
      intro _
      unfold wX12_giveLevels_j106
      by_cases hd : dn a = decide (k % 2 = 0)
      · rw [hd]
        refine no (fun z => z rfl) ?_
        refine m_may g1 g2 g3 g5 hM hB hal (fun hm => no (by decide) ?_) (fun hm => yes rfl (skip (fun _ => hm)))
        have e8 : (8 : Int32) * nI s + nI a = nI (8 * s + a) := by show nI 8 * nI s + _ = _; rw [nI_mulE, nI_add]
        rw [e8, nI_clampE (by omega)]
        refine ⟨by simp (disch := omega) only [nI_lit, nI_add, nI_mulE, nI_clampE, nI_eqE, nI_leE, nI_ltE, vp_nIE, true_and, and_true]; omega, fe (fe ?_)⟩
        unfold wX12_giveLevels_j142
        have hlt := ldn_uf (M := M) (k := k) hal hm.1 hk
        have hln := ldn_le (n := n) (uf M a k)
        have e1 : nI (n - ldn n M) - 1 = nI (n - ldn n (uf M a k)) := by
          rw [show n - ldn n M = n - ldn n (uf M a k) + 1 by omega]; exact nI_pred _
        have e2 : nI k = nI (if ldn n L < ldn n (uf M a k) then k else m0) := by rw [if_pos (by omega)]
        rw [e1, nI_1]
        refine fe ?_
        have := ih (a + 1) (ab_I τ 111 (8 * s + a) (nI k)) (uf M a k) true (by omega) (by omega) (hF.I (decide_eq_true (by omega))) (fun c hc => ?_) (lMd_add hk hMd hal hd hm) (fun c => ?_) (by omega) (fun _ => by omega) (fun z => absurd z (by decide)) (by omega)
        · rw [← e2] at this
          exact this
        · rw [gI_I, if_pos rfl]
          by_cases e : c = a
          · rw [e, uf_s, if_pos rfl]
          · rw [uf_o _ _ e, if_neg (by omega)]; exact hM c hc
        · by_cases e : c = a
          · rw [e, uf_s]; omega
          · rw [uf_o _ _ e]; exact hB c
      · refine yes (fun z => hd ?_) (skip (fun z => absurd z hd))
        cases hx : dn a <;> cases hy : decide (k % 2 = 0)
        · rfl
        · rw [hx, hy] at z; exact absurd z (by decide)
        · rw [hx, hy] at z; exact absurd z (by decide)
        · rfl
    have j90 : wX12_giveLevels_j90 (nI s) Q E K148 (wX12_giveLevels_l59 (nI s) Q E K148 (f + 1)) (nI (n - ldn n M)) (nI (if ldn n L < ldn n M then k else m0)) (nI k) (if b then 1 else 0) (nI a) (if dn a then 1 else 0) τ := by
      unfold wX12_giveLevels_j90
      rw [i_mod2 k hk2]
      have := j106 true
      by_cases hp : k % 2 = 0
      · rw [decide_eq_true hp] at this
        exact no (fun z => z (by rw [hp]; rfl)) this
      · rw [decide_eq_false hp] at this
        exact yes (by rw [show k % 2 = 1 by omega]; decide) this
    cases hd : dn a
    · rw [hd] at j90
      exact yes (fun z => by rw [hbd.mp z] at hd; exact absurd hd (by decide)) j90
    · rw [hd] at j90
      exact no (fun z => z (hbd.mpr hd)) j90
/-- a level -/
theorem m_lv1 (hJ : lOd J n) (σ0 : ab_S) (hf0 : mLf σ0 s n dn J) (hk : 0 < k) (hk2 : k < 12) (hLb : ∀ a, L a < 100) {m0 : Nat} {Q : ab_S → Prop} {K151 : Int32 → Int32 → Int32 → ab_S → Prop} (h : ∀ τ, FM (Slm s) σ0 τ → MLv τ s (lsk J dn n k L) → K151 (nI (n - ldn n (lsk J dn n k L))) (nI (if ldn n L < ldn n (lsk J dn n k L) then k else m0)) (nI k) τ) : ∀ f M τ, n ≤ f + ldn n M → FM (Slm s) σ0 τ → MLv τ s M → lMd J dn n k L M → (∀ a, M a < 100) → ldn n L ≤ ldn n M → wX12_giveLevels_l48 (nI s) Q E K151 (f + 2) (nI (n - ldn n M)) (nI (if ldn n L < ldn n M then k else m0)) (nI k) 1 τ := by
  intro f
  induction f with
  | zero =>
    intro M τ hf hF hM hMd hB hLe
    show wX12_giveLevels_l48_b (nI s) Q E K151 (wX12_giveLevels_l48 (nI s) Q E K151 1) _ _ _ 1 τ
    unfold wX12_giveLevels_l48_b
    refine no (by decide) ⟨n + 1, ?_⟩
    refine m_swp (L := L) (M0 := M) (m0 := m0) τ (hf0.fm hF) hk hk2 (fun τ2 M2 b F2 h2 hMd2 hB2 h1 h0 => ?_) n 0 τ M false rfl (Nat.zero_le _) (FM.rf _ _) hM hMd hB hLe (fun z => absurd z (by decide)) (fun _ => ⟨rfl, fun a' ha' => absurd ha' (by omega)⟩) (Nat.le_refl _)
    unfold wX12_giveLevels_j148
    cases b
    · obtain ⟨e, hn⟩ := h0 rfl
      subst e
      have := lMd_end hJ hk hMd2 hn
      show wX12_giveLevels_l48_b (nI s) Q E K151 _ _ _ _ (if false = true then 1 else 0) τ2
      unfold wX12_giveLevels_l48_b
      rw [this] at h2 ⊢
      exact yes rfl (h τ2 (hF.tr F2) h2)
    · have := h1 rfl
      have := ldn_le (n := n) M2
      omega
  | succ f ih =>
    intro M τ hf hF hM hMd hB hLe
    show wX12_giveLevels_l48_b (nI s) Q E K151 (wX12_giveLevels_l48 (nI s) Q E K151 (f + 2)) _ _ _ 1 τ
    unfold wX12_giveLevels_l48_b
    refine no (by decide) ⟨n + 1, ?_⟩
    refine m_swp (L := L) (M0 := M) (m0 := m0) τ (hf0.fm hF) hk hk2 (fun τ2 M2 b F2 h2 hMd2 hB2 h1 h0 => ?_) n 0 τ M false rfl (Nat.zero_le _) (FM.rf _ _) hM hMd hB hLe (fun z => absurd z (by decide)) (fun _ => ⟨rfl, fun a' ha' => absurd ha' (by omega)⟩) (Nat.le_refl _)
    unfold wX12_giveLevels_j148
    cases b
    · obtain ⟨e, hn⟩ := h0 rfl
      subst e
      have := lMd_end hJ hk hMd2 hn
      show wX12_giveLevels_l48_b (nI s) Q E K151 (wX12_giveLevels_l48 (nI s) Q E K151 (f + 1)) _ _ _ (if false = true then 1 else 0) τ2
      unfold wX12_giveLevels_l48_b
      rw [this] at h2 ⊢
      exact yes rfl (h τ2 (hF.tr F2) h2)
    · have := h1 rfl
      exact ih M2 τ2 (by omega) (hF.tr F2) h2 hMd2 hB2 (by omega)
end ML
