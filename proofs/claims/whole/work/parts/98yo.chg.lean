/-! ===== change ===== -/
def cDf (vl vl' : Nat → Nat → VL8) (m : Nat) : Nat → Nat
  | 0 => 0
  | i + 1 => cDf vl vl' m i + (if vl' m i = vl m i then 0 else 1)
theorem cDf_z {vl vl' : Nat → Nat → VL8} {m c : Nat} (h : ∀ i, c ≤ i → vl' m i = vl m i) : ∀ d, cDf vl vl' m (c + d) = cDf vl vl' m c
  | 0 => rfl
  | d + 1 => by
    show cDf vl vl' m (c + d) + (if vl' m (c + d) = vl m (c + d) then 0 else 1) = _
    rw [if_pos (h _ (by omega)), cDf_z h d]; rfl
theorem sum8 {vl vl' : Nat → Nat → VL8} : ∀ k, sumF (fun z => if vl' (z / 8) (z % 8) = vl (z / 8) (z % 8) then 0 else 1) (8 * k) = sumF (fun m => cDf vl vl' m 8) k
  | 0 => rfl
  | k + 1 => by
    have H : ∀ i, i ≤ 8 → sumF (fun z => if vl' (z / 8) (z % 8) = vl (z / 8) (z % 8) then 0 else 1) (8 * k + i) = sumF (fun m => cDf vl vl' m 8) k + cDf vl vl' k i := by
      intro i
      induction i with
      | zero => intro _; exact sum8 k
      | succ i ih =>
        intro hi
        show sumF _ (8 * k + i) + (if vl' ((8 * k + i) / 8) ((8 * k + i) % 8) = vl ((8 * k + i) / 8) ((8 * k + i) % 8) then 0 else 1) = _ + (cDf vl vl' k i + _)
        rw [ih (by omega), show (8 * k + i) / 8 = k by omega, show (8 * k + i) % 8 = i by omega, Nat.add_assoc]
    exact H 8 (Nat.le_refl _)
theorem vB_nb (v : VL8) : vp_nar .boolean (vB v) = vB v := by
  cases v with
  | none => decide
  | some x =>
    show vp_nar .boolean (0 : Int32) = 0
    decide
theorem vBI {v w : VL8} (h1 : vB v = vB w) (h2 : vI v = vI w) : v = w := by
  cases v with
  | none =>
    cases w with
    | none => rfl
    | some y =>
      have h1 : (1 : Int32) = 0 := h1
      exact absurd h1 (by decide)
  | some x =>
    cases w with
    | none =>
      have h1 : (0 : Int32) = 1 := h1
      exact absurd h1 (by decide)
    | some y => exact congrArg some h2
section QX
variable {σ : ab_S} {A : AST} {g q x y : Nat} {a b d : Int32} {E : String → ab_S → Prop} {Q : Int32 → ab_S → Prop} {vl vl' : Nat → Nat → VL8}
theorem c_cCh (hC : CIv σ A g q x y) (hA : AOK A) (ht : A.ht = true) (h42 : ∀ m a, m < 250 → a < 8 → σ.2.2.1 42 (m * 8 + a) = vL (vl m a)) (k : Q (nI (sumF (fun m => cDf vl (val A.G A.T) m (A.G.1.2.2.1 (hdS A.G (A.T.pr m)))) A.T.N)) σ) : wX11_countChanged Q E σ := by
  have hg := hA.hg ht
  have hV := hA.gV hg
  have h12 := hV.1.1
  have hT := (hA.2.1 ht).2
  have hN := hT.2.1
  have hTr := (hC.2.2.2.2.2.2.1 ht).1
  refine ⟨A.T.N + 1, ?_⟩
  suffices H : ∀ f m, A.T.N - m = f → m ≤ A.T.N → wX11_countChanged_l4 Q E (f + 1) (nI (sumF (fun m => cDf vl (val A.G A.T) m (A.G.1.2.2.1 (hdS A.G (A.T.pr m)))) m)) (nI m) σ from H _ 0 rfl (Nat.zero_le _)
  intro f
  induction f with
  | zero =>
    intro m hf hm
    have e : m = A.T.N := by omega
    show wX11_countChanged_l4_b _ _ _ _ _ _
    unfold wX11_countChanged_l4_b
    refine ⟨x, hC.2.2.1.2.2.1, hC.2.1.2.2.2.1, ?_⟩
    rw [hTr.1]
    refine yes (by rw [e]; simp (disch := omega) only [nI_lit, nI_add, nI_mulE, nI_clampE, nI_eqE, nI_leE, nI_ltE, vp_nIE, true_and, and_true]; omega) ?_
    rw [e]; exact k
  | succ f ih =>
    intro m hf hm
    have hm1 : m < A.T.N := by omega
    have hp := (hT.2.2 m hm1).1.1
    have hs : hdS A.G (A.T.pr m) < A.G.1.1 := (hV.2.2.2 _ hp).2.1.2.1 0 (Nat.zero_le _)
    have h8 := (hV.1.2.2 _ hs).2.1
    have hcn : σ.2.1 (g + 2) (hdS A.G (A.T.pr m)) = nI (A.G.1.2.2.1 (hdS A.G (A.T.pr m))) := ((hC.2.2.2.2.2.1 hg).1.1.1.2.2.1.1.2 _ hs).2.1
    have ecs : (nI (hdS A.G (A.T.pr m))).toNatClampNeg = hdS A.G (A.T.pr m) := nI_clampE (by omega)
    have evs : vp_in (nI (hdS A.G (A.T.pr m))) 12 := by simp (disch := omega) only [nI_lit, nI_add, nI_mulE, nI_clampE, nI_eqE, nI_leE, nI_ltE, vp_nIE, true_and, and_true]; omega
    show wX11_countChanged_l4_b Q E (wX11_countChanged_l4 Q E (f + 1)) _ _ σ
    unfold wX11_countChanged_l4_b
    refine ⟨x, hC.2.2.1.2.2.1, hC.2.1.2.2.2.1, ?_⟩
    rw [hTr.1]
    refine no (by simp (disch := omega) only [nI_lit, nI_add, nI_mulE, nI_clampE, nI_eqE, nI_leE, nI_ltE, vp_nIE, true_and, and_true]; omega) ⟨A.G.1.2.2.1 (hdS A.G (A.T.pr m)) + 1, ?_⟩
    suffices H2 : ∀ f2 i, A.G.1.2.2.1 (hdS A.G (A.T.pr m)) - i = f2 → i ≤ A.G.1.2.2.1 (hdS A.G (A.T.pr m)) → wX11_countChanged_l17 Q E (wX11_countChanged_j72 Q E (wX11_countChanged_l4 Q E (f + 1))) (f2 + 1) (nI (sumF (fun m => cDf vl (val A.G A.T) m (A.G.1.2.2.1 (hdS A.G (A.T.pr m)))) m + cDf vl (val A.G A.T) m i)) (nI m) (nI i) σ from H2 _ 0 rfl (Nat.zero_le _)
    intro f2
    induction f2 with
    | zero =>
      intro i hi2 hi
      have e : i = A.G.1.2.2.1 (hdS A.G (A.T.pr m)) := by omega
      show wX11_countChanged_l17_b _ _ _ _ _ _ _ _
      unfold wX11_countChanged_l17_b
      refine ⟨g, hC.2.2.1.1, hC.2.1.1, c_syO hC hA ht hm1 ⟨evs, ?_⟩⟩
      rw [ecs, hcn]
      refine yes (by rw [e]; simp (disch := omega) only [nI_lit, nI_add, nI_mulE, nI_clampE, nI_eqE, nI_leE, nI_ltE, vp_nIE, true_and, and_true]; omega) ?_
      unfold wX11_countChanged_j72
      rw [nI_1, e]
      exact fe (ih (m + 1) (by omega) (by omega))
    | succ f2 ih2 =>
      intro i hi2 hi
      have hi1 : i < A.G.1.2.2.1 (hdS A.G (A.T.pr m)) := by omega
      have ec : nI m * (8 : Int32) + nI i = nI (m * 8 + i) := by show nI m * nI 8 + _ = _; rw [nI_mulE, nI_add]
      show wX11_countChanged_l17_b Q E (wX11_countChanged_j72 Q E (wX11_countChanged_l4 Q E (f + 1))) (wX11_countChanged_l17 Q E (wX11_countChanged_j72 Q E (wX11_countChanged_l4 Q E (f + 1))) (f2 + 1)) _ _ _ σ
      unfold wX11_countChanged_l17_b
      refine ⟨g, hC.2.2.1.1, hC.2.1.1, c_syO hC hA ht hm1 ⟨evs, ?_⟩⟩
      rw [ecs, hcn, ec]
      refine no (by simp (disch := omega) only [nI_lit, nI_add, nI_mulE, nI_clampE, nI_eqE, nI_leE, nI_ltE, vp_nIE, true_and, and_true]; omega) (fe ?_)
      rw [nI_clampE (show m * 8 + i < 2147483648 by omega), (hC.2.2.2.2.2.2.1 ht).2 m i (by omega) (by omega), h42 m i (by omega) (by omega)]
      refine ⟨by simp (disch := omega) only [nI_lit, nI_add, nI_mulE, nI_clampE, nI_eqE, nI_leE, nI_ltE, vp_nIE, true_and, and_true]; omega, by simp (disch := omega) only [nI_lit, nI_add, nI_mulE, nI_clampE, nI_eqE, nI_leE, nI_ltE, vp_nIE, true_and, and_true]; omega, ?_⟩
      have eS : cDf vl (val A.G A.T) m (i + 1) = cDf vl (val A.G A.T) m i + (if val A.G A.T m i = vl m i then 0 else 1) := rfl
      have IH := ih2 (i + 1) (by omega) (by omega)
      rw [eS] at IH
      unfold wX11_countChanged_j66
      by_cases hv : val A.G A.T m i = vl m i
      · rw [if_pos hv, Nat.add_zero] at IH
        refine yes ((lgc0 _ _).mpr (vL_eq.mpr hv)) ?_
        rw [nI_1]
        exact fe IH
      · rw [if_neg hv, ← Nat.add_assoc] at IH
        refine no (fun z => hv (vL_eq.mp ((lgc0 _ _).mp z))) ?_
        rw [nI_1, nI_1]
        exact fe (fe IH)
theorem m_cCh {N : Nat} (hN : N ≤ 250) (h53 : σ.2.1 92 53 = nI N) (hM : MVl σ vl') (h2 : ∀ k, k < 250 → ∀ a, a < 8 → σ.2.1 142 (8 * k + a) = vI (vl k a) ∧ σ.2.1 143 (8 * k + a) = vB (vl k a)) (k : Q (nI (sumF (fun m => cDf vl vl' m 8) N)) σ) : ∃ m, wX12_change_l151 a b Q E m 0 0 σ := by
  refine ⟨8 * N + 1, ?_⟩
  have e8 : (8 : Int32) * nI N = nI (8 * N) := by show nI 8 * nI N = _; rw [nI_mulE]
  suffices H : ∀ f z, 8 * N - z = f → z ≤ 8 * N → wX12_change_l151 a b Q E (f + 1) (nI (sumF (fun z => if vl' (z / 8) (z % 8) = vl (z / 8) (z % 8) then 0 else 1) z)) (nI z) σ from H _ 0 rfl (Nat.zero_le _)
  intro f
  induction f with
  | zero =>
    intro z hf hz
    have e : z = 8 * N := by omega
    show wX12_change_l151_b _ _ _ _ _ _ _ _
    unfold wX12_change_l151_b
    rw [h53, e8, e]
    refine yes (by simp (disch := omega) only [nI_lit, nI_add, nI_mulE, nI_clampE, nI_eqE, nI_leE, nI_ltE, vp_nIE, true_and, and_true]; omega) ?_
    rw [sum8]; exact k
  | succ f ih =>
    intro z hf hz
    have hk : z / 8 < 250 := by omega
    have hi : z % 8 < 8 := Nat.mod_lt _ (by omega)
    have ez : z = 8 * (z / 8) + z % 8 := by omega
    obtain ⟨a1, a2⟩ := hM (z / 8) hk (z % 8) hi
    obtain ⟨b1, b2⟩ := h2 (z / 8) hk (z % 8) hi
    rw [← ez] at a1 a2 b1 b2
    have ecz : (nI z).toNatClampNeg = z := nI_clampE (by omega)
    have evz : vp_in (nI z) 2000 := by simp (disch := omega) only [nI_lit, nI_add, nI_mulE, nI_clampE, nI_eqE, nI_leE, nI_ltE, vp_nIE, true_and, and_true]; omega
    have IH := ih (z + 1) (by omega) (by omega)
    have eS : sumF (fun z => if vl' (z / 8) (z % 8) = vl (z / 8) (z % 8) then 0 else 1) (z + 1) = sumF (fun z => if vl' (z / 8) (z % 8) = vl (z / 8) (z % 8) then 0 else 1) z + (if vl' (z / 8) (z % 8) = vl (z / 8) (z % 8) then 0 else 1) := rfl
    rw [eS] at IH
    show wX12_change_l151_b a b Q E (wX12_change_l151 a b Q E (f + 1)) _ _ σ
    unfold wX12_change_l151_b
    rw [h53, e8, ecz, a1, a2, b1, b2]
    refine no (by simp (disch := omega) only [nI_lit, nI_add, nI_mulE, nI_clampE, nI_eqE, nI_leE, nI_ltE, vp_nIE, true_and, and_true]; omega) ⟨evz, evz, ?_⟩
    unfold wX12_change_j197 wX12_change_j206
    rw [nI_1, nI_1]
    by_cases hv : vl' (z / 8) (z % 8) = vl (z / 8) (z % 8)
    · rw [if_pos hv, Nat.add_zero] at IH
      refine no (fun w => w (by rw [hv])) ⟨evz, evz, yes (by rw [hv]) (fe IH)⟩
    · rw [if_neg hv] at IH
      refine ⟨fun _ => fe IH, fun w => ⟨evz, evz, no (fun w2 => hv (vBI (Decidable.not_not.mp w) w2)) (fe IH)⟩⟩
theorem m_cpO (hM : MVl σ vl) {K : ab_S → Prop} (k : ∀ τ, FM (fun a _ => decide (a = 142 ∨ a = 143)) σ τ → (∀ k, k < 250 → ∀ a, a < 8 → τ.2.1 142 (8 * k + a) = vI (vl k a) ∧ τ.2.1 143 (8 * k + a) = vB (vl k a)) → K τ) : ∃ m, wX12_change_l92 a b Q E K m 0 σ := by
  refine ⟨2001, ?_⟩
  suffices H : ∀ f z τ, 2000 - z = f → z ≤ 2000 → FM (fun a _ => decide (a = 142 ∨ a = 143)) σ τ → (∀ k, k < 250 → ∀ a, a < 8 → 8 * k + a < z → τ.2.1 142 (8 * k + a) = vI (vl k a) ∧ τ.2.1 143 (8 * k + a) = vB (vl k a)) → wX12_change_l92 a b Q E K (f + 1) (nI z) τ from H _ 0 σ rfl (Nat.zero_le _) (FM.rf _ _) (fun k _ a _ h => absurd h (Nat.not_lt_zero _))
  intro f
  induction f with
  | zero =>
    intro z τ hf hz hF hI
    have e : z = 2000 := by omega
    show wX12_change_l92_b _ _ _ _ _ _ _ _
    unfold wX12_change_l92_b
    rw [e] at hI ⊢
    exact yes (by show nI 2000 ≤ _; simp (disch := omega) only [nI_lit, nI_add, nI_mulE, nI_clampE, nI_eqE, nI_leE, nI_ltE, vp_nIE, true_and, and_true]; omega) (k τ hF (fun k hk a ha => hI k hk a ha (by omega)))
  | succ f ih =>
    intro z τ hf hz hF hI
    have hk : z / 8 < 250 := by omega
    have hi : z % 8 < 8 := Nat.mod_lt _ (by omega)
    have ez : z = 8 * (z / 8) + z % 8 := by omega
    obtain ⟨a1, a2⟩ := hM (z / 8) hk (z % 8) hi
    rw [← ez] at a1 a2
    have ecz : (nI z).toNatClampNeg = z := nI_clampE (by omega)
    have evz : vp_in (nI z) 2000 := by simp (disch := omega) only [nI_lit, nI_add, nI_mulE, nI_clampE, nI_eqE, nI_leE, nI_ltE, vp_nIE, true_and, and_true]; omega
    show wX12_change_l92_b a b Q E K (wX12_change_l92 a b Q E K (f + 1)) _ τ
    unfold wX12_change_l92_b
    refine no (by show ¬ nI 2000 ≤ _; simp (disch := omega) only [nI_lit, nI_add, nI_mulE, nI_clampE, nI_eqE, nI_leE, nI_ltE, vp_nIE, true_and, and_true]; omega) ⟨evz, evz, fe ⟨evz, evz, fe ?_⟩⟩
    rw [ecz, gI_o (by decide), hF.1 _ _ (decide_eq_false (by omega)), hF.1 _ _ (decide_eq_false (by omega)), a1, a2, vB_nb, nI_1]
    refine fe (ih (z + 1) _ (by omega) (by omega) ((hF.I (decide_eq_true (by omega))).I (decide_eq_true (by omega))) (fun k hk a ha hz => ?_))
    rw [gI_o (by decide), gI_s, gI_s]
    by_cases e : 8 * k + a = z
    · rw [if_pos e, if_pos e, show z / 8 = k by omega, show z % 8 = a by omega]; exact ⟨rfl, rfl⟩
    · rw [if_neg e, gI_o (by decide), if_neg e]; exact hI k hk a ha (by omega)
end QX
