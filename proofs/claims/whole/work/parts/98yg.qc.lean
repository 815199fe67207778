/-! ===== count, the class's ===== -/
def sumF (f : Nat → Nat) : Nat → Nat
  | 0 => 0
  | k + 1 => sumF f k + f k
noncomputable def cEr (Γ : GRT) (T : TST) (m : Nat) : Nat → Nat := cnt (fun i => (val Γ T m i).isNone)
noncomputable def frN (Γ : GRT) (T : TST) (m : Nat) : Nat := frA Γ (T.pr m) (rt Γ (T.pr m) + 1)
noncomputable def fAF (Γ : GRT) (T : TST) : Nat → Nat → Nat
  | 0, _ => 0
  | f + 1, m => frN Γ T m + (if T.pa m = 0 then 0 else fAF Γ T f (T.pa m - 1))
noncomputable def fAb (Γ : GRT) (T : TST) (m : Nat) : Nat := fAF Γ T (m + 1) m
noncomputable def fMx (Γ : GRT) (T : TST) : Nat → Nat
  | 0 => 0
  | k + 1 => max (fMx Γ T k) (fAb Γ T k)
section QC
variable {Γ : GRT} {T : TST}
theorem fAF_s (hT : TOK Γ T) : ∀ f m, m < T.N → m < f → fAF Γ T f m = fAb Γ T m
  | 0, m, _, h => absurd h (Nat.not_lt_zero _)
  | f + 1, m, hm, hf => by
    have hle := (hT.2.2 m hm).1.2.1
    unfold fAb
    show frN Γ T m + _ = frN Γ T m + _
    by_cases e : T.pa m = 0
    · rw [if_pos e, if_pos e]
    · rw [if_neg e, if_neg e, fAF_s hT f _ (by omega) (by omega)]
      by_cases q : m = T.pa m - 1 + 1
      · rw [fAb, ← q]
      · have := fAF_s hT m (T.pa m - 1) (by omega) (by omega)
        rw [this]
theorem fAb_e (hT : TOK Γ T) {m : Nat} (hm : m < T.N) : fAb Γ T m = frN Γ T m + (if T.pa m = 0 then 0 else fAb Γ T (T.pa m - 1)) := by
  have hle := (hT.2.2 m hm).1.2.1
  show fAF Γ T (m + 1) m = _
  show frN Γ T m + _ = _
  by_cases e : T.pa m = 0
  · rw [if_pos e, if_pos e]
  · rw [if_neg e, if_neg e, fAF_s hT m _ (by omega) (by omega)]
theorem frN_le (hV : GRV Γ) (hT : TOK Γ T) {m : Nat} (hm : m < T.N) : frN Γ T m ≤ 32 := by
  have hp := (hT.2.2 m hm).1.1
  have h3 : rt Γ (T.pr m) ≤ 3 := (hV.2.2.2 _ hp).2.1.1
  have := frA_le Γ hV hp (rt Γ (T.pr m) + 1) (Nat.le_refl _)
  unfold frN; omega
theorem fAb_le (hV : GRV Γ) (hT : TOK Γ T) : ∀ f m, m < f → m < T.N → fAb Γ T m ≤ 32 * (m + 1)
  | 0, _, h, _ => absurd h (Nat.not_lt_zero _)
  | f + 1, m, hf, hm => by
    have hle := (hT.2.2 m hm).1.2.1
    have h1 := frN_le hV hT hm
    rw [fAb_e hT hm]
    by_cases e : T.pa m = 0
    · rw [if_pos e]; omega
    · rw [if_neg e]
      have := fAb_le hV hT f (T.pa m - 1) (by omega) (by omega)
      omega
theorem fMx_le (hV : GRV Γ) (hT : TOK Γ T) : ∀ k, k ≤ T.N → fMx Γ T k ≤ 32 * k
  | 0, _ => Nat.le_refl _
  | k + 1, h => by
    have a := fMx_le hV hT k (by omega)
    have b := fAb_le hV hT (k + 1) k (Nat.lt_succ_self _) (by omega)
    show max (fMx Γ T k) (fAb Γ T k) ≤ _
    omega
end QC
section QX
variable {σ : ab_S} {A : AST} {g q x y : Nat} {a b d : Int32} {E : String → ab_S → Prop} {Q : Int32 → ab_S → Prop}
/-- a loop over all nodes -/
theorem c_cAt (hC : CIv σ A g q x y) (hA : AOK A) (ht : A.ht = true) (k : Q (nI (sumF (fun m => A.G.1.2.2.1 (hdS A.G (A.T.pr m))) A.T.N)) σ) : wX11_countAttributes Q E σ := by
  have hg := hA.hg ht
  have hV := hA.gV hg
  have h12 := hV.1.1
  have hT := (hA.2.1 ht).2
  have hN := hT.2.1
  have hTr := (hC.2.2.2.2.2.2.1 ht).1
  refine ⟨A.T.N + 1, ?_⟩
  suffices H : ∀ f m, A.T.N - m = f → m ≤ A.T.N → wX11_countAttributes_l4 Q E (f + 1) (nI (sumF (fun m => A.G.1.2.2.1 (hdS A.G (A.T.pr m))) m)) (nI m) σ from H _ 0 rfl (Nat.zero_le _)
  intro f
  induction f with
  | zero =>
    intro m hf hm
    have e : m = A.T.N := by omega
    show wX11_countAttributes_l4_b _ _ _ _ _ _
    unfold wX11_countAttributes_l4_b
    refine ⟨x, hC.2.2.1.2.2.1, hC.2.1.2.2.2.1, ?_⟩
    rw [hTr.1]
    refine yes (by rw [e]; simp (disch := omega) only [nI_lit, nI_add, nI_mulE, nI_clampE, nI_eqE, nI_leE, nI_ltE, vp_nIE, true_and, and_true]; omega) ?_
    rw [e]; exact k
  | succ f ih =>
    intro m hf hm
    have hm1 : m < A.T.N := by omega
    have hp := (hT.2.2 m hm1).1.1
    have hs : hdS A.G (A.T.pr m) < A.G.1.1 := (hV.2.2.2 _ hp).2.1.2.1 0 (Nat.zero_le _)
    show wX11_countAttributes_l4_b Q E (wX11_countAttributes_l4 Q E (f + 1)) _ _ σ
    unfold wX11_countAttributes_l4_b
    refine ⟨x, hC.2.2.1.2.2.1, hC.2.1.2.2.2.1, ?_⟩
    rw [hTr.1]
    refine no (by simp (disch := omega) only [nI_lit, nI_add, nI_mulE, nI_clampE, nI_eqE, nI_leE, nI_ltE, vp_nIE, true_and, and_true]; omega) ⟨g, hC.2.2.1.1, hC.2.1.1, c_syO hC hA ht hm1 ⟨by simp (disch := omega) only [nI_lit, nI_add, nI_mulE, nI_clampE, nI_eqE, nI_leE, nI_ltE, vp_nIE, true_and, and_true]; omega, ?_⟩⟩
    rw [nI_clampE (show hdS A.G (A.T.pr m) < 2147483648 by omega), ((hC.2.2.2.2.2.1 hg).1.1.1.2.2.1.1.2 _ hs).2.1, nI_add, nI_1]
    exact fe (fe (ih (m + 1) (by omega) (by omega)))
theorem c_cVi (hC : CIv σ A g q x y) (hA : AOK A) (ht : A.ht = true) (k : Q (nI (sumF (fun m => svs A.G (hdS A.G (A.T.pr m))) A.T.N)) σ) : wX11_countVisits Q E σ := by
  have hg := hA.hg ht
  have hV := hA.gV hg
  have h12 := hV.1.1
  have hT := (hA.2.1 ht).2
  have hN := hT.2.1
  have hTr := (hC.2.2.2.2.2.2.1 ht).1
  refine ⟨A.T.N + 1, ?_⟩
  suffices H : ∀ f m, A.T.N - m = f → m ≤ A.T.N → wX11_countVisits_l4 Q E (f + 1) (nI (sumF (fun m => svs A.G (hdS A.G (A.T.pr m))) m)) (nI m) σ from H _ 0 rfl (Nat.zero_le _)
  intro f
  induction f with
  | zero =>
    intro m hf hm
    have e : m = A.T.N := by omega
    show wX11_countVisits_l4_b _ _ _ _ _ _
    unfold wX11_countVisits_l4_b
    refine ⟨x, hC.2.2.1.2.2.1, hC.2.1.2.2.2.1, ?_⟩
    rw [hTr.1]
    refine yes (by rw [e]; simp (disch := omega) only [nI_lit, nI_add, nI_mulE, nI_clampE, nI_eqE, nI_leE, nI_ltE, vp_nIE, true_and, and_true]; omega) ?_
    rw [e]; exact k
  | succ f ih =>
    intro m hf hm
    have hm1 : m < A.T.N := by omega
    have hp := (hT.2.2 m hm1).1.1
    have hs : hdS A.G (A.T.pr m) < A.G.1.1 := (hV.2.2.2 _ hp).2.1.2.1 0 (Nat.zero_le _)
    show wX11_countVisits_l4_b Q E (wX11_countVisits_l4 Q E (f + 1)) _ _ σ
    unfold wX11_countVisits_l4_b
    refine ⟨x, hC.2.2.1.2.2.1, hC.2.1.2.2.2.1, ?_⟩
    rw [hTr.1]
    refine no (by simp (disch := omega) only [nI_lit, nI_add, nI_mulE, nI_clampE, nI_eqE, nI_leE, nI_ltE, vp_nIE, true_and, and_true]; omega) ⟨g, hC.2.2.1.1, hC.2.1.1, c_syO hC hA ht hm1 ⟨by simp (disch := omega) only [nI_lit, nI_add, nI_mulE, nI_clampE, nI_eqE, nI_leE, nI_ltE, vp_nIE, true_and, and_true]; omega, ?_⟩⟩
    rw [nI_clampE (show hdS A.G (A.T.pr m) < 2147483648 by omega), ((hC.2.2.2.2.2.1 hg).1.1.1.2.2.2 _ hs).2, nI_add, nI_1]
    exact fe (fe (ih (m + 1) (by omega) (by omega)))
theorem c_cKe (hC : CIv σ A g q x y) (hA : AOK A) (ht : A.ht = true) (k : Q (nI (sumF (fun m => cSt A.G (hdS A.G (A.T.pr m)) 2 (A.G.1.2.2.1 (hdS A.G (A.T.pr m)))) A.T.N)) σ) : wX11_countKept Q E σ := by
  have hg := hA.hg ht
  have hV := hA.gV hg
  have h12 := hV.1.1
  have hT := (hA.2.1 ht).2
  have hN := hT.2.1
  have hTr := (hC.2.2.2.2.2.2.1 ht).1
  refine ⟨A.T.N + 1, ?_⟩
  suffices H : ∀ f m, A.T.N - m = f → m ≤ A.T.N → wX11_countKept_l4 Q E (f + 1) (nI (sumF (fun m => cSt A.G (hdS A.G (A.T.pr m)) 2 (A.G.1.2.2.1 (hdS A.G (A.T.pr m)))) m)) (nI m) σ from H _ 0 rfl (Nat.zero_le _)
  intro f
  induction f with
  | zero =>
    intro m hf hm
    have e : m = A.T.N := by omega
    show wX11_countKept_l4_b _ _ _ _ _ _
    unfold wX11_countKept_l4_b
    refine ⟨x, hC.2.2.1.2.2.1, hC.2.1.2.2.2.1, ?_⟩
    rw [hTr.1]
    refine yes (by rw [e]; simp (disch := omega) only [nI_lit, nI_add, nI_mulE, nI_clampE, nI_eqE, nI_leE, nI_ltE, vp_nIE, true_and, and_true]; omega) ?_
    rw [e]; exact k
  | succ f ih =>
    intro m hf hm
    have hm1 : m < A.T.N := by omega
    have hp := (hT.2.2 m hm1).1.1
    have hs : hdS A.G (A.T.pr m) < A.G.1.1 := (hV.2.2.2 _ hp).2.1.2.1 0 (Nat.zero_le _)
    have h8 := (hV.1.2.2 _ hs).2.1
    show wX11_countKept_l4_b Q E (wX11_countKept_l4 Q E (f + 1)) _ _ σ
    unfold wX11_countKept_l4_b
    refine ⟨x, hC.2.2.1.2.2.1, hC.2.1.2.2.2.1, ?_⟩
    rw [hTr.1]
    refine no (by simp (disch := omega) only [nI_lit, nI_add, nI_mulE, nI_clampE, nI_eqE, nI_leE, nI_ltE, vp_nIE, true_and, and_true]; omega) (c_syO hC hA ht hm1 (c_cA (a := 8) (k := 2) (hC.2.2.2.2.2.1 hg).1 hV hs (by omega) (by omega) ?_))
    rw [Nat.min_eq_right h8, nI_add, nI_1]
    exact fe (fe (ih (m + 1) (by omega) (by omega)))
theorem c_cEr (hC : CIv σ A g q x y) (hA : AOK A) (ht : A.ht = true) (k : Q (nI (sumF (fun m => cEr A.G A.T m (A.G.1.2.2.1 (hdS A.G (A.T.pr m)))) A.T.N)) σ) : wX11_countErrors Q E σ := by
  have hg := hA.hg ht
  have hV := hA.gV hg
  have h12 := hV.1.1
  have hT := (hA.2.1 ht).2
  have hN := hT.2.1
  have hTr := (hC.2.2.2.2.2.2.1 ht).1
  refine ⟨A.T.N + 1, ?_⟩
  suffices H : ∀ f m, A.T.N - m = f → m ≤ A.T.N → wX11_countErrors_l4 Q E (f + 1) (nI (sumF (fun m => cEr A.G A.T m (A.G.1.2.2.1 (hdS A.G (A.T.pr m)))) m)) (nI m) σ from H _ 0 rfl (Nat.zero_le _)
  intro f
  induction f with
  | zero =>
    intro m hf hm
    have e : m = A.T.N := by omega
    show wX11_countErrors_l4_b _ _ _ _ _ _
    unfold wX11_countErrors_l4_b
    refine ⟨x, hC.2.2.1.2.2.1, hC.2.1.2.2.2.1, ?_⟩
    rw [hTr.1]
    refine yes (by rw [e]; simp (disch := omega) only [nI_lit, nI_add, nI_mulE, nI_clampE, nI_eqE, nI_leE, nI_ltE, vp_nIE, true_and, and_true]; omega) ?_
    rw [e]; exact k
  | succ f ih =>
    intro m hf hm
    have hm1 : m < A.T.N := by omega
    have hp := (hT.2.2 m hm1).1.1
    have hs : hdS A.G (A.T.pr m) < A.G.1.1 := (hV.2.2.2 _ hp).2.1.2.1 0 (Nat.zero_le _)
    have h8 := (hV.1.2.2 _ hs).2.1
    have hcn : σ.2.1 (g + 2) (hdS A.G (A.T.pr m)) = nI (A.G.1.2.2.1 (hdS A.G (A.T.pr m))) := ((hC.2.2.2.2.2.1 hg).1.1.1.2.2.1.1.2 _ hs).2.1
    have ecs : (nI (hdS A.G (A.T.pr m))).toNatClampNeg = hdS A.G (A.T.pr m) := nI_clampE (by omega)
    have evs : vp_in (nI (hdS A.G (A.T.pr m))) 12 := by simp (disch := omega) only [nI_lit, nI_add, nI_mulE, nI_clampE, nI_eqE, nI_leE, nI_ltE, vp_nIE, true_and, and_true]; omega
    show wX11_countErrors_l4_b Q E (wX11_countErrors_l4 Q E (f + 1)) _ _ σ
    unfold wX11_countErrors_l4_b
    refine ⟨x, hC.2.2.1.2.2.1, hC.2.1.2.2.2.1, ?_⟩
    rw [hTr.1]
    refine no (by simp (disch := omega) only [nI_lit, nI_add, nI_mulE, nI_clampE, nI_eqE, nI_leE, nI_ltE, vp_nIE, true_and, and_true]; omega) ⟨A.G.1.2.2.1 (hdS A.G (A.T.pr m)) + 1, ?_⟩
    suffices H2 : ∀ f2 i, A.G.1.2.2.1 (hdS A.G (A.T.pr m)) - i = f2 → i ≤ A.G.1.2.2.1 (hdS A.G (A.T.pr m)) → wX11_countErrors_l17 Q E (wX11_countErrors_j64 Q E (wX11_countErrors_l4 Q E (f + 1))) (f2 + 1) (nI (sumF (fun m => cEr A.G A.T m (A.G.1.2.2.1 (hdS A.G (A.T.pr m)))) m + cEr A.G A.T m i)) (nI m) (nI i) σ from H2 _ 0 rfl (Nat.zero_le _)
    intro f2
    induction f2 with
    | zero =>
      intro i hi2 hi
      have e : i = A.G.1.2.2.1 (hdS A.G (A.T.pr m)) := by omega
      show wX11_countErrors_l17_b _ _ _ _ _ _ _ _
      unfold wX11_countErrors_l17_b
      refine ⟨g, hC.2.2.1.1, hC.2.1.1, c_syO hC hA ht hm1 ⟨evs, ?_⟩⟩
      rw [ecs, hcn]
      refine yes (by rw [e]; simp (disch := omega) only [nI_lit, nI_add, nI_mulE, nI_clampE, nI_eqE, nI_leE, nI_ltE, vp_nIE, true_and, and_true]; omega) ?_
      unfold wX11_countErrors_j64
      rw [nI_1, e]
      exact fe (ih (m + 1) (by omega) (by omega))
    | succ f2 ih2 =>
      intro i hi2 hi
      have hi1 : i < A.G.1.2.2.1 (hdS A.G (A.T.pr m)) := by omega
      have ec : nI m * (8 : Int32) + nI i = nI (m * 8 + i) := by show nI m * nI 8 + _ = _; rw [nI_mulE, nI_add]
      show wX11_countErrors_l17_b Q E (wX11_countErrors_j64 Q E (wX11_countErrors_l4 Q E (f + 1))) (wX11_countErrors_l17 Q E (wX11_countErrors_j64 Q E (wX11_countErrors_l4 Q E (f + 1))) (f2 + 1)) _ _ _ σ
      unfold wX11_countErrors_l17_b
      refine ⟨g, hC.2.2.1.1, hC.2.1.1, c_syO hC hA ht hm1 ⟨evs, ?_⟩⟩
      rw [ecs, hcn, ec, nI_clampE (show m * 8 + i < 2147483648 by omega), (hC.2.2.2.2.2.2.1 ht).2 m i (by omega) (by omega)]
      refine no (by simp (disch := omega) only [nI_lit, nI_add, nI_mulE, nI_clampE, nI_eqE, nI_leE, nI_ltE, vp_nIE, true_and, and_true]; omega) ⟨by simp (disch := omega) only [nI_lit, nI_add, nI_mulE, nI_clampE, nI_eqE, nI_leE, nI_ltE, vp_nIE, true_and, and_true]; omega, ?_⟩
      have eS : cEr A.G A.T m (i + 1) = cEr A.G A.T m i + (if (val A.G A.T m i).isNone then 1 else 0) := rfl
      have IH := ih2 (i + 1) (by omega) (by omega)
      rw [eS] at IH
      unfold wX11_countErrors_j58
      cases hv : val A.G A.T m i with
      | none =>
        rw [hv, if_pos (show (none : VL8).isNone = true from rfl), ← Nat.add_assoc] at IH
        refine no (fun z => z ((lgc0 _ _).mpr rfl)) ?_
        rw [nI_1, nI_1]
        exact fe (fe IH)
      | some w =>
        rw [hv, if_neg (show ¬ (some w : VL8).isNone = true from Bool.false_ne_true), Nat.add_zero] at IH
        refine yes (fun z => vL_ne w ((lgc0 _ _).mp z)) ?_
        rw [nI_1]
        exact fe IH
end QX
