/-! ===== count: the frames ===== -/
section QX
variable {σ : ab_S} {A : AST} {g q x y : Nat} {a b d : Int32} {E : String → ab_S → Prop} {Q : Int32 → ab_S → Prop}
theorem c_fr {p : Nat} (hW : CW σ g A.G) (hV : GRV A.G) (hp : p < A.G.2.1) (k : Q (nI (frA A.G p (rt A.G p + 1))) σ) : wX7_frame (nI p) Q E σ := by
  have h30 := hV.2.1
  have h3 : rt A.G p ≤ 3 := (hV.2.2.2 _ hp).2.1.1
  unfold wX7_frame
  refine ⟨g, hW.1.2.1, hW.1.1.1, by simp (disch := omega) only [nI_lit, nI_add, nI_mulE, nI_clampE, nI_eqE, nI_leE, nI_ltE, vp_nIE, true_and, and_true]; omega, ?_⟩
  have e6 : σ.2.1 (g + 6) p = nI (rt A.G p) := (hW.1.1.2.2.1.2.2.2 p hp).2.1
  rw [nI_clampE (show p < 2147483648 by omega), e6, nI_1]
  exact c_frA hW hV hp (Nat.le_refl _) k
theorem c_hFr (hC : CIv σ A g q x y) (hA : AOK A) (ht : A.ht = true) (k : ∀ τ, FM (fun a _ => decide (a = 43)) σ τ → Q (nI (fMx A.G A.T A.T.N)) τ) : wX11_highestFrames Q E σ := by
  have hg := hA.hg ht
  have hV := hA.gV hg
  have h12 := hV.1.1
  have hT := (hA.2.1 ht).2
  have hN := hT.2.1
  refine ⟨A.T.N + 1, ?_⟩
  suffices H : ∀ f m τ, A.T.N - m = f → m ≤ A.T.N → FM (fun a _ => decide (a = 43)) σ τ → (∀ j, j < m → τ.2.1 43 j = nI (fAb A.G A.T j)) → wX11_highestFrames_l4 Q E (f + 1) (nI (fMx A.G A.T m)) (nI m) τ from H _ 0 σ rfl (Nat.zero_le _) (FM.rf _ _) (fun j hj => absurd hj (Nat.not_lt_zero _))
  intro f
  induction f with
  | zero =>
    intro m τ hf hm hF hd
    have e : m = A.T.N := by omega
    have hC' := hC.fm hA hF (fun a i h1 h2 => decide_eq_false (by omega))
    show wX11_highestFrames_l4_b _ _ _ _ _ _
    unfold wX11_highestFrames_l4_b
    refine ⟨x, hC'.2.2.1.2.2.1, hC'.2.1.2.2.2.1, ?_⟩
    rw [(hC'.2.2.2.2.2.2.1 ht).1.1]
    refine yes (by rw [e]; simp (disch := omega) only [nI_lit, nI_add, nI_mulE, nI_clampE, nI_eqE, nI_leE, nI_ltE, vp_nIE, true_and, and_true]; omega) ?_
    rw [e]; exact k τ hF
  | succ f ih =>
    intro m τ hf hm hF hd
    have hm1 : m < A.T.N := by omega
    have hp := (hT.2.2 m hm1).1.1
    have hle := (hT.2.2 m hm1).1.2.1
    have hC' := hC.fm hA hF (fun a i h1 h2 => decide_eq_false (by omega))
    have hTr := (hC'.2.2.2.2.2.2.1 ht).1
    obtain ⟨t1, t2, t3, t4, t5⟩ := hTr.2 m hm1
    have hx := hC'.2.2.1.2.2.1
    have hxT := hC'.2.1.2.2.2.1
    have ecm : (nI m).toNatClampNeg = m := nI_clampE (by omega)
    have evm : vp_in (nI m) 250 := by simp (disch := omega) only [nI_lit, nI_add, nI_mulE, nI_clampE, nI_eqE, nI_leE, nI_ltE, vp_nIE, true_and, and_true]; omega
    have bm := fMx_le hV hT m (by omega)
    have bA := fAb_le hV hT (m + 1) m (Nat.lt_succ_self _) hm1
    have j46 : ∀ v, nI v + nI (frN A.G A.T m) = nI (fAb A.G A.T m) → wX11_highestFrames_j46 Q E (wX11_highestFrames_l4 Q E (f + 1)) (nI (fMx A.G A.T m)) (nI m) (nI v) τ := by
      intro v hv
      unfold wX11_highestFrames_j46
      refine ⟨x, hx, hxT, evm, ?_⟩
      rw [ecm, t1]
      refine c_fr (hC'.2.2.2.2.2.1 hg).1 hV hp ⟨evm, ?_⟩
      have e : frA A.G (A.T.pr m) (rt A.G (A.T.pr m) + 1) = frN A.G A.T m := rfl
      rw [e, hv]
      refine fe ⟨evm, ?_⟩
      rw [gI_s, if_pos rfl, nI_1]
      have emx : (if nI (fMx A.G A.T m) < nI (fAb A.G A.T m) then nI (fAb A.G A.T m) else nI (fMx A.G A.T m)) = nI (fMx A.G A.T (m + 1)) := by
        show _ = nI (max _ _)
        by_cases z : fMx A.G A.T m < fAb A.G A.T m
        · rw [if_pos (by simp (disch := omega) only [nI_lit, nI_add, nI_mulE, nI_clampE, nI_eqE, nI_leE, nI_ltE, vp_nIE, true_and, and_true]; omega), Nat.max_eq_right (by omega)]
        · rw [if_neg (by simp (disch := omega) only [nI_lit, nI_add, nI_mulE, nI_clampE, nI_eqE, nI_leE, nI_ltE, vp_nIE, true_and, and_true]; omega), Nat.max_eq_left (by omega)]
      rw [emx]
      refine fe (fe (ih (m + 1) _ (by omega) (by omega) (hF.I (decide_eq_true rfl)) (fun j hj => ?_)))
      rw [gI_s]
      by_cases z : j = m
      · rw [if_pos z, z]
      · rw [if_neg z]; exact hd j (by omega)
    show wX11_highestFrames_l4_b Q E (wX11_highestFrames_l4 Q E (f + 1)) _ _ τ
    unfold wX11_highestFrames_l4_b
    refine ⟨x, hx, hxT, ?_⟩
    rw [hTr.1]
    refine no (by simp (disch := omega) only [nI_lit, nI_add, nI_mulE, nI_clampE, nI_eqE, nI_leE, nI_ltE, vp_nIE, true_and, and_true]; omega) ⟨x, hx, hxT, evm, ?_⟩
    rw [ecm, t2]
    have eA := fAb_e hT hm1
    by_cases e0 : A.T.pa m = 0
    · rw [if_pos e0] at eA
      refine no (fun z => z ((abI_0 (by omega)).mpr e0)) ?_
      refine j46 0 ?_
      rw [nI_add, eA]; congr 1; omega
    · rw [if_neg e0] at eA
      refine yes (fun z => e0 ((abI_0 (by omega)).mp z)) ⟨x, hx, hxT, evm, ?_⟩
      rw [t2, abI_s e0, nI_clampE (show A.T.pa m - 1 < 2147483648 by omega), hd _ (by omega)]
      refine ⟨by simp (disch := omega) only [nI_lit, nI_add, nI_mulE, nI_clampE, nI_eqE, nI_leE, nI_ltE, vp_nIE, true_and, and_true]; omega, j46 _ ?_⟩
      rw [nI_add, eA]; congr 1; omega
variable {Γ : GRT} {T : TST}
theorem m_frO {p : Nat} (hW : MW σ Γ) (hV : GRV Γ) (hp : p < Γ.2.1) (k : Q (nI (frA Γ p (rt Γ p + 1))) σ) : wX12_frameOf (nI p) Q E σ := by
  have h30 := hV.2.1
  have h12 := hV.1.1
  have h3 : rt Γ p ≤ 3 := (hV.2.2.2 _ hp).2.1.1
  have h103 : σ.2.1 103 p = nI (rt Γ p) := (hW.1.1.2.2.2 p hp).2.1
  have ecp : (nI p).toNatClampNeg = p := nI_clampE (by omega)
  have evp : vp_in (nI p) 31 := by simp (disch := omega) only [nI_lit, nI_add, nI_mulE, nI_clampE, nI_eqE, nI_leE, nI_ltE, vp_nIE, true_and, and_true]; omega
  refine ⟨rt Γ p + 1, ?_⟩
  suffices H : ∀ f o, rt Γ p + 1 - o = f → 1 ≤ o → o ≤ rt Γ p + 1 → wX12_frameOf_l4 (nI p) Q E (f + 1) (nI (frA Γ p o)) (nI o) σ from H (rt Γ p) 1 rfl (by omega) (by omega)
  intro f
  induction f with
  | zero =>
    intro o hf o1 o2
    have e : o = rt Γ p + 1 := by omega
    show wX12_frameOf_l4_b _ _ _ _ _ _ _
    unfold wX12_frameOf_l4_b
    rw [ecp, h103]
    refine ⟨evp, yes (by rw [e]; simp (disch := omega) only [nI_lit, nI_add, nI_mulE, nI_clampE, nI_eqE, nI_leE, nI_ltE, vp_nIE, true_and, and_true]; omega) ?_⟩
    rw [e]; exact k
  | succ f ih =>
    intro o hf o1 o2
    have ho : o ≤ rt Γ p := by omega
    have hs : oSy Γ p o < Γ.1.1 := (hV.2.2.2 _ hp).2.1.2.1 o ho
    have h8 := (hV.1.2.2 _ hs).2.1
    have e4 : (4 : Int32) * nI p + nI o = nI (4 * p + o) := by show nI 4 * nI _ + _ = _; rw [nI_mulE, nI_add]
    have h104 : σ.2.1 104 (4 * p + o) = nI (oSy Γ p o) := (hW.1.1.2.2.2 _ hp).2.2.1 o (by show o < rt Γ p + 1; omega)
    have h99 := (hW.1.1.1.2 _ hs).2.1
    have eF : frA Γ p (o + 1) = frA Γ p o + cSt Γ (oSy Γ p o) 1 (Γ.1.2.2.1 (oSy Γ p o)) := by
      show frA Γ p o + (if o = 0 then 0 else _) = _
      rw [if_neg (by omega)]
    show wX12_frameOf_l4_b (nI p) Q E (wX12_frameOf_l4 (nI p) Q E (f + 1)) _ _ σ
    unfold wX12_frameOf_l4_b
    rw [ecp, h103, e4, nI_clampE (show 4 * p + o < 2147483648 by omega), h104]
    refine ⟨evp, no (by simp (disch := omega) only [nI_lit, nI_add, nI_mulE, nI_clampE, nI_eqE, nI_leE, nI_ltE, vp_nIE, true_and, and_true]; omega) ⟨by simp (disch := omega) only [nI_lit, nI_add, nI_mulE, nI_clampE, nI_eqE, nI_leE, nI_ltE, vp_nIE, true_and, and_true]; omega, fe ⟨Γ.1.2.2.1 (oSy Γ p o) + 1, ?_⟩⟩⟩
    have hst : ∀ a, a < Γ.1.2.2.1 (oSy Γ p o) → σ.2.1 123 (8 * oSy Γ p o + a) = nI (stv Γ (oSy Γ p o) a) := fun a ha => hW.2.2 _ a hs ha
    have IH := ih (o + 1) (by omega) (by omega) (by omega)
    rw [eF] at IH
    generalize oSy Γ p o = s at *
    have ecs : (nI s).toNatClampNeg = s := nI_clampE (by omega)
    have evs : vp_in (nI s) 13 := by simp (disch := omega) only [nI_lit, nI_add, nI_mulE, nI_clampE, nI_eqE, nI_leE, nI_ltE, vp_nIE, true_and, and_true]; omega
    suffices H2 : ∀ f2 i, Γ.1.2.2.1 s - i = f2 → i ≤ Γ.1.2.2.1 s → wX12_frameOf_l29 (nI p) Q E (wX12_frameOf_j72 (nI p) Q E (wX12_frameOf_l4 (nI p) Q E (f + 1))) (f2 + 1) (nI (frA Γ p o + cSt Γ s 1 i)) (nI o) (nI s) (nI i) σ from H2 _ 0 rfl (Nat.zero_le _)
    intro f2
    induction f2 with
    | zero =>
      intro i hi2 hi
      have e : i = Γ.1.2.2.1 s := by omega
      show wX12_frameOf_l29_b _ _ _ _ _ _ _ _ _ _
      unfold wX12_frameOf_l29_b
      rw [ecs, h99]
      refine ⟨evs, yes (by rw [e]; simp (disch := omega) only [nI_lit, nI_add, nI_mulE, nI_clampE, nI_eqE, nI_leE, nI_ltE, vp_nIE, true_and, and_true]; omega) ?_⟩
      unfold wX12_frameOf_j72
      rw [nI_1, e]
      exact fe IH
    | succ f2 ih2 =>
      intro i hi2 hi
      have hi1 : i < Γ.1.2.2.1 s := by omega
      have e8 : (8 : Int32) * nI s + nI i = nI (8 * s + i) := by show nI 8 * nI s + _ = _; rw [nI_mulE, nI_add]
      have hst2 := stv_le Γ s i
      show wX12_frameOf_l29_b (nI p) Q E (wX12_frameOf_j72 (nI p) Q E (wX12_frameOf_l4 (nI p) Q E (f + 1))) (wX12_frameOf_l29 (nI p) Q E (wX12_frameOf_j72 (nI p) Q E (wX12_frameOf_l4 (nI p) Q E (f + 1))) (f2 + 1)) _ _ _ _ σ
      unfold wX12_frameOf_l29_b
      rw [ecs, h99, e8, nI_clampE (show 8 * s + i < 2147483648 by omega), hst i hi1]
      refine ⟨evs, no (by simp (disch := omega) only [nI_lit, nI_add, nI_mulE, nI_clampE, nI_eqE, nI_leE, nI_ltE, vp_nIE, true_and, and_true]; omega) ⟨by simp (disch := omega) only [nI_lit, nI_add, nI_mulE, nI_clampE, nI_eqE, nI_leE, nI_ltE, vp_nIE, true_and, and_true]; omega, ?_⟩⟩
      have IH2 := ih2 (i + 1) (by omega) (by omega)
      have eS : cSt Γ s 1 (i + 1) = cSt Γ s 1 i + (if stv Γ s i = 1 then 1 else 0) := rfl
      rw [eS] at IH2
      unfold wX12_frameOf_j65
      by_cases z : stv Γ s i = 1
      · rw [if_pos z, ← Nat.add_assoc] at IH2
        refine no (fun z2 => z2 (by rw [z]; rfl)) ?_
        rw [nI_1, nI_1]
        exact fe IH2
      · rw [if_neg z, Nat.add_zero] at IH2
        refine yes (by show ¬ nI _ = nI 1; rw [nI_eqE (by omega) (by omega)]; exact z) ?_
        rw [nI_1]
        exact fe IH2
theorem m_fAb {n : Nat} (hW : MW σ Γ) (hM : MTt σ Γ T) (hV : GRV Γ) (hT : TOK Γ T) (hn : n < T.N) (k : Q (nI (fAb Γ T n)) σ) : wX12_framesAbove (nI n) Q E σ := by
  have hN := hT.2.1
  have H : ∀ f m v, m < f → m < T.N → v + fAb Γ T m = fAb Γ T n → ∃ j, wX12_framesAbove_l4 (nI n) Q E j (nI v) (nI m) σ := by
    intro f
    induction f with
    | zero => intro m v h; exact absurd h (Nat.not_lt_zero _)
    | succ f ih =>
      intro m v hf hm hv
      have hp := (hT.2.2 m hm).1.1
      have hle := (hT.2.2 m hm).1.2.1
      have ecm : (nI m).toNatClampNeg = m := nI_clampE (by omega)
      have evm : vp_in (nI m) 251 := by simp (disch := omega) only [nI_lit, nI_add, nI_mulE, nI_clampE, nI_eqE, nI_leE, nI_ltE, vp_nIE, true_and, and_true]; omega
      obtain ⟨b1, b2, _⟩ := hM.2 m hm
      have eA := fAb_e hT hm
      by_cases e0 : T.pa m = 0
      · rw [if_pos e0] at eA
        refine ⟨2, ?_⟩
        show wX12_framesAbove_l4_b (nI n) Q E (wX12_framesAbove_l4 (nI n) Q E 1) _ _ σ
        unfold wX12_framesAbove_l4_b
        rw [ecm, b1]
        refine no (nI_pos (by omega)) ⟨evm, m_frO hW hV hp ?_⟩
        rw [b2, nI_add, e0]
        refine fe ⟨evm, fe ?_⟩
        show wX12_framesAbove_l4_b (nI n) Q E _ _ (-1) σ
        unfold wX12_framesAbove_l4_b
        refine yes (by decide) ?_
        have e : v + frA Γ (T.pr m) (rt Γ (T.pr m) + 1) = fAb Γ T n := by
          have : frA Γ (T.pr m) (rt Γ (T.pr m) + 1) = frN Γ T m := rfl
          omega
        rw [e]; exact k
      · rw [if_neg e0] at eA
        obtain ⟨j, hj⟩ := ih (T.pa m - 1) (v + frN Γ T m) (by omega) (by omega) (by omega)
        refine ⟨j + 1, ?_⟩
        show wX12_framesAbove_l4_b (nI n) Q E (wX12_framesAbove_l4 (nI n) Q E j) _ _ σ
        unfold wX12_framesAbove_l4_b
        rw [ecm, b1]
        refine no (nI_pos (by omega)) ⟨evm, m_frO hW hV hp ?_⟩
        rw [b2, nI_add, abI_s e0]
        exact fe ⟨evm, fe hj⟩
  exact H (n + 1) n 0 (Nat.lt_succ_self _) hn (Nat.zero_add _)
end QX
