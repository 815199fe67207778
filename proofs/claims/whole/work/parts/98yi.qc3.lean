/-! ===== count, the model's ===== -/
noncomputable def cCt (Γ : GRT) (T : TST) (c m : Nat) : Nat := if c = 0 then 1 else if c = 1 then Γ.1.2.2.1 (hdS Γ (T.pr m)) else if c = 2 then svs Γ (hdS Γ (T.pr m)) else if c = 3 then cEr Γ T m (Γ.1.2.2.1 (hdS Γ (T.pr m))) else if c = 4 then cSt Γ (hdS Γ (T.pr m)) 2 (Γ.1.2.2.1 (hdS Γ (T.pr m))) else 0
noncomputable def cAc (Γ : GRT) (T : TST) (c : Nat) (m : Nat) : Nat := if c = 5 then fMx Γ T m else if c = 6 then vaS Γ Γ.1.1 else sumF (cCt Γ T c) m
section QX
variable {σ : ab_S} {E : String → ab_S → Prop} {Q : Int32 → ab_S → Prop} {Γ : GRT} {T : TST} {c : Nat}
theorem nIc {c k : Nat} (hc : c ≤ 6) (hk : k < 100) : (nI c = nI k) = (c = k) := nI_eqE (by omega) (by omega)
theorem m_c275 (hW : MW σ Γ) (hM : MTt σ Γ T) (hV : GRV Γ) (hT : TOK Γ T) (hc : c ≤ 6) {m v : Nat} (hm : m < T.N) (hv : v < 1000000) {Bk : Int32 → Int32 → ab_S → Prop} (k : Bk (nI (if c = 5 then max v (fAb Γ T m) else v)) (nI (m + 1)) σ) : wX12_count_j275 (nI c) Q E Bk (nI v) (nI m) σ := by
  have hN := hT.2.1
  have bA := fAb_le hV hT (m + 1) m (Nat.lt_succ_self _) hm
  have j289 : ∀ w, w < 100000 → max v w = (if c = 5 then max v (fAb Γ T m) else v) → wX12_count_j289 (nI c) Q E Bk (nI v) (nI m) (nI w) σ := by
    intro w hw e
    rw [← e] at k
    unfold wX12_count_j289 wX12_count_j303
    rw [nI_1]
    by_cases z : w ≤ v
    · rw [Nat.max_eq_left z] at k
      exact yes (by simp (disch := omega) only [nI_lit, nI_add, nI_mulE, nI_clampE, nI_eqE, nI_leE, nI_ltE, vp_nIE, true_and, and_true]; omega) (fe k)
    · rw [Nat.max_eq_right (by omega)] at k
      exact no (by simp (disch := omega) only [nI_lit, nI_add, nI_mulE, nI_clampE, nI_eqE, nI_leE, nI_ltE, vp_nIE, true_and, and_true]; omega) (fe k)
  unfold wX12_count_j275
  by_cases e5 : c = 5
  · exact no (fun z => z (by rw [e5]; rfl)) (m_fAb hW hM hV hT hm (j289 _ (by omega) (by rw [if_pos e5])))
  · exact yes (by show ¬ nI c = nI 5; rw [nIc hc (by omega)]; exact e5) (j289 0 (by omega) (by rw [if_neg e5]; exact Nat.max_eq_left (Nat.zero_le _)))
theorem m_c218 (hW : MW σ Γ) (hM : MTt σ Γ T) (hV : GRV Γ) (hT : TOK Γ T) (hc : c ≤ 6) {m v : Nat} (hm : m < T.N) (hv : v < 900000) {Bk : Int32 → Int32 → ab_S → Prop} (k : Bk (nI (if c = 5 then max v (fAb Γ T m) else if c = 4 then v + cSt Γ (hdS Γ (T.pr m)) 2 (Γ.1.2.2.1 (hdS Γ (T.pr m))) else v)) (nI (m + 1)) σ) : wX12_count_j218 (nI c) Q E Bk (nI v) (nI m) σ := by
  have hN := hT.2.1
  have h12 := hV.1.1
  have hp := (hT.2.2 m hm).1.1
  have hs : hdS Γ (T.pr m) < Γ.1.1 := (hV.2.2.2 _ hp).2.1.2.1 0 (Nat.zero_le _)
  have h8 := (hV.1.2.2 _ hs).2.1
  have h99 := (hW.1.1.1.2 _ hs).2.1
  have ecs : (nI (hdS Γ (T.pr m))).toNatClampNeg = hdS Γ (T.pr m) := nI_clampE (by omega)
  have evs : vp_in (nI (hdS Γ (T.pr m))) 13 := by simp (disch := omega) only [nI_lit, nI_add, nI_mulE, nI_clampE, nI_eqE, nI_leE, nI_ltE, vp_nIE, true_and, and_true]; omega
  by_cases e4 : c = 4
  · rw [if_neg (by omega), if_pos e4] at k
    refine ⟨Γ.1.2.2.1 (hdS Γ (T.pr m)) + 1, ?_⟩
    suffices H : ∀ f i, Γ.1.2.2.1 (hdS Γ (T.pr m)) - i = f → i ≤ Γ.1.2.2.1 (hdS Γ (T.pr m)) → wX12_count_l221 (nI c) Q E (wX12_count_j275 (nI c) Q E Bk) (f + 1) (nI (v + cSt Γ (hdS Γ (T.pr m)) 2 i)) (nI m) (nI i) σ from H _ 0 rfl (Nat.zero_le _)
    intro f
    induction f with
    | zero =>
      intro i hi2 hi
      have e : i = Γ.1.2.2.1 (hdS Γ (T.pr m)) := by omega
      have hcl := cSt_le Γ (hdS Γ (T.pr m)) 2 (Γ.1.2.2.1 (hdS Γ (T.pr m)))
      show wX12_count_l221_b _ _ _ _ _ _ _ _ _
      unfold wX12_count_l221_b
      refine m_syO hW.1.1 hM hV hT hm ⟨evs, ?_⟩
      rw [ecs, h99]
      refine yes (by rw [e]; simp (disch := omega) only [nI_lit, nI_add, nI_mulE, nI_clampE, nI_eqE, nI_leE, nI_ltE, vp_nIE, true_and, and_true]; omega) (m_c275 hW hM hV hT hc hm (by rw [e]; omega) ?_)
      rw [if_neg (by omega), e]; exact k
    | succ f ih =>
      intro i hi2 hi
      have hi1 : i < Γ.1.2.2.1 (hdS Γ (T.pr m)) := by omega
      have e8 : (8 : Int32) * nI (hdS Γ (T.pr m)) + nI i = nI (8 * hdS Γ (T.pr m) + i) := by show nI 8 * nI _ + _ = _; rw [nI_mulE, nI_add]
      have hst2 := stv_le Γ (hdS Γ (T.pr m)) i
      show wX12_count_l221_b (nI c) Q E (wX12_count_j275 (nI c) Q E Bk) (wX12_count_l221 (nI c) Q E (wX12_count_j275 (nI c) Q E Bk) (f + 1)) _ _ _ σ
      unfold wX12_count_l221_b
      refine m_syO hW.1.1 hM hV hT hm ⟨evs, ?_⟩
      rw [ecs, h99]
      refine no (by simp (disch := omega) only [nI_lit, nI_add, nI_mulE, nI_clampE, nI_eqE, nI_leE, nI_ltE, vp_nIE, true_and, and_true]; omega) (no (fun z => z (by rw [e4]; rfl)) (m_syO hW.1.1 hM hV hT hm ?_))
      rw [e8, nI_clampE (show 8 * hdS Γ (T.pr m) + i < 2147483648 by omega), hW.2.2 _ i hs hi1]
      refine ⟨by simp (disch := omega) only [nI_lit, nI_add, nI_mulE, nI_clampE, nI_eqE, nI_leE, nI_ltE, vp_nIE, true_and, and_true]; omega, ?_⟩
      have IH := ih (i + 1) (by omega) (by omega)
      have eS : cSt Γ (hdS Γ (T.pr m)) 2 (i + 1) = cSt Γ (hdS Γ (T.pr m)) 2 i + (if stv Γ (hdS Γ (T.pr m)) i = 2 then 1 else 0) := rfl
      rw [eS] at IH
      unfold wX12_count_j268
      by_cases z : stv Γ (hdS Γ (T.pr m)) i = 2
      · rw [if_pos z, ← Nat.add_assoc] at IH
        refine no (fun z2 => z2 (by rw [z]; rfl)) ?_
        rw [nI_1, nI_1]
        exact fe IH
      · rw [if_neg z, Nat.add_zero] at IH
        refine yes (by show ¬ nI _ = nI 2; rw [nI_eqE (by omega) (by omega)]; exact z) ?_
        rw [nI_1]
        exact fe IH
  · rw [if_neg e4] at k
    refine ⟨1, ?_⟩
    show wX12_count_l221_b _ _ _ _ _ _ _ _ _
    unfold wX12_count_l221_b
    have fin := m_c275 (Q := Q) (E := E) hW hM hV hT hc hm (by omega) k
    refine m_syO hW.1.1 hM hV hT hm ⟨evs, fun _ => fin, fun _ => yes (by show ¬ nI c = nI 4; rw [nIc hc (by omega)]; exact e4) fin⟩
theorem m_c165 (hW : MW σ Γ) (hM : MTt σ Γ T) (hVl : MVl σ (val Γ T)) (hV : GRV Γ) (hT : TOK Γ T) (hc : c ≤ 6) {m v : Nat} (hm : m < T.N) (hv : v < 800000) {Bk : Int32 → Int32 → ab_S → Prop} (k : Bk (nI (if c = 5 then max v (fAb Γ T m) else if c = 4 then v + cSt Γ (hdS Γ (T.pr m)) 2 (Γ.1.2.2.1 (hdS Γ (T.pr m))) else if c = 3 then v + cEr Γ T m (Γ.1.2.2.1 (hdS Γ (T.pr m))) else v)) (nI (m + 1)) σ) : wX12_count_j165 (nI c) Q E Bk (nI m) (nI v) σ := by
  have hN := hT.2.1
  have h12 := hV.1.1
  have hp := (hT.2.2 m hm).1.1
  have hs : hdS Γ (T.pr m) < Γ.1.1 := (hV.2.2.2 _ hp).2.1.2.1 0 (Nat.zero_le _)
  have h8 := (hV.1.2.2 _ hs).2.1
  have h99 := (hW.1.1.1.2 _ hs).2.1
  have ecs : (nI (hdS Γ (T.pr m))).toNatClampNeg = hdS Γ (T.pr m) := nI_clampE (by omega)
  have evs : vp_in (nI (hdS Γ (T.pr m))) 13 := by simp (disch := omega) only [nI_lit, nI_add, nI_mulE, nI_clampE, nI_eqE, nI_leE, nI_ltE, vp_nIE, true_and, and_true]; omega
  by_cases e3 : c = 3
  · rw [if_neg (by omega), if_neg (by omega), if_pos e3] at k
    refine ⟨Γ.1.2.2.1 (hdS Γ (T.pr m)) + 1, ?_⟩
    suffices H : ∀ f i, Γ.1.2.2.1 (hdS Γ (T.pr m)) - i = f → i ≤ Γ.1.2.2.1 (hdS Γ (T.pr m)) → wX12_count_l169 (nI c) Q E (wX12_count_j218 (nI c) Q E Bk) (f + 1) (nI (v + cEr Γ T m i)) (nI m) (nI i) σ from H _ 0 rfl (Nat.zero_le _)
    intro f
    induction f with
    | zero =>
      intro i hi2 hi
      have e : i = Γ.1.2.2.1 (hdS Γ (T.pr m)) := by omega
      have hcl : cEr Γ T m (Γ.1.2.2.1 (hdS Γ (T.pr m))) ≤ Γ.1.2.2.1 (hdS Γ (T.pr m)) := cnt_le _ _
      show wX12_count_l169_b _ _ _ _ _ _ _ _ _
      unfold wX12_count_l169_b
      refine m_syO hW.1.1 hM hV hT hm ⟨evs, ?_⟩
      rw [ecs, h99]
      refine yes (by rw [e]; simp (disch := omega) only [nI_lit, nI_add, nI_mulE, nI_clampE, nI_eqE, nI_leE, nI_ltE, vp_nIE, true_and, and_true]; omega) (m_c218 hW hM hV hT hc hm (by rw [e]; omega) ?_)
      rw [if_neg (by omega), if_neg (by omega), e]; exact k
    | succ f ih =>
      intro i hi2 hi
      have hi1 : i < Γ.1.2.2.1 (hdS Γ (T.pr m)) := by omega
      have e8 : (8 : Int32) * nI m + nI i = nI (8 * m + i) := by show nI 8 * nI _ + _ = _; rw [nI_mulE, nI_add]
      show wX12_count_l169_b (nI c) Q E (wX12_count_j218 (nI c) Q E Bk) (wX12_count_l169 (nI c) Q E (wX12_count_j218 (nI c) Q E Bk) (f + 1)) _ _ _ σ
      unfold wX12_count_l169_b
      refine m_syO hW.1.1 hM hV hT hm ⟨evs, ?_⟩
      rw [ecs, h99, e8, nI_clampE (show 8 * m + i < 2147483648 by omega), (hVl m (by omega) i (by omega)).2]
      refine no (by simp (disch := omega) only [nI_lit, nI_add, nI_mulE, nI_clampE, nI_eqE, nI_leE, nI_ltE, vp_nIE, true_and, and_true]; omega) (no (fun z => z (by rw [e3]; rfl)) ⟨by simp (disch := omega) only [nI_lit, nI_add, nI_mulE, nI_clampE, nI_eqE, nI_leE, nI_ltE, vp_nIE, true_and, and_true]; omega, ?_⟩)
      have IH := ih (i + 1) (by omega) (by omega)
      have eS : cEr Γ T m (i + 1) = cEr Γ T m i + (if (val Γ T m i).isNone then 1 else 0) := rfl
      rw [eS] at IH
      unfold wX12_count_j211
      cases hv : val Γ T m i with
      | none =>
        rw [hv, if_pos (show (none : VL8).isNone = true from rfl), ← Nat.add_assoc] at IH
        refine no (by decide) ?_
        rw [nI_1, nI_1]
        exact fe IH
      | some w =>
        rw [hv, if_neg (show ¬ (some w : VL8).isNone = true from Bool.false_ne_true), Nat.add_zero] at IH
        refine yes rfl ?_
        rw [nI_1]
        exact fe IH
  · rw [if_neg e3] at k
    refine ⟨1, ?_⟩
    show wX12_count_l169_b _ _ _ _ _ _ _ _ _
    unfold wX12_count_l169_b
    have fin := m_c218 (Q := Q) (E := E) hW hM hV hT hc hm (by omega) k
    refine m_syO hW.1.1 hM hV hT hm ⟨evs, fun _ => fin, fun _ => yes (by show ¬ nI c = nI 3; rw [nIc hc (by omega)]; exact e3) fin⟩
theorem sumF_le {f : Nat → Nat} {B : Nat} : ∀ k, (∀ m, m < k → f m ≤ B) → sumF f k ≤ B * k
  | 0, _ => Nat.zero_le _
  | k + 1, h => by
    have a := sumF_le k (fun m hm => h m (by omega))
    have b := h k (by omega)
    show sumF f k + f k ≤ B * (k + 1)
    rw [Nat.mul_succ]; omega
theorem cAc_b (hG : GOK Γ) (hT : TOK Γ T) (hc : c ≤ 6) {m : Nat} (hm : m ≤ T.N) : cAc Γ T c m ≤ 8000 := by
  have hV := hG.1
  have hN := hT.2.1
  have h12 := hV.1.1
  unfold cAc
  split
  · have := fMx_le hV hT m hm; omega
  · split
    · have := vaS_le hV Γ.1.1 (Nat.le_refl _); omega
    · have := sumF_le (f := cCt Γ T c) (B := 8) m (fun i hi => ?_)
      · omega
      · have hp := (hT.2.2 i (by omega)).1.1
        have hs : hdS Γ (T.pr i) < Γ.1.1 := (hV.2.2.2 _ hp).2.1.2.1 0 (Nat.zero_le _)
        have h8 : Γ.1.2.2.1 (hdS Γ (T.pr i)) ≤ 8 := (hV.1.2.2 _ hs).2.1
        have h5 := (hG.2.1.vis _ hs).2
        have hcl := cSt_le Γ (hdS Γ (T.pr i)) 2 (Γ.1.2.2.1 (hdS Γ (T.pr i)))
        have hce : cEr Γ T i (Γ.1.2.2.1 (hdS Γ (T.pr i))) ≤ Γ.1.2.2.1 (hdS Γ (T.pr i)) := cnt_le _ _
        unfold cCt
        split
        · omega
        · split
          · omega
          · split
            · omega
            · split
              · omega
              · split <;> omega
theorem m_c106 (hW : MW σ Γ) (hM : MTt σ Γ T) (hVl : MVl σ (val Γ T)) (hG : GOK Γ) (hT : TOK Γ T) (hc : c ≤ 6) (k : Q (nI (cAc Γ T c T.N)) σ) : wX12_count_j104 (nI c) Q E (nI (cAc Γ T c 0)) σ := by
  have hV := hG.1
  have hN := hT.2.1
  have h12 := hV.1.1
  refine ⟨T.N + 1, ?_⟩
  suffices H : ∀ f m, T.N - m = f → m ≤ T.N → wX12_count_l106 (nI c) Q E (f + 1) (nI (cAc Γ T c m)) (nI m) σ from H _ 0 rfl (Nat.zero_le _)
  intro f
  induction f with
  | zero =>
    intro m hf hm
    have e : m = T.N := by omega
    show wX12_count_l106_b _ _ _ _ _ _ _
    unfold wX12_count_l106_b
    rw [hM.1]
    refine yes (by rw [e]; simp (disch := omega) only [nI_lit, nI_add, nI_mulE, nI_clampE, nI_eqE, nI_leE, nI_ltE, vp_nIE, true_and, and_true]; omega) ?_
    rw [e]; exact k
  | succ f ih =>
    intro m hf hm
    have hm1 : m < T.N := by omega
    have hp := (hT.2.2 m hm1).1.1
    have hs : hdS Γ (T.pr m) < Γ.1.1 := (hV.2.2.2 _ hp).2.1.2.1 0 (Nat.zero_le _)
    have h8 : Γ.1.2.2.1 (hdS Γ (T.pr m)) ≤ 8 := (hV.1.2.2 _ hs).2.1
    have h5 := (hG.2.1.vis _ hs).2
    have ecs : (nI (hdS Γ (T.pr m))).toNatClampNeg = hdS Γ (T.pr m) := nI_clampE (by omega)
    have evs : vp_in (nI (hdS Γ (T.pr m))) 13 := by simp (disch := omega) only [nI_lit, nI_add, nI_mulE, nI_clampE, nI_eqE, nI_leE, nI_ltE, vp_nIE, true_and, and_true]; omega
    have hb := cAc_b hG hT hc (show m ≤ T.N by omega)
    have IH := ih (m + 1) (by omega) (by omega)
    show wX12_count_l106_b (nI c) Q E (wX12_count_l106 (nI c) Q E (f + 1)) _ _ σ
    unfold wX12_count_l106_b
    rw [hM.1]
    refine no (by simp (disch := omega) only [nI_lit, nI_add, nI_mulE, nI_clampE, nI_eqE, nI_leE, nI_ltE, vp_nIE, true_and, and_true]; omega) ?_
    have ne : ∀ j, j < 100 → c ≠ j → ¬ nI c = nI j := fun j hj h => by rw [nIc hc hj]; exact h
    by_cases c0 : c = 0
    · refine no (fun z => z (by rw [c0]; rfl)) ?_
      rw [nI_1]
      refine m_c165 hW hM hVl hV hT hc hm1 (by omega) ?_
      rw [if_neg (by omega), if_neg (by omega), if_neg (by omega)]
      have e : cAc Γ T c (m + 1) = cAc Γ T c m + 1 := by
        unfold cAc; rw [if_neg (by omega), if_neg (by omega), if_neg (by omega), if_neg (by omega)]
        show sumF (cCt Γ T c) m + cCt Γ T c m = _
        congr 1; unfold cCt; rw [if_pos c0]
      rw [e] at IH; exact IH
    refine yes (ne 0 (by omega) c0) ?_
    by_cases c1 : c = 1
    · refine no (fun z => z (by rw [c1]; rfl)) (m_syO hW.1.1 hM hV hT hm1 ⟨evs, ?_⟩)
      rw [ecs, (hW.1.1.1.2 _ hs).2.1, nI_add]
      refine m_c165 hW hM hVl hV hT hc hm1 (by omega) ?_
      rw [if_neg (by omega), if_neg (by omega), if_neg (by omega)]
      have e : cAc Γ T c (m + 1) = cAc Γ T c m + Γ.1.2.2.1 (hdS Γ (T.pr m)) := by
        unfold cAc; rw [if_neg (by omega), if_neg (by omega), if_neg (by omega), if_neg (by omega)]
        show sumF (cCt Γ T c) m + cCt Γ T c m = _
        congr 1; unfold cCt; rw [if_neg c0, if_pos c1]
      rw [e] at IH; exact IH
    refine yes (ne 1 (by omega) c1) ?_
    by_cases c2 : c = 2
    · refine no (fun z => z (by rw [c2]; rfl)) (m_syO hW.1.1 hM hV hT hm1 ⟨evs, ?_⟩)
      rw [ecs, (hW.1.2.1 _ hs).2, nI_add]
      refine m_c165 hW hM hVl hV hT hc hm1 (by omega) ?_
      rw [if_neg (by omega), if_neg (by omega), if_neg (by omega)]
      have e : cAc Γ T c (m + 1) = cAc Γ T c m + svs Γ (hdS Γ (T.pr m)) := by
        unfold cAc; rw [if_neg (by omega), if_neg (by omega), if_neg (by omega), if_neg (by omega)]
        show sumF (cCt Γ T c) m + cCt Γ T c m = _
        congr 1; unfold cCt; rw [if_neg c0, if_neg c1, if_pos c2]
      rw [e] at IH; exact IH
    refine yes (ne 2 (by omega) c2) (m_c165 hW hM hVl hV hT hc hm1 (by omega) ?_)
    by_cases c5 : c = 5
    · rw [if_pos c5]
      have e : cAc Γ T c (m + 1) = max (cAc Γ T c m) (fAb Γ T m) := by unfold cAc; rw [if_pos c5, if_pos c5]; rfl
      rw [e] at IH; exact IH
    · rw [if_neg c5]
      by_cases c6 : c = 6
      · rw [if_neg (by omega), if_neg (by omega)]
        have e : cAc Γ T c (m + 1) = cAc Γ T c m := by unfold cAc; rw [if_neg c5, if_pos c6, if_neg c5, if_pos c6]
        rw [e] at IH; exact IH
      · have e : cAc Γ T c (m + 1) = cAc Γ T c m + cCt Γ T c m := by unfold cAc; rw [if_neg c5, if_neg c6, if_neg c5, if_neg c6]; rfl
        rw [e] at IH
        by_cases c4 : c = 4
        · rw [if_pos c4]
          have e2 : cCt Γ T c m = cSt Γ (hdS Γ (T.pr m)) 2 (Γ.1.2.2.1 (hdS Γ (T.pr m))) := by unfold cCt; rw [if_neg c0, if_neg c1, if_neg c2, if_neg (by omega), if_pos c4]
          rw [e2] at IH; exact IH
        · have c3 : c = 3 := by omega
          rw [if_neg c4, if_pos c3]
          have e2 : cCt Γ T c m = cEr Γ T m (Γ.1.2.2.1 (hdS Γ (T.pr m))) := by unfold cCt; rw [if_neg c0, if_neg c1, if_neg c2, if_pos c3]
          rw [e2] at IH; exact IH
end QX
