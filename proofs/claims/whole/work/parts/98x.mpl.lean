/-! ===== the machine, the model's: where a value is held ===== -/
theorem cSt_mo (Γ : GRT) (s k : Nat) {a b : Nat} (h : a ≤ b) : cSt Γ s k a ≤ cSt Γ s k b := by
  induction b with
  | zero => rw [Nat.le_zero.mp h]; exact Nat.le_refl _
  | succ b ih =>
    by_cases e : a = b + 1
    · rw [e]; exact Nat.le_refl _
    · exact Nat.le_trans (ih (by omega)) (Nat.le_add_right _ _)
theorem frA_mo (Γ : GRT) (p : Nat) {a b : Nat} (h : a ≤ b) : frA Γ p a ≤ frA Γ p b := by
  induction b with
  | zero => rw [Nat.le_zero.mp h]; exact Nat.le_refl _
  | succ b ih =>
    by_cases e : a = b + 1
    · rw [e]; exact Nat.le_refl _
    · exact Nat.le_trans (ih (by omega)) (Nat.le_add_right _ _)
theorem frA_le (Γ : GRT) (hV : GRV Γ) {p : Nat} (hp : p < Γ.2.1) : ∀ o, o ≤ rt Γ p + 1 → frA Γ p o ≤ 8 * o
  | 0, _ => Nat.le_refl _
  | o + 1, h => by
    have ih := frA_le Γ hV hp o (by omega)
    have hs := (hV.2.2.2 p hp).2.1.2.1 o (by show o ≤ rt Γ p; omega)
    have h8 := (hV.1.2.2 _ hs).2.1
    have hc := cSt_le Γ (oSy Γ p o) 1 (Γ.1.2.2.1 (oSy Γ p o))
    have e : frA Γ p (o + 1) = frA Γ p o + (if o = 0 then 0 else cSt Γ (oSy Γ p o) 1 (Γ.1.2.2.1 (oSy Γ p o))) := rfl
    have h8' : Γ.1.2.2.1 (oSy Γ p o) ≤ 8 := h8
    rw [e]
    split <;> omega
section MP
variable {σ : ab_S} {n : Nat} {Γ : GRT} {T : TST} {E : String → ab_S → Prop} {Q : Int32 → ab_S → Prop}
theorem m_above (hW : MW σ Γ) (hM : MTt σ Γ T) (hV : GRV Γ) (hT : TOK Γ T) (hn : n < T.N) {ax : Nat} (ha : ax < Γ.1.2.2.1 (hdS Γ (T.pr n))) (h1 : stv Γ (hdS Γ (T.pr n)) ax = 1) (h : Q (nI (8 * n + ax)) σ) : wX12_above (nI n) (nI (cSt Γ (hdS Γ (T.pr n)) 1 ax)) Q E σ := by
  have hN := hT.2.1
  have hp := (hT.2.2 n hn).1.1
  have h30 := hV.2.1
  have h12 := hV.1.1
  have hs : hdS Γ (T.pr n) < Γ.1.1 := (hV.2.2.2 _ hp).2.1.2.1 0 (Nat.zero_le _)
  have h8 := (hV.1.2.2 _ hs).2.1
  have hcl := cSt_le Γ (hdS Γ (T.pr n)) 1 ax
  have e4 : (4 : Int32) * nI (T.pr n) = nI (4 * T.pr n) := by show nI 4 * nI _ = _; rw [nI_mulE]
  unfold wX12_above
  rw [nI_clampE (show n < 2147483648 by omega), (hM.2 n hn).1, e4, nI_clampE (show 4 * T.pr n < 2147483648 by omega)]
  have h104 : σ.2.1 104 (4 * T.pr n) = nI (hdS Γ (T.pr n)) := (hW.1.1.2.2.2 _ hp).2.2.1 0 (by omega)
  rw [h104]
  refine ⟨by simp (disch := omega) only [nI_lit, nI_add, nI_mulE, nI_clampE, nI_eqE, nI_leE, nI_ltE, vp_nIE, true_and, and_true]; omega, by simp (disch := omega) only [nI_lit, nI_add, nI_mulE, nI_clampE, nI_eqE, nI_leE, nI_ltE, vp_nIE, true_and, and_true]; omega, fe ⟨Γ.1.2.2.1 (hdS Γ (T.pr n)) + 1, ?_⟩⟩
  have h99 := (hW.1.1.1.2 _ hs).2.1
  have hst : ∀ a, a < Γ.1.2.2.1 (hdS Γ (T.pr n)) → σ.2.1 123 (8 * hdS Γ (T.pr n) + a) = nI (stv Γ (hdS Γ (T.pr n)) a) := fun a ha => hW.2.2 _ a hs ha
  generalize hdS Γ (T.pr n) = s at *
  have ecs : (nI s).toNatClampNeg = s := nI_clampE (by omega)
  have evs : vp_in (nI s) 13 := by simp (disch := omega) only [nI_lit, nI_add, nI_mulE, nI_clampE, nI_eqE, nI_leE, nI_ltE, vp_nIE, true_and, and_true]; omega
  have fin : ∀ f z w, wX12_above_l23 (nI n) (nI (cSt Γ s 1 ax)) Q E (f + 1) (nI s) z (nI (8 * n + ax)) w σ := by
    intro f z w
    show wX12_above_l23_b _ _ _ _ _ _ _ _ _ _
    unfold wX12_above_l23_b
    refine ⟨evs, ?_, fun _ => yes (by show nI 0 ≤ _; simp (disch := omega) only [nI_lit, nI_add, nI_mulE, nI_clampE, nI_eqE, nI_leE, nI_ltE, vp_nIE, true_and, and_true]; omega) h⟩
    exact fun _ => h
  suffices H : ∀ f a, Γ.1.2.2.1 s - a = f → a ≤ ax → wX12_above_l23 (nI n) (nI (cSt Γ s 1 ax)) Q E (f + 1) (nI s) (nI (cSt Γ s 1 ax - cSt Γ s 1 a)) (-1) (nI a) σ from H _ 0 rfl (Nat.zero_le _)
  intro f
  induction f with
  | zero => intro a hf hax; omega
  | succ f ih =>
    intro a hf hax
    have ha1 : a < Γ.1.2.2.1 s := by omega
    have e8 : (8 : Int32) * nI s + nI a = nI (8 * s + a) := by show nI 8 * nI _ + _ = _; rw [nI_mulE, nI_add]
    show wX12_above_l23_b (nI n) (nI (cSt Γ s 1 ax)) Q E (wX12_above_l23 (nI n) (nI (cSt Γ s 1 ax)) Q E (f + 1)) _ _ _ _ σ
    unfold wX12_above_l23_b
    rw [ecs, h99, e8, nI_clampE (show 8 * s + a < 2147483648 by omega), hst a ha1]
    refine ⟨evs, no (by simp (disch := omega) only [nI_lit, nI_add, nI_mulE, nI_clampE, nI_eqE, nI_leE, nI_ltE, vp_nIE, true_and, and_true]; omega) (no (by decide) ⟨by simp (disch := omega) only [nI_lit, nI_add, nI_mulE, nI_clampE, nI_eqE, nI_leE, nI_ltE, vp_nIE, true_and, and_true]; omega, ?_⟩)⟩
    have hm := cSt_mo Γ s 1 hax
    have eS : cSt Γ s 1 (a + 1) = cSt Γ s 1 a + (if stv Γ s a = 1 then 1 else 0) := rfl
    by_cases k : stv Γ s a = 1
    · rw [if_pos k] at eS
      refine no (fun q => q (by rw [k]; rfl)) ?_
      unfold wX12_above_j60
      refine no (by decide) ?_
      by_cases e : a = ax
      · refine no (fun q => q ?_) ?_
        · rw [e, Nat.sub_self]; rfl
        · unfold wX12_above_j84 wX12_above_j100
          rw [show (8 : Int32) * nI n + nI a = nI (8 * n + ax) by show nI 8 * nI _ + _ = _; rw [nI_mulE, nI_add, e], nI_1]
          exact no (by decide) (fe (fin f _ _))
      · have hm2 := cSt_mo Γ s 1 (show a + 1 ≤ ax by omega)
        refine yes (by show ¬ _ = nI 0; rw [nI_eqE (by omega) (by omega)]; omega) ?_
        unfold wX12_above_j82 wX12_above_j84 wX12_above_j100
        rw [show nI (cSt Γ s 1 ax - cSt Γ s 1 a) - (1 : Int32) = nI (cSt Γ s 1 ax - cSt Γ s 1 (a + 1)) by show _ - nI 1 = _; rw [nI_subE (by omega)]; congr 1; omega, nI_1]
        exact no (by decide) (fe (ih (a + 1) (by omega) (by omega)))
    · rw [if_neg k] at eS
      have hst2 : stv Γ s a ≤ 2 := stv_le Γ s a
      have hne : a ≠ ax := fun q => k (by rw [q]; exact h1)
      refine yes (by show ¬ nI _ = nI 1; rw [nI_eqE (by omega) (by omega)]; exact k) ?_
      unfold wX12_above_j60
      refine yes rfl ?_
      unfold wX12_above_j82 wX12_above_j84 wX12_above_j100
      rw [nI_1]
      have IH := ih (a + 1) (by omega) (by omega)
      rw [eS, Nat.add_zero] at IH
      exact yes rfl (fe IH)
theorem m_iF50 (hW : MW σ Γ) (hM : MTt σ Γ T) (hV : GRV Γ) (hT : TOK Γ T) (hn : n < T.N) {o ox ax N0 : Nat} (ho1 : 1 ≤ o) (ho : o ≤ rt Γ (T.pr n)) (hax : o = ox → ax < Γ.1.2.2.1 (oSy Γ (T.pr n) o) ∧ stv Γ (oSy Γ (T.pr n) o) ax = 1 ∧ N0 = frA Γ (T.pr n) o + cSt Γ (oSy Γ (T.pr n) o) 1 ax) (hN0 : o < ox → frA Γ (T.pr n) (o + 1) ≤ N0) (hN : N0 < 1000) {a1 : Int32} {K145 : Int32 → Int32 → Int32 → ab_S → Prop} (hlt : o < ox → K145 (nI (N0 - frA Γ (T.pr n) (o + 1))) (-1) (nI o) σ) (heq : o = ox → ∀ z, K145 z (nI (8 * T.ch n o + ax)) (nI o) σ) : ∀ f a, Γ.1.2.2.1 (oSy Γ (T.pr n) o) - a = f → a ≤ Γ.1.2.2.1 (oSy Γ (T.pr n) o) → (o < ox ∨ (o = ox ∧ a ≤ ax)) → wX12_inFrame_l50 (nI n) a1 Q E K145 (f + 1) (nI (N0 - (frA Γ (T.pr n) o + cSt Γ (oSy Γ (T.pr n) o) 1 a))) (-1) (nI o) (nI (oSy Γ (T.pr n) o)) (nI a) σ := by
  have hN2 := hT.2.1
  have hp := (hT.2.2 n hn).1.1
  have h30 := hV.2.1
  have h12 := hV.1.1
  have hch := t_ch hT hn ho
  have h3 : rt Γ (T.pr n) ≤ 3 := (hV.2.2.2 _ hp).2.1.1
  have hs : oSy Γ (T.pr n) o < Γ.1.1 := (hV.2.2.2 _ hp).2.1.2.1 o ho
  have h8 := (hV.1.2.2 _ hs).2.1
  have h99 := (hW.1.1.1.2 _ hs).2.1
  have hst : ∀ a, a < Γ.1.2.2.1 (oSy Γ (T.pr n) o) → σ.2.1 123 (8 * oSy Γ (T.pr n) o + a) = nI (stv Γ (oSy Γ (T.pr n) o) a) := fun a ha => hW.2.2 _ a hs ha
  have eF : frA Γ (T.pr n) (o + 1) = frA Γ (T.pr n) o + cSt Γ (oSy Γ (T.pr n) o) 1 (Γ.1.2.2.1 (oSy Γ (T.pr n) o)) := by
    show frA Γ (T.pr n) o + (if o = 0 then 0 else _) = _
    rw [if_neg (by omega)]
  have h132 := (hM.2 n hn).2.2.2.2 o ho1 ho
  have e3 : (3 : Int32) * nI n + nI o - 1 = nI (3 * n + (o - 1)) := by
    show nI 3 * _ + _ - nI 1 = _
    rw [nI_mulE, nI_add, nI_subE (by omega)]; congr 1; omega
  generalize oSy Γ (T.pr n) o = s at *
  have ecs : (nI s).toNatClampNeg = s := nI_clampE (by omega)
  have evs : vp_in (nI s) 13 := by simp (disch := omega) only [nI_lit, nI_add, nI_mulE, nI_clampE, nI_eqE, nI_leE, nI_ltE, vp_nIE, true_and, and_true]; omega
  have fin : o = ox → ∀ f z w, wX12_inFrame_l50 (nI n) a1 Q E K145 (f + 1) z (nI (8 * T.ch n o + ax)) (nI o) (nI s) w σ := by
    intro e f z w
    show wX12_inFrame_l50_b _ _ _ _ _ _ _ _ _ _ _ _
    unfold wX12_inFrame_l50_b
    exact ⟨evs, fun _ => heq e _, fun _ => yes (by have := (hax e).1; show nI 0 ≤ _; simp (disch := omega) only [nI_lit, nI_add, nI_mulE, nI_clampE, nI_eqE, nI_leE, nI_ltE, vp_nIE, true_and, and_true]; omega) (heq e _)⟩
  intro f
  induction f with
  | zero =>
    intro a hf ha hd
    have e : a = Γ.1.2.2.1 s := by omega
    show wX12_inFrame_l50_b _ _ _ _ _ _ _ _ _ _ _ _
    unfold wX12_inFrame_l50_b
    rw [ecs, h99]
    refine ⟨evs, yes (by rw [e]; simp (disch := omega) only [nI_lit, nI_add, nI_mulE, nI_clampE, nI_eqE, nI_leE, nI_ltE, vp_nIE, true_and, and_true]; omega) ?_⟩
    rcases hd with hd | ⟨hd, hd2⟩
    · rw [e, ← eF]; exact hlt hd
    · have := (hax hd).1; omega
  | succ f ih =>
    intro a hf ha hd
    have ha1 : a < Γ.1.2.2.1 s := by omega
    have e8 : (8 : Int32) * nI s + nI a = nI (8 * s + a) := by show nI 8 * nI _ + _ = _; rw [nI_mulE, nI_add]
    show wX12_inFrame_l50_b (nI n) a1 Q E K145 (wX12_inFrame_l50 (nI n) a1 Q E K145 (f + 1)) _ _ _ _ _ σ
    unfold wX12_inFrame_l50_b
    rw [ecs, h99, e8, nI_clampE (show 8 * s + a < 2147483648 by omega), hst a ha1]
    refine ⟨evs, no (by simp (disch := omega) only [nI_lit, nI_add, nI_mulE, nI_clampE, nI_eqE, nI_leE, nI_ltE, vp_nIE, true_and, and_true]; omega) (no (by decide) ⟨by simp (disch := omega) only [nI_lit, nI_add, nI_mulE, nI_clampE, nI_eqE, nI_leE, nI_ltE, vp_nIE, true_and, and_true]; omega, ?_⟩)⟩
    have eS : cSt Γ s 1 (a + 1) = cSt Γ s 1 a + (if stv Γ s a = 1 then 1 else 0) := rfl
    by_cases k : stv Γ s a = 1
    · rw [if_pos k] at eS
      refine no (fun q => q (by rw [k]; rfl)) ?_
      unfold wX12_inFrame_j89
      refine no (by decide) ?_
      by_cases e : o = ox ∧ a = ax
      · obtain ⟨x1, x2, x3⟩ := hax e.1
        refine no (fun q => q ?_) ⟨by rw [e3]; simp (disch := omega) only [nI_lit, nI_add, nI_mulE, nI_clampE, nI_eqE, nI_leE, nI_ltE, vp_nIE, true_and, and_true]; omega, ?_⟩
        · rw [x3, e.2, Nat.sub_self]; rfl
        · rw [e3, nI_clampE (show 3 * n + (o - 1) < 2147483648 by omega), h132]
          unfold wX12_inFrame_j124 wX12_inFrame_j138
          rw [show (8 : Int32) * nI (T.ch n o) + nI a = nI (8 * T.ch n o + ax) by show nI 8 * nI _ + _ = _; rw [nI_mulE, nI_add, e.2], nI_1]
          exact no (by decide) (fe (fin e.1 f _ _))
      · have hle : frA Γ (T.pr n) o + cSt Γ s 1 (a + 1) ≤ N0 ∧ (o < ox ∨ (o = ox ∧ a + 1 ≤ ax)) := by
          rcases hd with hd | ⟨hd, hd2⟩
          · have := cSt_mo Γ s 1 (show a + 1 ≤ Γ.1.2.2.1 s by omega)
            have := hN0 hd
            exact ⟨by omega, Or.inl hd⟩
          · have h2 : a + 1 ≤ ax := by have : a ≠ ax := fun q => e ⟨hd, q⟩; omega
            have := cSt_mo Γ s 1 h2
            have := (hax hd).2.2
            exact ⟨by omega, Or.inr ⟨hd, h2⟩⟩
        refine yes (by show ¬ _ = nI 0; rw [nI_eqE (by omega) (by omega)]; omega) ?_
        unfold wX12_inFrame_j122 wX12_inFrame_j124 wX12_inFrame_j138
        rw [show nI (N0 - (frA Γ (T.pr n) o + cSt Γ s 1 a)) - (1 : Int32) = nI (N0 - (frA Γ (T.pr n) o + cSt Γ s 1 (a + 1))) by show _ - nI 1 = _; rw [nI_subE (by omega)]; congr 1; omega, nI_1]
        exact no (by decide) (fe (ih (a + 1) (by omega) (by omega) hle.2))
    · rw [if_neg k] at eS
      have hst2 : stv Γ s a ≤ 2 := stv_le Γ s a
      have hd' : o < ox ∨ (o = ox ∧ a + 1 ≤ ax) := by
        rcases hd with hd | ⟨hd, hd2⟩
        · exact Or.inl hd
        · have hne : a ≠ ax := fun q => k (by rw [q]; exact (hax hd).2.1)
          exact Or.inr ⟨hd, by omega⟩
      refine yes (by show ¬ nI _ = nI 1; rw [nI_eqE (by omega) (by omega)]; exact k) ?_
      unfold wX12_inFrame_j89
      refine yes rfl ?_
      unfold wX12_inFrame_j122 wX12_inFrame_j124 wX12_inFrame_j138
      rw [nI_1]
      have IH := ih (a + 1) (by omega) (by omega) hd'
      rw [eS, Nat.add_zero] at IH
      exact yes rfl (fe IH)
theorem m_inFr (hW : MW σ Γ) (hM : MTt σ Γ T) (hV : GRV Γ) (hT : TOK Γ T) (hn : n < T.N) {ox ax : Nat} (ho1 : 1 ≤ ox) (ho : ox ≤ rt Γ (T.pr n)) (hax : ax < Γ.1.2.2.1 (oSy Γ (T.pr n) ox)) (h1 : stv Γ (oSy Γ (T.pr n) ox) ax = 1) (h : Q (nI (8 * T.ch n ox + ax)) σ) : wX12_inFrame (nI n) (nI (frA Γ (T.pr n) ox + cSt Γ (oSy Γ (T.pr n) ox) 1 ax)) Q E σ := by
  have hN2 := hT.2.1
  have hp := (hT.2.2 n hn).1.1
  have h30 := hV.2.1
  have h3 : rt Γ (T.pr n) ≤ 3 := (hV.2.2.2 _ hp).2.1.1
  have hch := t_ch hT hn ho
  have hs : oSy Γ (T.pr n) ox < Γ.1.1 := (hV.2.2.2 _ hp).2.1.2.1 ox ho
  have h8 := (hV.1.2.2 _ hs).2.1
  have hcl := cSt_le Γ (oSy Γ (T.pr n) ox) 1 ax
  have hfl := frA_le Γ hV hp ox (by omega)
  obtain ⟨N0, hN0⟩ : ∃ N0, N0 = frA Γ (T.pr n) ox + cSt Γ (oSy Γ (T.pr n) ox) 1 ax := ⟨_, rfl⟩
  have hNb : N0 < 1000 := by omega
  rw [← hN0]
  have h128 := (hM.2 n hn).1
  have h103 : σ.2.1 103 (T.pr n) = nI (rt Γ (T.pr n)) := (hW.1.1.2.2.2 _ hp).2.1
  have ecn : (nI n).toNatClampNeg = n := nI_clampE (by omega)
  have evn : vp_in (nI n) 251 := by simp (disch := omega) only [nI_lit, nI_add, nI_mulE, nI_clampE, nI_eqE, nI_leE, nI_ltE, vp_nIE, true_and, and_true]; omega
  have ecp : (nI (T.pr n)).toNatClampNeg = T.pr n := nI_clampE (by omega)
  have evp : vp_in (nI (T.pr n)) 31 := by simp (disch := omega) only [nI_lit, nI_add, nI_mulE, nI_clampE, nI_eqE, nI_leE, nI_ltE, vp_nIE, true_and, and_true]; omega
  refine ⟨5, ?_⟩
  have fin : ∀ f z o, wX12_inFrame_l8 (nI n) (nI N0) Q E (f + 1) z (nI (8 * T.ch n ox + ax)) o σ := by
    intro f z o
    show wX12_inFrame_l8_b _ _ _ _ _ _ _ _ _
    unfold wX12_inFrame_l8_b
    rw [ecn, h128]
    exact ⟨evn, evp, fun _ => h, fun _ => yes (by show nI 0 ≤ _; simp (disch := omega) only [nI_lit, nI_add, nI_mulE, nI_clampE, nI_eqE, nI_leE, nI_ltE, vp_nIE, true_and, and_true]; omega) h⟩
  suffices H : ∀ f o, ox - o = f → 1 ≤ o → o ≤ ox → ∀ g, f ≤ g → wX12_inFrame_l8 (nI n) (nI N0) Q E (g + 2) (nI (N0 - frA Γ (T.pr n) o)) (-1) (nI o) σ by
    have := H (ox - 1) 1 rfl (by omega) ho1 3 (by omega)
    rw [show frA Γ (T.pr n) 1 = 0 from rfl, Nat.sub_zero] at this
    exact this
  intro f
  induction f with
  | zero =>
    intro o hf o1 o2 g hg
    have eo : o = ox := by omega
    subst eo
    show wX12_inFrame_l8_b (nI n) (nI N0) Q E (wX12_inFrame_l8 (nI n) (nI N0) Q E (g + 1)) _ _ _ σ
    unfold wX12_inFrame_l8_b
    rw [ecn, h128, ecp, h103]
    have e4 : (4 : Int32) * nI (T.pr n) + nI o = nI (4 * T.pr n + o) := by show nI 4 * nI _ + _ = _; rw [nI_mulE, nI_add]
    rw [e4, nI_clampE (show 4 * T.pr n + o < 2147483648 by omega)]
    have h104 : σ.2.1 104 (4 * T.pr n + o) = nI (oSy Γ (T.pr n) o) := (hW.1.1.2.2.2 _ hp).2.2.1 o (by show o < rt Γ (T.pr n) + 1; omega)
    rw [h104]
    refine ⟨evn, evp, no (by simp (disch := omega) only [nI_lit, nI_add, nI_mulE, nI_clampE, nI_eqE, nI_leE, nI_ltE, vp_nIE, true_and, and_true]; omega) (no (by decide) ⟨evn, by simp (disch := omega) only [nI_lit, nI_add, nI_mulE, nI_clampE, nI_eqE, nI_leE, nI_ltE, vp_nIE, true_and, and_true]; omega, fe ⟨Γ.1.2.2.1 (oSy Γ (T.pr n) o) + 1, ?_⟩⟩)⟩
    refine m_iF50 (ox := o) (ax := ax) hW hM hV hT hn o1 ho (fun _ => ⟨hax, h1, hN0⟩) (fun z => absurd z (Nat.lt_irrefl _)) hNb (fun z => absurd z (Nat.lt_irrefl _)) (fun _ z => ?_) _ 0 rfl (Nat.zero_le _) (Or.inr ⟨rfl, Nat.zero_le _⟩)
    unfold wX12_inFrame_j145
    exact fe (fin g _ _)
  | succ f ih =>
    intro o hf o1 o2 g hg
    obtain ⟨g, rfl⟩ : ∃ g', g = g' + 1 := ⟨g - 1, by omega⟩
    have hlt : o < ox := by omega
    show wX12_inFrame_l8_b (nI n) (nI N0) Q E (wX12_inFrame_l8 (nI n) (nI N0) Q E (g + 2)) _ _ _ σ
    unfold wX12_inFrame_l8_b
    rw [ecn, h128, ecp, h103]
    have e4 : (4 : Int32) * nI (T.pr n) + nI o = nI (4 * T.pr n + o) := by show nI 4 * nI _ + _ = _; rw [nI_mulE, nI_add]
    rw [e4, nI_clampE (show 4 * T.pr n + o < 2147483648 by omega)]
    have h104 : σ.2.1 104 (4 * T.pr n + o) = nI (oSy Γ (T.pr n) o) := (hW.1.1.2.2.2 _ hp).2.2.1 o (by show o < rt Γ (T.pr n) + 1; omega)
    rw [h104]
    refine ⟨evn, evp, no (by simp (disch := omega) only [nI_lit, nI_add, nI_mulE, nI_clampE, nI_eqE, nI_leE, nI_ltE, vp_nIE, true_and, and_true]; omega) (no (by decide) ⟨evn, by simp (disch := omega) only [nI_lit, nI_add, nI_mulE, nI_clampE, nI_eqE, nI_leE, nI_ltE, vp_nIE, true_and, and_true]; omega, fe ⟨Γ.1.2.2.1 (oSy Γ (T.pr n) o) + 1, ?_⟩⟩)⟩
    have hmo := frA_mo Γ (T.pr n) (show o + 1 ≤ ox by omega)
    refine m_iF50 (ox := ox) (ax := ax) (N0 := N0) hW hM hV hT hn o1 (by omega) (fun z => absurd z (by omega)) (fun _ => by omega) hNb (fun _ => ?_) (fun z => absurd z (by omega)) _ 0 rfl (Nat.zero_le _) (Or.inl hlt)
    unfold wX12_inFrame_j145
    rw [nI_1]
    exact fe (ih (o + 1) (by omega) (by omega) (by omega) g (by omega))
/-- where a value is held -/
theorem m_plc (hW : MW σ Γ) (hM : MTt σ Γ T) (hV : GRV Γ) (hT : TOK Γ T) (hn : n < T.N) {x k : Nat} (hx : slV Γ (T.pr n) x) (hk : k = gK Γ (T.pr n) x ∨ k = gK Γ (T.pr n) x + 13) (h3 : gK Γ (T.pr n) x ≠ 3) (h : Q (nI (8 * T.ch n (x / 8) + x % 8)) σ) : wX12_placeOf (nI n) (nI k) (nI (gN Γ (T.pr n) x)) Q E σ := by
  obtain ⟨x1, x2, x3⟩ := hx
  have hp := (hT.2.2 n hn).1.1
  have hr3 : rt Γ (T.pr n) ≤ 3 := (hV.2.2.2 _ hp).2.1.1
  have hs : oSy Γ (T.pr n) (x / 8) < Γ.1.1 := (hV.2.2.2 _ hp).2.1.2.1 _ x2
  have h8 := (hV.1.2.2 _ hs).2.1
  have hr := gK_r Γ (T.pr n) x
  have h0 : stv Γ (oSy Γ (T.pr n) (x / 8)) (x % 8) ≠ 0 := fun z => h3 (hr.2.2.mpr z)
  have ne : ∀ c, c < 100 → k ≠ c → ¬ nI k = nI c := fun c hc hne => by rw [nI_eqE (by omega) (by omega)]; exact hne
  unfold wX12_placeOf
  by_cases h1 : stv Γ (oSy Γ (T.pr n) (x / 8)) (x % 8) = 1
  · have eN : gN Γ (T.pr n) x = frA Γ (T.pr n) (x / 8) + cSt Γ (oSy Γ (T.pr n) (x / 8)) 1 (x % 8) := by unfold gN; rw [if_neg h0, if_pos h1]
    rw [eN]
    by_cases hx8 : x < 8
    · have eK : gK Γ (T.pr n) x = 5 := by unfold gK; rw [if_neg h0, if_pos h1, if_pos hx8]
      rw [eK] at hk
      have d0 : x / 8 = 0 := by omega
      have m0 : x % 8 = x := by omega
      rw [d0, m0] at h h1 x3 ⊢
      have ec0 : T.ch n 0 = n := (hT.2.2 n hn).1.2.2.2.2.2.1
      rw [ec0] at h
      refine no (ne 2 (by omega) (by omega)) (yes (ne 15 (by omega) (by omega)) (no (ne 4 (by omega) (by omega)) (yes (ne 17 (by omega) (by omega)) ?_)))
      have e0 : frA Γ (T.pr n) 0 + cSt Γ (oSy Γ (T.pr n) 0) 1 x = cSt Γ (hdS Γ (T.pr n)) 1 x := by show 0 + _ = _; rw [Nat.zero_add]; rfl
      rw [e0]
      exact m_above hW hM hV hT hn x3 h1 h
    · have eK : gK Γ (T.pr n) x = 4 := by unfold gK; rw [if_neg h0, if_pos h1, if_neg hx8]
      rw [eK] at hk
      have fr : wX12_placeOf_j40 (nI n) (nI k) (nI (frA Γ (T.pr n) (x / 8) + cSt Γ (oSy Γ (T.pr n) (x / 8)) 1 (x % 8))) Q E σ := m_inFr hW hM hV hT hn (by omega) x2 x3 h1 h
      refine no (ne 2 (by omega) (by omega)) (yes (ne 15 (by omega) (by omega)) ?_)
      rcases hk with hk | hk
      · exact yes (by rw [hk]; rfl) fr
      · exact no (ne 4 (by omega) (by omega)) (no (fun q => q (by rw [hk]; rfl)) fr)
  · have eN : gN Γ (T.pr n) x = 10 * (x / 8) + x % 8 := by unfold gN; rw [if_neg h0, if_neg h1]
    have eK : gK Γ (T.pr n) x = 2 := by unfold gK; rw [if_neg h0, if_neg h1]
    rw [eK] at hk
    rw [eN]
    have at2 : wX12_placeOf_j11 (nI n) (nI k) (nI (10 * (x / 8) + x % 8)) Q E σ := by
      unfold wX12_placeOf_j11
      have e : (8 : Int32) * (nI (10 * (x / 8) + x % 8) / (10 : Int32)) + (nI (10 * (x / 8) + x % 8) - nI (10 * (x / 8) + x % 8) / (10 : Int32) * (10 : Int32)) = nI x := by
        rw [i_mod10 _ (by omega), i_div10 _ (by omega)]
        show nI 8 * _ + _ = _
        rw [nI_mulE, nI_add]; congr 1; omega
      rw [e]
      exact m_vAt hM hV hT hn x1 x2 h
    rcases hk with hk | hk
    · exact yes (by rw [hk]; rfl) at2
    · exact no (ne 2 (by omega) (by omega)) (no (fun q => q (by rw [hk]; rfl)) at2)
end MP
