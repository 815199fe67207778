/-! ===== the program, the model's: a rule written ===== -/
section MP
variable {σ : ab_S} {p : Nat} {Γ : GRT} {gk gn : Nat → Nat} {E : String → ab_S → Prop}
theorem m_fP {m c : List (Nat × Nat)} {h0 L : Nat} (hl : L + m.length ≤ 2400) (hk60 : ∀ z, z ∈ m → z.1 < 60 ∧ z.2 < 1000000) (hM : MCode σ L m) (hP : PgP gk gn h0 m c) {Q : ab_S → Prop} (h : ∀ τ, FM S149 σ τ → FpA τ L m.length m.length (fpR L m (fun _ => 0, fun _ => 0, fun _ => 0)) → Q τ) : wX12_findParts (nI L) (nI (L + m.length)) Q E σ := by
  have hok := (hP.2 L (fun _ => 0, fun _ => 0, fun _ => 0) (fun _ _ _ => ⟨rfl, rfl⟩)).1 L (Nat.le_refl _)
  refine ⟨m.length + 1, ?_⟩
  suffices H : ∀ f k τ, m.length - k = f → k ≤ m.length → FM S149 σ τ → (∀ j, L ≤ j → j < L + k → τ.2.1 150 j = -1 ∧ τ.2.1 151 j = -1) → wX12_findParts_l2 (nI L) (nI (L + m.length)) Q E (wX12_findParts_j27 (nI L) (nI (L + m.length)) Q E) (f + 1) (nI (L + k)) τ from H _ 0 σ rfl (Nat.zero_le _) (FM.rf _ _) (fun j j1 j2 => by omega)
  intro f
  induction f with
  | zero =>
    intro k τ hf hk hF hd
    have e : k = m.length := by omega
    show wX12_findParts_l2_b _ _ _ _ _ _ _ _
    unfold wX12_findParts_l2_b
    refine yes (by simp (disch := omega) only [nI_lit, nI_add, nI_mulE, nI_clampE, nI_eqE, nI_leE, nI_ltE, vp_nIE, true_and, and_true]; omega) ?_
    unfold wX12_findParts_j27
    refine ⟨m.length + 1, ?_⟩
    have hM' : MCode τ L m := fun i hi => by rw [hF.1 107 _ (decide_eq_false (by omega)), hF.1 108 _ (decide_eq_false (by omega))]; exact hM i hi
    refine m_fp1 hl hk60 hM' hok (fun τ' F' A' => h τ' (hF.tr F') A') m 0 (fun _ => 0, fun _ => 0, fun _ => 0) τ rfl (Nat.zero_le _) rfl hok (fun j j1 j2 => by omega) (FM.rf _ _) ⟨fun j j1 j2 => by omega, fun j j1 j2 => ?_⟩
    rw [e] at hd
    exact hd j j1 j2
  | succ f ih =>
    intro k τ hf hk hF hd
    show wX12_findParts_l2_b (nI L) (nI (L + m.length)) Q E _ (wX12_findParts_l2 (nI L) (nI (L + m.length)) Q E (wX12_findParts_j27 (nI L) (nI (L + m.length)) Q E) (f + 1)) (nI (L + k)) τ
    unfold wX12_findParts_l2_b
    rw [nI_clampE (show L + k < 2147483648 by omega), nI_1]
    refine no (by simp (disch := omega) only [nI_lit, nI_add, nI_mulE, nI_clampE, nI_eqE, nI_leE, nI_ltE, vp_nIE, true_and, and_true]; omega) ⟨by simp (disch := omega) only [nI_lit, nI_add, nI_mulE, nI_clampE, nI_eqE, nI_leE, nI_ltE, vp_nIE, true_and, and_true]; omega, fe ⟨by simp (disch := omega) only [nI_lit, nI_add, nI_mulE, nI_clampE, nI_eqE, nI_leE, nI_ltE, vp_nIE, true_and, and_true]; omega, fe (fe (ih (k + 1) _ (by omega) (by omega) ((hF.I (decide_eq_true (by omega))).I (decide_eq_true (by omega))) (fun j j1 j2 => ?_)))⟩⟩
    refine ⟨?_, ?_⟩
    · rw [gI_I, if_neg (by decide), gI_I, if_pos rfl]
      by_cases e : j = L + k
      · rw [if_pos e]
      · rw [if_neg e]; exact (hd j j1 (by omega)).1
    · rw [gI_I, if_pos rfl]
      by_cases e : j = L + k
      · rw [if_pos e]
      · rw [if_neg e, gI_I, if_neg (by decide)]; exact (hd j j1 (by omega)).2
/-- the second pass's rows -/
def WrA (σ : ab_S) (L N : Nat) (Md La : Nat → Nat) (W : WRS) : Prop := σ.2.1 92 74 = nI W.1 ∧ (∀ j, j < W.1 → σ.2.1 146 j = nI (W.2.1 j) ∧ σ.2.1 147 j = nI (W.2.2.1 j)) ∧ (∀ j, W.2.2.2.1 j < 7000 → σ.2.1 152 j = nI (W.2.2.2.1 j)) ∧ (∀ j, W.2.2.2.2 j < 7000 → σ.2.1 153 j = nI (W.2.2.2.2 j)) ∧ ∀ j, L ≤ j → j < L + N → σ.2.1 150 j = mkI (Md j) ∧ σ.2.1 151 j = mkI (La j)
def S152 : Nat → Nat → Bool := fun a i => decide ((a = 92 ∧ i = 74) ∨ a = 146 ∨ a = 147 ∨ a = 152 ∨ a = 153)
theorem m_wrt {A : List (Nat × Nat × Nat)} {k v : Nat} (h74 : σ.2.1 92 74 = nI A.length) (hl : A.length < 3000) {Q : ab_S → Prop} (h : Q (ab_I (ab_I (ab_I σ 146 A.length (nI k)) 147 A.length (nI v)) 92 74 (nI (A.length + 1)))) : wX12_write (nI k) (nI v) Q E σ := by
  have ec : (nI A.length).toNatClampNeg = A.length := nI_clampE (by omega)
  have ev : vp_in (nI A.length) 7000 := by simp (disch := omega) only [nI_lit, nI_add, nI_mulE, nI_clampE, nI_eqE, nI_leE, nI_ltE, vp_nIE, true_and, and_true]; omega
  unfold wX12_write
  rw [h74, ec]
  refine ⟨ev, fe ?_⟩
  rw [gI_I, if_neg (by decide), h74, ec]
  refine ⟨ev, fe ?_⟩
  rw [gI_I, if_neg (by decide), gI_I, if_neg (by decide), h74, nI_1]
  exact fe h
theorem m_wr {I k v : Nat} (h74 : σ.2.1 92 74 = nI I) (hl : I < 3000) {Q : ab_S → Prop} (h : Q (ab_I (ab_I (ab_I σ 146 I (nI k)) 147 I (nI v)) 92 74 (nI (I + 1)))) : wX12_write (nI k) (nI v) Q E σ := by
  have ec : (nI I).toNatClampNeg = I := nI_clampE (by omega)
  have ev : vp_in (nI I) 7000 := by simp (disch := omega) only [nI_lit, nI_add, nI_mulE, nI_clampE, nI_eqE, nI_leE, nI_ltE, vp_nIE, true_and, and_true]; omega
  unfold wX12_write
  rw [h74, ec]
  refine ⟨ev, fe ?_⟩
  rw [gI_I, if_neg (by decide), h74, ec]
  refine ⟨ev, fe ?_⟩
  rw [gI_I, if_neg (by decide), gI_I, if_neg (by decide), h74, nI_1]
  exact fe h
theorem WrA.wr {L N : Nat} {Md La : Nat → Nat} {W : WRS} (hA : WrA σ L N Md La W) {k v : Nat} (hl : W.1 < 3000) {Q : ab_S → Prop} (h : ∀ τ, FM S152 σ τ → WrA τ L N Md La (W.1 + 1, uf W.2.1 W.1 k, uf W.2.2.1 W.1 v, W.2.2.2.1, W.2.2.2.2) → Q τ) : wX12_write (nI k) (nI v) Q E σ := by
  obtain ⟨a1, a2, a3, a4, a5⟩ := hA
  refine m_wr a1 hl (h _ ((((FM.rf _ σ).I (decide_eq_true (by omega))).I (decide_eq_true (by omega))).I (decide_eq_true (by omega))) ⟨?_, fun j hj => ?_, fun j hj => ?_, fun j hj => ?_, fun j j1 j2 => ?_⟩)
  · rw [gI_I, if_pos rfl, if_pos rfl]
  · have hj : j < W.1 + 1 := hj
    refine ⟨?_, ?_⟩
    · rw [gI_I, if_neg (by decide), gI_I, if_neg (by decide), gI_I, if_pos rfl]
      show _ = nI (uf W.2.1 W.1 k j)
      by_cases e : j = W.1
      · rw [if_pos e, e, uf_s]
      · rw [if_neg e, uf_o _ _ e]; exact (a2 j (by omega)).1
    · rw [gI_I, if_neg (by decide), gI_I, if_pos rfl]
      show _ = nI (uf W.2.2.1 W.1 v j)
      by_cases e : j = W.1
      · rw [if_pos e, e, uf_s]
      · rw [if_neg e, uf_o _ _ e, gI_I, if_neg (by decide)]; exact (a2 j (by omega)).2
  · rw [gI_I, if_neg (by decide), gI_I, if_neg (by decide), gI_I, if_neg (by decide)]; exact a3 j hj
  · rw [gI_I, if_neg (by decide), gI_I, if_neg (by decide), gI_I, if_neg (by decide)]; exact a4 j hj
  · refine ⟨?_, ?_⟩
    · rw [gI_I, if_neg (by decide), gI_I, if_neg (by decide), gI_I, if_neg (by decide)]; exact (a5 j j1 j2).1
    · rw [gI_I, if_neg (by decide), gI_I, if_neg (by decide), gI_I, if_neg (by decide)]; exact (a5 j j1 j2).2
theorem mkA_mo {Md : Nat → Nat} {W : WRS} {j : Nat} : W.1 ≤ (mkA Md W j).1 := by unfold mkA; split; exact Nat.le_refl _; exact Nat.le_succ _
theorem mkB_mo {La : Nat → Nat} {W : WRS} {j : Nat} : W.1 ≤ (mkB La W j).1 := by unfold mkB; split; exact Nat.le_refl _; exact Nat.le_succ _
theorem in1_mo {W : WRS} {j : Nat} {z : Nat × Nat} : W.1 ≤ (in1 gk gn W j z).1 := by unfold in1; split; exact Nat.le_refl _; exact Nat.le_succ _
theorem wrR_mo {Md La : Nat → Nat} : ∀ (m : List (Nat × Nat)) (L : Nat) (W : WRS), W.1 ≤ (wrR gk gn Md La L m W).1
  | [], _, _ => Nat.le_refl _
  | z :: r, L, W => by
    have a := wrR_mo (Md := Md) (La := La) r (L + 1) (in1 gk gn (mk1 Md La W L) L z)
    have b := in1_mo (gk := gk) (gn := gn) (W := mk1 Md La W L) (j := L) (z := z)
    have c1 := mkB_mo (La := La) (W := mkA Md W L) (j := L)
    have d := mkA_mo (Md := Md) (W := W) (j := L)
    have e : (mk1 Md La W L).1 = (mkB La (mkA Md W L) L).1 := rfl
    show W.1 ≤ (wrR gk gn Md La (L + 1) r (in1 gk gn (mk1 Md La W L) L z)).1
    omega
variable {K307 : ab_S → Prop} {Q : ab_S → Prop} {a1 x4 : Int32} {Bk : Int32 → Int32 → ab_S → Prop}
/-- a TEST ahead of it -/
theorem m_mkTe {L N : Nat} {Md La : Nat → Nat} {W : WRS} (hA : WrA σ L N Md La W) {j : Nat} (h1 : L ≤ j) (h2 : j < L + N) (h3 : L + N ≤ 2400) (hb : Md j ≤ 2400) (hl : (mkA Md W j).1 ≤ 3000) {x4 : Int32} (hx : ¬ x4 ≤ nI j) (h : ∀ τ, FM S152 σ τ → WrA τ L N Md La (mkA Md W j) → wX12_writeRule_j75 (nI p) a1 Q E K307 Bk x4 (nI j) τ) : wX12_writeRule_l35_b (nI p) a1 Q E K307 Bk x4 (nI j) σ := by
  have ec : (nI j).toNatClampNeg = j := nI_clampE (by omega)
  have ev : vp_in (nI j) 2500 := by simp (disch := omega) only [nI_lit, nI_add, nI_mulE, nI_clampE, nI_eqE, nI_leE, nI_ltE, vp_nIE, true_and, and_true]; omega
  unfold wX12_writeRule_l35_b
  rw [ec, (hA.2.2.2.2 j h1 h2).1]
  refine no hx ⟨ev, ?_⟩
  by_cases e : Md j = 0
  · have em : mkA Md W j = W := by unfold mkA; rw [if_pos e]
    rw [em] at h
    exact yes ((mkI_lt (by omega)).mpr e) (h σ (FM.rf _ _) hA)
  · have em : mkA Md W j = (W.1 + 1, uf W.2.1 W.1 13, uf W.2.2.1 W.1 0, uf W.2.2.2.1 (Md j) W.1, W.2.2.2.2) := by unfold mkA; rw [if_neg e]
    rw [em] at h hl
    have hl : W.1 + 1 ≤ 3000 := hl
    refine no (fun q => e ((mkI_lt (by omega)).mp q)) ⟨ev, ?_⟩
    have emk : mkI (Md j) = nI (Md j) := by unfold mkI; rw [if_neg e]
    rw [emk, nI_clampE (show Md j < 2147483648 by omega), hA.1]
    refine ⟨by simp (disch := omega) only [nI_lit, nI_add, nI_mulE, nI_clampE, nI_eqE, nI_leE, nI_ltE, vp_nIE, true_and, and_true]; omega, fe ?_⟩
    generalize hσ1 : ab_I σ 152 (Md j) (nI W.1) = σ1
    have F1 : FM S152 σ σ1 := by rw [← hσ1]; exact (FM.rf _ σ).I (decide_eq_true (by omega))
    have A1 : WrA σ1 L N Md La (W.1, W.2.1, W.2.2.1, uf W.2.2.2.1 (Md j) W.1, W.2.2.2.2) := by
      obtain ⟨a1, a2, a3, a4, a5⟩ := hA
      rw [← hσ1]
      refine ⟨by rw [gI_I, if_neg (by decide)]; exact a1, fun i hi => by rw [gI_I, if_neg (by decide), gI_I, if_neg (by decide)]; exact a2 i hi, fun i hi => ?_, fun i hi => by rw [gI_I, if_neg (by decide)]; exact a4 i hi, fun i i1 i2 => by rw [gI_I, if_neg (by decide), gI_I, if_neg (by decide)]; exact a5 i i1 i2⟩
      have hi : uf W.2.2.2.1 (Md j) W.1 i < 7000 := hi
      show _ = nI (uf W.2.2.2.1 (Md j) W.1 i)
      rw [gI_I, if_pos rfl]
      by_cases e2 : i = Md j
      · rw [if_pos e2, e2, uf_s]
      · rw [uf_o _ _ e2] at hi
        rw [if_neg e2, uf_o _ _ e2]; exact a3 i hi
    refine A1.wr (k := 13) (v := 0) (by show W.1 < 3000; omega) (fun τ F2 A2 => h τ (F1.tr F2) A2)
/-- a JUMP ahead of it -/
theorem m_mkJu {L N : Nat} {Md La : Nat → Nat} {W : WRS} (hA : WrA σ L N Md La W) {j : Nat} (h1 : L ≤ j) (h2 : j < L + N) (h3 : L + N ≤ 2400) (hb : La j ≤ 2400) (hm : La j = 0 ∨ W.2.2.2.1 (La j) < W.1) (hl : (mkB La W j).1 ≤ 3000) (h : ∀ τ, FM S152 σ τ → WrA τ L N Md La (mkB La W j) → wX12_writeRule_j129 (nI p) a1 Q E K307 Bk x4 (nI j) τ) : wX12_writeRule_j75 (nI p) a1 Q E K307 Bk x4 (nI j) σ := by
  have ec : (nI j).toNatClampNeg = j := nI_clampE (by omega)
  have ev : vp_in (nI j) 2500 := by simp (disch := omega) only [nI_lit, nI_add, nI_mulE, nI_clampE, nI_eqE, nI_leE, nI_ltE, vp_nIE, true_and, and_true]; omega
  unfold wX12_writeRule_j75
  rw [ec, (hA.2.2.2.2 j h1 h2).2]
  refine ⟨ev, ?_⟩
  by_cases e : La j = 0
  · have em : mkB La W j = W := by unfold mkB; rw [if_pos e]
    rw [em] at h
    exact yes ((mkI_lt (by omega)).mpr e) (h σ (FM.rf _ _) hA)
  · have em : mkB La W j = (W.1 + 1, uf W.2.1 W.1 14, uf (uf W.2.2.1 W.1 0) (W.2.2.2.1 (La j)) (W.1 + 1), W.2.2.2.1, uf W.2.2.2.2 (La j) W.1) := by unfold mkB; rw [if_neg e]
    rw [em] at h hl
    have hl : W.1 + 1 ≤ 3000 := hl
    have hm := hm.resolve_left e
    refine no (fun q => e ((mkI_lt (by omega)).mp q)) ⟨ev, ?_⟩
    have emk : mkI (La j) = nI (La j) := by unfold mkI; rw [if_neg e]
    have ecl : (nI (La j)).toNatClampNeg = La j := nI_clampE (by omega)
    have evl : vp_in (nI (La j)) 2500 := by simp (disch := omega) only [nI_lit, nI_add, nI_mulE, nI_clampE, nI_eqE, nI_leE, nI_ltE, vp_nIE, true_and, and_true]; omega
    rw [emk, ecl, hA.1]
    refine ⟨evl, fe ?_⟩
    generalize hσ1 : ab_I σ 153 (La j) (nI W.1) = σ1
    have F1 : FM S152 σ σ1 := by rw [← hσ1]; exact (FM.rf _ σ).I (decide_eq_true (by omega))
    have A1 : WrA σ1 L N Md La (W.1, W.2.1, W.2.2.1, W.2.2.2.1, uf W.2.2.2.2 (La j) W.1) := by
      obtain ⟨a1, a2, a3, a4, a5⟩ := hA
      rw [← hσ1]
      refine ⟨by rw [gI_I, if_neg (by decide)]; exact a1, fun i hi => by rw [gI_I, if_neg (by decide), gI_I, if_neg (by decide)]; exact a2 i hi, fun i hi => by rw [gI_I, if_neg (by decide)]; exact a3 i hi, fun i hi => ?_, fun i i1 i2 => by rw [gI_I, if_neg (by decide), gI_I, if_neg (by decide)]; exact a5 i i1 i2⟩
      have hi : uf W.2.2.2.2 (La j) W.1 i < 7000 := hi
      show _ = nI (uf W.2.2.2.2 (La j) W.1 i)
      rw [gI_I, if_pos rfl]
      by_cases e2 : i = La j
      · rw [if_pos e2, e2, uf_s]
      · rw [uf_o _ _ e2] at hi
        rw [if_neg e2, uf_o _ _ e2]; exact a4 i hi
    refine A1.wr (k := 14) (v := 0) (by show W.1 < 3000; omega) (fun τ F2 A2 => ⟨ev, ?_⟩)
    obtain ⟨a1, a2, a3, a4, a5⟩ := A2
    have a1 : τ.2.1 92 74 = nI (W.1 + 1) := a1
    have t1 : τ.2.1 152 (La j) = nI (W.2.2.2.1 (La j)) := a3 _ (by show W.2.2.2.1 (La j) < 7000; omega)
    rw [(a5 j h1 h2).2, emk, ecl, t1, nI_clampE (show W.2.2.2.1 (La j) < 2147483648 by omega), a1]
    refine ⟨evl, by simp (disch := omega) only [nI_lit, nI_add, nI_mulE, nI_clampE, nI_eqE, nI_leE, nI_ltE, vp_nIE, true_and, and_true]; omega, fe ?_⟩
    refine h _ ((F1.tr F2).I (decide_eq_true (by omega))) ⟨by rw [gI_I, if_neg (by decide)]; exact a1, fun i hi => ?_, fun i hi => by rw [gI_I, if_neg (by decide)]; exact a3 i hi, fun i hi => by rw [gI_I, if_neg (by decide)]; exact a4 i hi, fun i i1 i2 => by rw [gI_I, if_neg (by decide), gI_I, if_neg (by decide)]; exact a5 i i1 i2⟩
    obtain ⟨b1, b2⟩ := a2 i hi
    rw [gI_I, if_neg (by decide), gI_I, if_pos rfl]
    refine ⟨b1, ?_⟩
    show _ = nI (uf (uf W.2.2.1 W.1 0) (W.2.2.2.1 (La j)) (W.1 + 1) i)
    by_cases e2 : i = W.2.2.2.1 (La j)
    · rw [if_pos e2, e2, uf_s]
    · rw [if_neg e2, uf_o _ _ e2]; exact b2
end MP
