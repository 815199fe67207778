/-! ===== put, end ===== -/
def Cls : Nat → Nat → Bool := fun a _ => decide (a < 92 ∨ a = 163)
def Mdl : Nat → Nat → Bool := fun a _ => decide (92 ≤ a ∧ a ≤ 162)
def CDo (W : (Int32 → ab_S → Prop) → ab_S → Prop) (σ : ab_S) (c : Nat) (v : Int32) (A : AST) : Prop := c ≤ 4 ∧ ∀ Q : Int32 → ab_S → Prop, (∀ τ, FM Cls σ τ → (∃ g q x y, CIv τ A g q x y) → (c = 0 → τ.2.2.1 163 0 = v.toInt64) → Q (nI c) τ) → W Q σ
def MDo (W : (Int32 → ab_S → Prop) → ab_S → Prop) (σ : ab_S) (c : Nat) (v : Int32) (A : AST) : Prop := ∀ Q : Int32 → ab_S → Prop, (∀ τ r, FM Mdl σ τ → MIv τ A → τ.2.1 92 0 = nI c → (c = 0 → r = v) → Q r τ) → W Q σ
section IV
variable {σ τ : ab_S} {F : Nat → Nat → Bool} {g q x y : Nat} {A : AST} {t : Nat → Nat} {n : Nat}
theorem CIv.tx (h : CIv σ A g q x y) (hA : AOK A) (f : FM F σ τ) (e : ∀ a i, a < 92 → ¬ (a = 1 ∨ a = 2 ∨ a = 42 ∨ a = 43 ∨ (3 ≤ a ∧ a ≤ 10)) → F a i = false) (hT : CT τ t n) : CIv τ ((t, n), A.2) g q x y := by
  obtain ⟨h1, h2, ⟨r1, r2, r3, r4⟩, ⟨f1, f2, f3⟩, ⟨m1, m2⟩, h6, h7, h8⟩ := h
  have hgb := isG_b h2.1
  have hxb := isT_b h2.2.2.2.1
  refine ⟨hT, h2, ⟨by rw [f.2.2 _ _ (e _ _ (by omega) (by omega))]; exact r1, by rw [f.2.2 _ _ (e _ _ (by omega) (by omega))]; exact r2, by rw [f.2.2 _ _ (e _ _ (by omega) (by omega))]; exact r3, by rw [f.2.2 _ _ (e _ _ (by omega) (by omega))]; exact r4⟩, ⟨by rw [f.1 _ _ (e _ _ (by omega) (by omega))]; exact f1, by rw [f.1 _ _ (e _ _ (by omega) (by omega))]; exact f2, by rw [f.1 _ _ (e _ _ (by omega) (by omega))]; exact f3⟩, ⟨by rw [f.1 _ _ (e _ _ (by omega) (by omega))]; exact m1, by rw [f.1 _ _ (e _ _ (by omega) (by omega))]; exact m2⟩, fun z => (h6 z).fm (hA.gV z) f (fun a i _ => e _ _ (by omega) (by omega)), fun z => ⟨(h7 z).1.fm f (fun a i _ _ => e _ _ (by omega) (by omega)), (h7 z).2.fm f (fun i => e _ _ (by omega) (by omega))⟩, fun z => ⟨(h8 z).1.fmA (hA.gV (hA.hg (hA.ht z))) f (fun a i _ => e _ _ (by omega) (by omega)), (h8 z).2.1.fmA f (fun a i _ => e _ _ (by omega) (by omega)), by rw [f.1 _ _ (e _ _ (by omega) (by omega))]; exact (h8 z).2.2⟩⟩
theorem MIv.tx (h : MIv σ A) (hA : AOK A) (f : FM F σ τ) (e : ∀ a i, 92 ≤ a → a ≤ 162 → ¬ ((a = 92 ∧ (i = 0 ∨ i = 2)) ∨ a = 93 ∨ (142 ≤ a ∧ a ≤ 145)) → F a i = false) (hT : MTx τ t n) : MIv τ ((t, n), A.2) := by
  obtain ⟨h1, h2, ⟨f1, f2, f3⟩, h4, h5, h6⟩ := h
  exact ⟨hT, h2.fm f (fun i => e _ _ (by omega) (by omega) (by omega)), ⟨by rw [f.1 _ _ (e _ _ (by omega) (by omega) (by omega))]; exact f1, by rw [f.1 _ _ (e _ _ (by omega) (by omega) (by omega))]; exact f2, by rw [f.1 _ _ (e _ _ (by omega) (by omega) (by omega))]; exact f3⟩, fun z => ⟨(h4 z).1.fm f (e _ _ (by omega) (by omega) (by omega)) (fun i => e _ _ (by omega) (by omega) (by omega)), (h4 z).2.fm (hA.gV z) f (fun a i _ => e _ _ (by omega) (by omega) (by omega))⟩, fun z => ⟨(h5 z).1.fm f (e _ _ (by omega) (by omega) (by omega)) (fun a i _ _ => e _ _ (by omega) (by omega) (by omega)), (h5 z).2.fm f (fun a i _ => e _ _ (by omega) (by omega) (by omega))⟩, fun z => ⟨(h6 z).1.fm f (fun a i _ => e _ _ (by omega) (by omega) (by omega)), by rw [f.1 _ _ (e _ _ (by omega) (by omega) (by omega))]; exact (h6 z).2⟩⟩
end IV
theorem and255 (x : Int32) : ∃ b, b < 256 ∧ x &&& 255 = nI b := by
  refine ⟨(x &&& 255).toBitVec.toNat, ?_, ?_⟩
  · rw [Int32.toBitVec_and, BitVec.toNat_and]
    have : (255 : Int32).toBitVec.toNat = 255 := by decide
    rw [this]
    exact Nat.lt_of_le_of_lt Nat.and_le_right (by omega)
  · apply Int32.toBitVec_inj.mp
    show _ = BitVec.ofNat 32 _
    rw [BitVec.ofNat_toNat, BitVec.setWidth_eq]
/-- the bytes of a number -/
noncomputable def byt (a : Int32) (j : Nat) : Nat := Classical.choose (and255 ((a.toUInt32 >>> ((nI (8 * j)).toUInt32 &&& Int32.toUInt32 31)).toInt32))
theorem byt_c (a : Int32) (j : Nat) : byt a j < 256 ∧ ((a.toUInt32 >>> ((nI (8 * j)).toUInt32 &&& Int32.toUInt32 31)).toInt32) &&& 255 = nI (byt a j) := Classical.choose_spec (and255 ((a.toUInt32 >>> ((nI (8 * j)).toUInt32 &&& Int32.toUInt32 31)).toInt32))
theorem byt_m (a : Int32) {j : Nat} (hj : j < 4) : (a >>> (nI (8 * j) &&& 31)) &&& 255 = nI (byt a j) := by
  rw [← (byt_c a j).2]
  apply b_ext
  intro i hi
  rw [b_and, b_and, b_255, b_ushr (8 * j) (by omega), b_sshr (8 * j) (by omega) _ hi]
  by_cases z : i < 8
  · rw [decide_eq_true z, if_pos (by omega)]
  · rw [decide_eq_false z, Bool.and_false, Bool.and_false]
theorem chr_b : ∀ b, b < 256 → vp_nar .char (((nI b).toUInt32 % 65536).toInt32) = nI b := by decide +kernel
def okB (b : Nat) : Bool := decide (b = 0 ∨ b = 10 ∨ (32 ≤ b ∧ b ≤ 126))
noncomputable def cnB (a : Int32) : Nat → Nat
  | 0 => 0
  | j + 1 => cnB a j + (if byt a j = 0 then 0 else 1)
noncomputable def okA (a : Int32) : Nat → Bool
  | 0 => true
  | j + 1 => okA a j && okB (byt a j)
noncomputable def pT (a : Int32) (t : Nat → Nat) (n : Nat) : Nat → Nat → Nat
  | 0 => t
  | j + 1 => if byt a j = 0 then pT a t n j else uf (pT a t n j) (n + cnB a j) (byt a j)
theorem cnB_le (a : Int32) : ∀ j, cnB a j ≤ j
  | 0 => Nat.le_refl _
  | j + 1 => by have := cnB_le a j; show cnB a j + _ ≤ _; split <;> omega
theorem cnB_mo (a : Int32) {i j : Nat} (h : i ≤ j) : cnB a i ≤ cnB a j := by
  induction j with
  | zero => rw [Nat.le_zero.mp h]; exact Nat.le_refl _
  | succ j ih =>
    by_cases e : i = j + 1
    · rw [e]; exact Nat.le_refl _
    · exact Nat.le_trans (ih (by omega)) (Nat.le_add_right _ _)
theorem okA_mo (a : Int32) {i j : Nat} (h : i ≤ j) (hj : okA a j = true) : okA a i = true := by
  induction j with
  | zero => rw [Nat.le_zero.mp h]; rfl
  | succ j ih =>
    by_cases e : i = j + 1
    · rw [e]; exact hj
    · have hj : (okA a j && okB (byt a j)) = true := hj
      rw [Bool.and_eq_true] at hj
      exact ih (by omega) hj.1
section PU
variable {σ : ab_S} {E : String → ab_S → Prop} {Q : Int32 → ab_S → Prop} {a : Int32} {t : Nat → Nat} {n : Nat}
theorem i8j (j : Nat) : (8 : Int32) * nI j = nI (8 * j) := by show nI 8 * nI j = _; rw [nI_mulE]
theorem c_pL (k1 : okA a 4 = true → wX11_put_j56 a Q E (nI (cnB a 4)) σ) (k0 : okA a 4 = false → E "java/lang/IllegalArgumentException" σ) : ∃ m, wX11_put_l4 a Q E (wX11_put_j34 a Q E) (wX11_put_j56 a Q E) m 0 0 σ := by
  refine ⟨5, ?_⟩
  suffices H : ∀ f j, 4 - j = f → j ≤ 4 → okA a j = true → wX11_put_l4 a Q E (wX11_put_j34 a Q E) (wX11_put_j56 a Q E) (f + 1) (nI (cnB a j)) (nI j) σ from H 4 0 rfl (Nat.zero_le _) rfl
  intro f
  induction f with
  | zero =>
    intro j hf hj hok
    have e : j = 4 := by omega
    show wX11_put_l4_b _ _ _ _ _ _ _ _ _
    unfold wX11_put_l4_b
    rw [e] at hok ⊢
    exact yes (by decide) (k1 hok)
  | succ f ih =>
    intro j hf hj hok
    obtain ⟨b1, b2⟩ := byt_c a j
    show wX11_put_l4_b a Q E (wX11_put_j34 a Q E) (wX11_put_j56 a Q E) (wX11_put_l4 a Q E (wX11_put_j34 a Q E) (wX11_put_j56 a Q E) (f + 1)) _ _ σ
    unfold wX11_put_l4_b
    rw [i8j, b2]
    refine no (by show ¬ nI 4 ≤ nI j; simp (disch := omega) only [nI_lit, nI_add, nI_mulE, nI_clampE, nI_eqE, nI_leE, nI_ltE, vp_nIE, true_and, and_true]; omega) (fe ?_)
    have IH := fun h => ih (j + 1) (by omega) (by omega) h
    have eo : okA a (j + 1) = okB (byt a j) := by show (okA a j && _) = _; rw [hok, Bool.true_and]
    rw [eo] at IH
    have ec : cnB a (j + 1) = cnB a j + (if byt a j = 0 then 0 else 1) := rfl
    rw [ec] at IH
    by_cases z : byt a j = 0
    · rw [if_pos z, Nat.add_zero] at IH
      refine yes (by rw [z]; rfl) ?_
      unfold wX11_put_j42 wX11_put_j50
      rw [nI_1]
      exact yes (by rw [z]; rfl) (fe (IH (by unfold okB; exact decide_eq_true (Or.inl z))))
    · rw [if_neg z] at IH
      have nz : ¬ nI (byt a j) = 0 := by show ¬ _ = nI 0; rw [nI_eqE (by omega) (by omega)]; exact z
      have go : okB (byt a j) = true → wX11_put_j42 a Q E (wX11_put_j34 a Q E) (wX11_put_j56 a Q E) (wX11_put_l4 a Q E (wX11_put_j34 a Q E) (wX11_put_j56 a Q E) (f + 1)) (nI (cnB a j)) (nI j) (nI (byt a j)) σ := by
        intro h
        unfold wX11_put_j42 wX11_put_j50
        rw [nI_1, nI_1]
        exact no nz (fe (fe (IH h)))
      have bad : okB (byt a j) = false → wX11_put_j34 a Q E σ := by
        intro h
        refine k0 ?_
        cases h4 : okA a 4 with
        | false => rfl
        | true =>
          have := okA_mo a (show j + 1 ≤ 4 by omega) h4
          rw [eo, h] at this; exact absurd this (by decide)
      refine no nz ?_
      unfold wX8_allows wX8_allows_j18
      by_cases z10 : byt a j = 10
      · exact yes (by rw [z10]; rfl) (yes (by decide) (go (decide_eq_true (Or.inr (Or.inl z10)))))
      · refine no (by show ¬ _ = nI 10; rw [nI_eqE (by omega) (by omega)]; exact z10) ?_
        by_cases z32 : byt a j < 32
        · exact yes (by show _ < nI 32; simp (disch := omega) only [nI_lit, nI_add, nI_mulE, nI_clampE, nI_eqE, nI_leE, nI_ltE, vp_nIE, true_and, and_true]; omega) (no (fun q => q rfl) (bad (decide_eq_false (by omega))))
        · refine no (by show ¬ _ < nI 32; simp (disch := omega) only [nI_lit, nI_add, nI_mulE, nI_clampE, nI_eqE, nI_leE, nI_ltE, vp_nIE, true_and, and_true]; omega) ?_
          by_cases z126 : 126 < byt a j
          · exact yes (by show nI 126 < _; simp (disch := omega) only [nI_lit, nI_add, nI_mulE, nI_clampE, nI_eqE, nI_leE, nI_ltE, vp_nIE, true_and, and_true]; omega) (no (fun q => q rfl) (bad (decide_eq_false (by omega))))
          · exact no (by show ¬ nI 126 < _; simp (disch := omega) only [nI_lit, nI_add, nI_mulE, nI_clampE, nI_eqE, nI_leE, nI_ltE, vp_nIE, true_and, and_true]; omega) (yes (by decide) (go (decide_eq_true (by omega))))
theorem okB_t {b : Nat} (h : okB b = true) : b < 128 := by
  have := of_decide_eq_true h
  omega
theorem c_app (hT : CT σ t n) (hok : okA a 4 = true) (hn : n + cnB a 4 ≤ 2400) {Q : ab_S → Prop} (k : ∀ τ, FM (fun a _ => decide (a = 1 ∨ a = 2)) σ τ → CT τ (pT a t n 4) (n + cnB a 4) → Q τ) : wX8_append a Q E σ := by
  refine ⟨5, ?_⟩
  suffices H : ∀ f j τ, 4 - j = f → j ≤ 4 → FM (fun a _ => decide (a = 1 ∨ a = 2)) σ τ → CT τ (pT a t n j) (n + cnB a j) → wX8_append_l2 a Q E (f + 1) (nI j) τ from H 4 0 σ rfl (Nat.zero_le _) (FM.rf _ _) hT
  intro f
  induction f with
  | zero =>
    intro j τ hf hj hF hC
    have e : j = 4 := by omega
    show wX8_append_l2_b _ _ _ _ _ _
    unfold wX8_append_l2_b
    rw [e] at hC ⊢
    exact yes (by decide) (k τ hF hC)
  | succ f ih =>
    intro j τ hf hj hF hC
    obtain ⟨b1, b2⟩ := byt_c a j
    have hmo := cnB_mo a (show j + 1 ≤ 4 by omega)
    have hokj : okA a (j + 1) = true := okA_mo a (by omega) hok
    have hokb : okB (byt a j) = true := by
      have hokj : (okA a j && okB (byt a j)) = true := hokj
      rw [Bool.and_eq_true] at hokj; exact hokj.2
    have h128 := okB_t hokb
    have ec : cnB a (j + 1) = cnB a j + (if byt a j = 0 then 0 else 1) := rfl
    have et : pT a t n (j + 1) = if byt a j = 0 then pT a t n j else uf (pT a t n j) (n + cnB a j) (byt a j) := rfl
    show wX8_append_l2_b a Q E (wX8_append_l2 a Q E (f + 1)) (nI j) τ
    unfold wX8_append_l2_b wX8_append_j53
    rw [i8j, b2]
    refine no (by show ¬ nI 4 ≤ nI j; simp (disch := omega) only [nI_lit, nI_add, nI_mulE, nI_clampE, nI_eqE, nI_leE, nI_ltE, vp_nIE, true_and, and_true]; omega) (fe ?_)
    by_cases z : byt a j = 0
    · rw [if_pos z] at et
      rw [if_pos z, Nat.add_zero] at ec
      refine yes (by rw [z]; rfl) ?_
      rw [nI_1]
      refine fe (ih (j + 1) τ (by omega) (by omega) hF ?_)
      rw [et, ec]; exact hC
    · rw [if_neg z] at et
      rw [if_neg z] at ec
      refine no (by show ¬ _ = nI 0; rw [nI_eqE (by omega) (by omega)]; exact z) ?_
      rw [hC.2.1, chr_b _ b1]
      have ecn : (nI (n + cnB a j)).toNatClampNeg = n + cnB a j := nI_clampE (by omega)
      refine no (by show ¬ nI 2400 ≤ _; simp (disch := omega) only [nI_lit, nI_add, nI_mulE, nI_clampE, nI_eqE, nI_leE, nI_ltE, vp_nIE, true_and, and_true]; omega) ⟨by simp (disch := omega) only [nI_lit, nI_add, nI_mulE, nI_clampE, nI_eqE, nI_leE, nI_ltE, vp_nIE, true_and, and_true]; omega, fe ?_⟩
      rw [ecn, gI_o (by decide), hC.2.1, nI_1, nI_1]
      refine fe (fe (ih (j + 1) _ (by omega) (by omega) ((hF.I (decide_eq_true (by omega))).I (decide_eq_true (by omega))) ?_))
      rw [et, ec]
      refine ⟨by omega, by rw [gI_s, if_pos rfl]; congr 1, fun i hi => ?_⟩
      rw [gI_o (by decide), gI_s]
      by_cases zi : i = n + cnB a j
      · rw [if_pos zi, zi, uf_s]; exact ⟨rfl, h128⟩
      · rw [if_neg zi, uf_o _ _ zi]; exact hC.2.2 i (by omega)
theorem m_pL (k : wX12_put_j79 a Q E (nI (cnB a 4)) (bI (okA a 4)) σ) : ∃ m, wX12_put_l7 a Q E (wX12_put_j79 a Q E) m 0 1 0 σ := by
  refine ⟨5, ?_⟩
  suffices H : ∀ f j, 4 - j = f → j ≤ 4 → wX12_put_l7 a Q E (wX12_put_j79 a Q E) (f + 1) (nI (cnB a j)) (bI (okA a j)) (nI j) σ from H 4 0 rfl (Nat.zero_le _)
  intro f
  induction f with
  | zero =>
    intro j hf hj
    have e : j = 4 := by omega
    show wX12_put_l7_b _ _ _ _ _ _ _ _ _
    unfold wX12_put_l7_b
    rw [e]
    exact yes (by decide) k
  | succ f ih =>
    intro j hf hj
    obtain ⟨b1, _⟩ := byt_c a j
    have b2 := byt_m a (show j < 4 by omega)
    show wX12_put_l7_b a Q E (wX12_put_j79 a Q E) (wX12_put_l7 a Q E (wX12_put_j79 a Q E) (f + 1)) _ _ _ σ
    unfold wX12_put_l7_b
    rw [i8j, b2]
    refine no (by show ¬ nI 4 ≤ nI j; simp (disch := omega) only [nI_lit, nI_add, nI_mulE, nI_clampE, nI_eqE, nI_leE, nI_ltE, vp_nIE, true_and, and_true]; omega) (fe ?_)
    have IH := ih (j + 1) (by omega) (by omega)
    have ec : cnB a (j + 1) = cnB a j + (if byt a j = 0 then 0 else 1) := rfl
    have j59 : wX12_put_j59 a Q E (wX12_put_j79 a Q E) (wX12_put_l7 a Q E (wX12_put_j79 a Q E) (f + 1)) (nI (cnB a j)) (nI j) (nI (byt a j)) (bI (okA a (j + 1))) σ := by
      unfold wX12_put_j59 wX12_put_j72
      rw [nI_1, nI_1]
      by_cases z : byt a j = 0
      · rw [if_pos z, Nat.add_zero] at ec
        rw [ec] at IH
        exact yes (by rw [z]; decide) (fe IH)
      · rw [if_neg z] at ec
        rw [ec] at IH
        exact no (by show ¬ _ ≤ nI 0; simp (disch := omega) only [nI_lit, nI_add, nI_mulE, nI_clampE, nI_eqE, nI_leE, nI_ltE, vp_nIE, true_and, and_true]; omega) (fe IH)
    have eo : okA a (j + 1) = (okA a j && okB (byt a j)) := rfl
    unfold wX12_put_j58 wX12_put_j54
    cases hok : okA a j with
    | false =>
      rw [hok, Bool.false_and] at eo
      rw [eo] at j59
      exact yes rfl j59
    | true =>
      rw [hok, Bool.true_and] at eo
      rw [eo] at j59
      refine no (by decide) ?_
      by_cases z : byt a j = 0
      · have e1 : okB (byt a j) = true := decide_eq_true (Or.inl z)
        rw [e1] at j59
        exact yes (by rw [z]; rfl) j59
      · refine no (by show ¬ _ = nI 0; rw [nI_eqE (by omega) (by omega)]; exact z) ?_
        by_cases z10 : byt a j = 10
        · have e1 : okB (byt a j) = true := decide_eq_true (Or.inr (Or.inl z10))
          rw [e1] at j59
          exact yes (by rw [z10]; rfl) j59
        · refine no (by show ¬ _ = nI 10; rw [nI_eqE (by omega) (by omega)]; exact z10) ?_
          unfold wX12_in
          by_cases z32 : byt a j < 32
          · have e1 : okB (byt a j) = false := decide_eq_false (by omega)
            rw [e1] at j59
            exact yes (by show _ < nI 32; simp (disch := omega) only [nI_lit, nI_add, nI_mulE, nI_clampE, nI_eqE, nI_leE, nI_ltE, vp_nIE, true_and, and_true]; omega) (yes rfl j59)
          · refine no (by show ¬ _ < nI 32; simp (disch := omega) only [nI_lit, nI_add, nI_mulE, nI_clampE, nI_eqE, nI_leE, nI_ltE, vp_nIE, true_and, and_true]; omega) ?_
            by_cases z126 : 126 < byt a j
            · have e1 : okB (byt a j) = false := decide_eq_false (by omega)
              rw [e1] at j59
              exact yes (by show nI 126 < _; simp (disch := omega) only [nI_lit, nI_add, nI_mulE, nI_clampE, nI_eqE, nI_leE, nI_ltE, vp_nIE, true_and, and_true]; omega) (yes rfl j59)
            · have e1 : okB (byt a j) = true := decide_eq_true (by omega)
              rw [e1] at j59
              exact no (by show ¬ nI 126 < _; simp (disch := omega) only [nI_lit, nI_add, nI_mulE, nI_clampE, nI_eqE, nI_leE, nI_ltE, vp_nIE, true_and, and_true]; omega) (no (by decide) j59)
theorem m_app (hT : MTx σ t n) (hok : okA a 4 = true) (hn : n + cnB a 4 ≤ 2400) (k : ∀ τ, FM (fun a i => decide ((a = 92 ∧ i = 2) ∨ a = 93)) σ τ → MTx τ (pT a t n 4) (n + cnB a 4) → Q (nI (n + cnB a 4)) τ) : ∃ m, wX12_put_l118 a Q E (wX12_put_j169 a Q E) m 0 σ := by
  refine ⟨5, ?_⟩
  suffices H : ∀ f j τ, 4 - j = f → j ≤ 4 → FM (fun a i => decide ((a = 92 ∧ i = 2) ∨ a = 93)) σ τ → MTx τ (pT a t n j) (n + cnB a j) → wX12_put_l118 a Q E (wX12_put_j169 a Q E) (f + 1) (nI j) τ from H 4 0 σ rfl (Nat.zero_le _) (FM.rf _ _) hT
  intro f
  induction f with
  | zero =>
    intro j τ hf hj hF hC
    have e : j = 4 := by omega
    show wX12_put_l118_b _ _ _ _ _ _ _
    unfold wX12_put_l118_b wX12_put_j169
    rw [e] at hC ⊢
    rw [hC.2.1]
    exact yes (by decide) (k τ hF hC)
  | succ f ih =>
    intro j τ hf hj hF hC
    obtain ⟨b1, _⟩ := byt_c a j
    have b2 := byt_m a (show j < 4 by omega)
    have hmo := cnB_mo a (show j + 1 ≤ 4 by omega)
    have hokj : okA a (j + 1) = true := okA_mo a (by omega) hok
    have hokb : okB (byt a j) = true := by
      have hokj : (okA a j && okB (byt a j)) = true := hokj
      rw [Bool.and_eq_true] at hokj; exact hokj.2
    have h128 := okB_t hokb
    have ec : cnB a (j + 1) = cnB a j + (if byt a j = 0 then 0 else 1) := rfl
    have et : pT a t n (j + 1) = if byt a j = 0 then pT a t n j else uf (pT a t n j) (n + cnB a j) (byt a j) := rfl
    show wX12_put_l118_b a Q E (wX12_put_j169 a Q E) (wX12_put_l118 a Q E (wX12_put_j169 a Q E) (f + 1)) (nI j) τ
    unfold wX12_put_l118_b wX12_put_j163
    rw [i8j, b2]
    refine no (by show ¬ nI 4 ≤ nI j; simp (disch := omega) only [nI_lit, nI_add, nI_mulE, nI_clampE, nI_eqE, nI_leE, nI_ltE, vp_nIE, true_and, and_true]; omega) (fe ?_)
    by_cases z : byt a j = 0
    · rw [if_pos z] at et
      rw [if_pos z, Nat.add_zero] at ec
      refine yes (by rw [z]; decide) ?_
      rw [nI_1]
      refine fe (ih (j + 1) τ (by omega) (by omega) hF ?_)
      rw [et, ec]; exact hC
    · rw [if_neg z] at et
      rw [if_neg z] at ec
      refine no (by show ¬ _ ≤ nI 0; simp (disch := omega) only [nI_lit, nI_add, nI_mulE, nI_clampE, nI_eqE, nI_leE, nI_ltE, vp_nIE, true_and, and_true]; omega) ?_
      rw [hC.2.1]
      have ecn : (nI (n + cnB a j)).toNatClampNeg = n + cnB a j := nI_clampE (by omega)
      refine ⟨by simp (disch := omega) only [nI_lit, nI_add, nI_mulE, nI_clampE, nI_eqE, nI_leE, nI_ltE, vp_nIE, true_and, and_true]; omega, fe ?_⟩
      rw [ecn, gI_o (by decide), hC.2.1, nI_1, nI_1]
      refine fe (fe (ih (j + 1) _ (by omega) (by omega) ((hF.I (decide_eq_true (by omega))).I (decide_eq_true (by omega))) ?_))
      rw [et, ec]
      refine ⟨by omega, by rw [gI_s, if_pos rfl]; congr 1, fun i hi => ?_⟩
      rw [gI_o (by decide), gI_s]
      by_cases zi : i = n + cnB a j
      · rw [if_pos zi, zi, uf_s]; exact ⟨rfl, h128⟩
      · rw [if_neg zi, uf_o _ _ zi]; exact hC.2.2 i (by omega)
end PU
