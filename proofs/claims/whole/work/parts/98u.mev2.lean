/-! ===== evaluation, the model's: a node tried, all of them ===== -/
abbrev kf (Y : Nat → Bool) : Nat → Nat → Bool := fun k a => Y (8 * k + a)
def SEv : Nat → Nat → Bool := fun a _ => decide (a = 139 ∨ a = 140 ∨ a = 141 ∨ a = 144 ∨ a = 145)
def eCl (Γ : GRT) (T : TST) (Y : Nat → Bool) (n x : Nat) : Prop := (Γ.2.2.1 (T.pr n)).2.2.2.2.1 x = true → (∀ y, nmd Γ (T.pr n) x y = true → kf Y (T.ch n (y / 8)) (y % 8) = true) → kf Y (T.ch n (x / 8)) (x % 8) = true
def MEs (σ : ab_S) (vl : Nat → Nat → VL8) (Y0 : Nat → Bool) (τ : ab_S) (Y : Nat → Bool) (b : Bool) (D : Prop) : Prop := FM SEv σ τ ∧ MEv τ (kf Y) vl ∧ (∀ j, Y0 j = true → Y j = true) ∧ (b = true → cnt Y0 2000 < cnt Y 2000) ∧ (b = false → Y = Y0 ∧ D)
theorem MEs.d {σ : ab_S} {vl : Nat → Nat → VL8} {Y0 : Nat → Bool} {τ : ab_S} {Y : Nat → Bool} {b : Bool} {D D' : Prop} (h : MEs σ vl Y0 τ Y b D) (k : b = false → Y = Y0 → D → D') : MEs σ vl Y0 τ Y b D' := ⟨h.1, h.2.1, h.2.2.1, h.2.2.2.1, fun z => ⟨(h.2.2.2.2 z).1, k z (h.2.2.2.2 z).1 (h.2.2.2.2 z).2⟩⟩
theorem v64_0 : vp_in (0 : Int32) 64 := by show vp_in (nI 0) 64; simp (disch := omega) only [nI_lit, nI_add, nI_mulE, nI_clampE, nI_eqE, nI_leE, nI_ltE, vp_nIE, true_and, and_true]; omega
theorem vB_n {v : VL8} : vp_nar .boolean (vB v) = vB v := by
  cases v
  · decide
  · show vp_nar .boolean (0 : Int32) = 0; decide
theorem ufT_le {f : Nat → Bool} {s : Nat} : ∀ j, f j = true → uf f s true j = true := fun j hj => by
  by_cases e : j = s
  · rw [e, uf_s]
  · rw [uf_o _ _ e]; exact hj
section ME
variable {σ : ab_S} {E : String → ab_S → Prop} {n : Nat} {Γ : GRT} {T : TST} {vl : Nat → Nat → VL8} {Y0 : Nat → Bool} {Q : Int32 → ab_S → Prop}
theorem MTt.ev {τ : ab_S} (h : MTt σ Γ T) (f : FM SEv σ τ) : MTt τ Γ T := h.fm f (decide_eq_false (by omega)) (fun a i b1 b2 => decide_eq_false (by omega))
theorem MXg.ev {τ : ab_S} (h : MXg σ Γ) (hV : GRV Γ) (f : FM SEv σ τ) : MXg τ Γ := h.fm hV f ⟨decide_eq_false (by omega), decide_eq_false (by omega), decide_eq_false (by omega)⟩ (fun a i b1 b2 => decide_eq_false (by omega))
theorem t_ch (hT : TOK Γ T) (hn : n < T.N) {o : Nat} (ho : o ≤ rt Γ (T.pr n)) : T.ch n o < T.N := by
  obtain ⟨t1, t2⟩ := hT.2.2 n hn
  by_cases h0 : o = 0
  · rw [h0, t1.2.2.2.2.2.1]; exact hn
  · exact (t1.2.2.2.2.2.2.1 o (by omega) (by omega)).2.1
theorem m_t138 {K168 : Int32 → Int32 → Int32 → ab_S → Prop} {Bk : Int32 → Int32 → Int32 → Int32 → ab_S → Prop} {τ : ab_S} {Y : Nat → Bool} {b : Bool} {D : Prop} {p o a u k : Nat} {v : VL8} (hk : k < 250) (ha : a < 8) (hu : u = 8 * k + a) (hS : MEs σ vl Y0 τ Y b D) (hY : Y u = false) (hv : vl k a = v) (h0 : τ.2.1 145 0 = vB v) {w : Int32} (hw : w = vI v) (h : ∀ τ', MEs σ vl Y0 τ' (uf Y u true) true D → Bk 1 (nI p) (nI o) (nI (a + 1)) τ') : wX12_tryNode_j138 (nI n) Q E K168 Bk (nI p) (nI o) (nI a) (nI u) w (nI u) τ := by
  obtain ⟨s1, s2, s3, s4, s5⟩ := hS
  have ec : (nI u).toNatClampNeg = u := nI_clampE (by omega)
  have ev : vp_in (nI u) 2000 := by simp (disch := omega) only [nI_lit, nI_add, nI_mulE, nI_clampE, nI_eqE, nI_leE, nI_ltE, vp_nIE, true_and, and_true]; omega
  unfold wX12_tryNode_j138
  rw [ec]
  refine ⟨ev, fe ⟨v64_0, ev, fe ⟨ev, fe ?_⟩⟩⟩
  unfold wX12_tryNode_j162
  rw [nI_1]
  refine fe (h _ ⟨s1.tr ((((FM.rf _ τ).I (decide_eq_true (by omega))).I (decide_eq_true (by omega))).I (decide_eq_true (by omega))), fun k' a' hk' ha' => ?_, fun j hj => ufT_le j (s3 j hj), fun _ => ?_, fun z => absurd z (by decide)⟩)
  · obtain ⟨m1, m2, m3⟩ := s2 k' a' hk' ha'
    have e0 : (ab_I τ 139 u w).2.1 145 (0 : Int32).toNatClampNeg = vB v := by
      rw [gI_o (by decide)]; exact h0
    rw [e0]
    have en : vp_nar .boolean (vB v) = vB v := vB_n
    rw [en, show vp_nar .boolean (1 : Int32) = 1 from by decide]
    by_cases e : 8 * k' + a' = u
    · have ek : k' = k := by omega
      have ea : a' = a := by omega
      have eY : kf (uf Y u true) k' a' = true := by show uf Y u true (8 * k' + a') = true; rw [e, uf_s]
      rw [eY, e, ek, ea, hv]
      refine ⟨?_, ?_, ?_⟩
      · rw [gI_s, if_pos rfl]; rfl
      · rw [gI_o (by decide), gI_o (by decide), gI_s, if_pos rfl]; exact hw
      · rw [gI_o (by decide), gI_s, if_pos rfl]; rfl
    · have eY : kf (uf Y u true) k' a' = kf Y k' a' := uf_o _ _ e
      rw [eY]
      refine ⟨?_, ?_, ?_⟩
      · rw [gI_s, if_neg e, gI_o (by decide), gI_o (by decide)]; exact m1
      · rw [gI_o (by decide), gI_o (by decide), gI_s, if_neg e]; exact m2
      · rw [gI_o (by decide), gI_s, if_neg e, gI_o (by decide)]; exact m3
  · have hc := cnt_uf hY 2000
    rw [if_pos (by omega)] at hc
    cases b with
    | true => have := s4 rfl; omega
    | false => have := (s5 rfl).1; rw [← this]; omega
theorem m_t26 (hX : MXg σ Γ) (hM : MTt σ Γ T) (hV : GRV Γ) (hT : TOK Γ T) (hn : n < T.N) (hv : ∀ m, m < T.N → ∀ x, (Γ.2.2.1 (T.pr m)).2.2.2.2.1 x = true → vl (T.ch m (x / 8)) (x % 8) = RV Γ T vl m x) {o : Nat} (ho : o ≤ rt Γ (T.pr n)) {D : Prop} {K168 : Int32 → Int32 → Int32 → ab_S → Prop} (h : ∀ τ Y b, MEs σ vl Y0 τ Y b (D ∧ ∀ a, a < Γ.1.2.2.1 (oSy Γ (T.pr n) o) → eCl Γ T Y0 n (8 * o + a)) → K168 (if b then 1 else 0) (nI (T.pr n)) (nI o) τ) : ∀ f a τ Y b, Γ.1.2.2.1 (oSy Γ (T.pr n) o) - a = f → a ≤ Γ.1.2.2.1 (oSy Γ (T.pr n) o) → MEs σ vl Y0 τ Y b (D ∧ ∀ a', a' < a → eCl Γ T Y0 n (8 * o + a')) → wX12_tryNode_l26 (nI n) Q E K168 (f + 1) (if b then 1 else 0) (nI (T.pr n)) (nI o) (nI a) τ := by
  have hN := hT.2.1
  have hp := (hT.2.2 n hn).1.1
  have h30 := hV.2.1
  have h12 := hV.1.1
  have hpv := (hV.2.2.2 _ hp).2.1
  have h3 : rt Γ (T.pr n) ≤ 3 := hpv.1
  have hsy : oSy Γ (T.pr n) o < Γ.1.1 := hpv.2.1 o ho
  have h8 := (hV.1.2.2 _ hsy).2.1
  have e4 : (4 : Int32) * nI (T.pr n) + nI o = nI (4 * T.pr n + o) := by show nI 4 * nI _ + _ = _; rw [nI_mulE, nI_add]
  intro f
  induction f with
  | zero =>
    intro a τ Y b hf ha hS
    have e : a = Γ.1.2.2.1 (oSy Γ (T.pr n) o) := by clear hS; omega
    have hXτ := hX.ev hV hS.1
    show wX12_tryNode_l26_b _ _ _ _ _ _ _ _ _ _
    unfold wX12_tryNode_l26_b
    rw [e4, nI_clampE (show 4 * T.pr n + o < 2147483648 by omega), (hXτ.1.2.2.2 _ hp).2.2.1 o (by show o < rt Γ (T.pr n) + 1; omega)]
    have es : (Γ.2.2.1 (T.pr n)).2.2.1 o = oSy Γ (T.pr n) o := rfl
    rw [es, nI_clampE (show oSy Γ (T.pr n) o < 2147483648 by omega), (hXτ.1.1.2 _ hsy).2.1]
    refine ⟨by simp (disch := omega) only [nI_lit, nI_add, nI_mulE, nI_clampE, nI_eqE, nI_leE, nI_ltE, vp_nIE, true_and, and_true]; omega, by simp (disch := omega) only [nI_lit, nI_add, nI_mulE, nI_clampE, nI_eqE, nI_leE, nI_ltE, vp_nIE, true_and, and_true]; omega, yes (by rw [e]; simp (disch := omega) only [nI_lit, nI_add, nI_mulE, nI_clampE, nI_eqE, nI_leE, nI_ltE, vp_nIE, true_and, and_true]; omega) (h τ Y b ?_)⟩
    rw [e] at hS
    exact hS
  | succ f ih =>
    intro a τ Y b hf ha hS
    have ha2 : a < Γ.1.2.2.1 (oSy Γ (T.pr n) o) := by clear hS; omega
    have hfa : Γ.1.2.2.1 (oSy Γ (T.pr n) o) - (a + 1) = f := by clear hS; omega
    have hXτ := hX.ev hV hS.1
    have hMτ := hM.ev hS.1
    have e8 : (8 : Int32) * nI o + nI a = nI (8 * o + a) := by show nI 8 * nI _ + _ = _; rw [nI_mulE, nI_add]
    have d8 : (8 * o + a) / 8 = o := by clear hS; omega
    have m8 : (8 * o + a) % 8 = a := by clear hS; omega
    have hch := t_ch hT hn ho
    have hu : 8 * T.ch n o + a < 2000 := by clear hS; omega
    show wX12_tryNode_l26_b (nI n) Q E K168 (wX12_tryNode_l26 (nI n) Q E K168 (f + 1)) _ _ _ _ τ
    unfold wX12_tryNode_l26_b
    rw [e4, e8, nI_clampE (show 4 * T.pr n + o < 2147483648 by clear hS; omega), (hXτ.1.2.2.2 _ hp).2.2.1 o (by show o < rt Γ (T.pr n) + 1; clear hS; omega)]
    have es : (Γ.2.2.1 (T.pr n)).2.2.1 o = oSy Γ (T.pr n) o := rfl
    rw [es, nI_clampE (show oSy Γ (T.pr n) o < 2147483648 by clear hS; omega), (hXτ.1.1.2 _ hsy).2.1]
    refine ⟨by clear hS; simp (disch := omega) only [nI_lit, nI_add, nI_mulE, nI_clampE, nI_eqE, nI_leE, nI_ltE, vp_nIE, true_and, and_true]; omega, by clear hS; simp (disch := omega) only [nI_lit, nI_add, nI_mulE, nI_clampE, nI_eqE, nI_leE, nI_ltE, vp_nIE, true_and, and_true]; omega, no (by clear hS; simp (disch := omega) only [nI_lit, nI_add, nI_mulE, nI_clampE, nI_eqE, nI_leE, nI_ltE, vp_nIE, true_and, and_true]; omega) ?_⟩
    refine m_vAt hMτ hV hT hn (by clear hS; omega) (by rw [d8]; exact ho) ?_
    rw [d8, m8]
    refine m_isDef (K := kOf Γ.1 (Γ.2.2.1 (T.pr n))) hXτ.1.1 hV.1 (hXτ.mp hV hp) ho ha2 ?_
    have edf : (Γ.2.2.1 (T.pr n)).2.2.2.2.1 (8 * o + a) = (Γ.1.2.2.2.1 (oSy Γ (T.pr n) o) a == decide (0 < o)) := by
      rw [df_dfn hV hp (by clear hS; omega)]
      unfold dfn
      rw [d8, m8, decide_eq_true (show o ≤ (Γ.2.2.1 (T.pr n)).2.1 from ho), Bool.true_and]
      have ha' : a < Γ.1.2.2.1 ((Γ.2.2.1 (T.pr n)).2.2.1 o) := ha2
      rw [decide_eq_true ha', Bool.true_and]; rfl
    have es2 : (Γ.1.2.2.2.1 ((kOf Γ.1 (Γ.2.2.1 (T.pr n))).2.2.1 o) a == decide (0 < o)) = (Γ.2.2.1 (T.pr n)).2.2.2.2.1 (8 * o + a) := edf.symm
    show ((if (Γ.1.2.2.2.1 ((kOf Γ.1 (Γ.2.2.1 (T.pr n))).2.2.1 o) a == decide (0 < o)) = true then (1 : Int32) else 0) = 0 → _) ∧ (¬ (if (Γ.1.2.2.2.1 ((kOf Γ.1 (Γ.2.2.1 (T.pr n))).2.2.1 o) a == decide (0 < o)) = true then (1 : Int32) else 0) = 0 → _)
    rw [es2]
    have go : eCl Γ T Y n (8 * o + a) → wX12_tryNode_j162 (nI n) Q E K168 (wX12_tryNode_l26 (nI n) Q E K168 (f + 1)) (if b then 1 else 0) (nI (T.pr n)) (nI o) (nI a) τ := by
      intro hc
      unfold wX12_tryNode_j162
      rw [nI_1]
      refine fe (ih (a + 1) τ Y b hfa ha2 (hS.d (fun _ hY hD => ⟨hD.1, fun a' ha' => ?_⟩)))
      by_cases e : a' = a
      · rw [e, ← hY]; exact hc
      · exact hD.2 a' (by clear hS; omega)
    cases hd : (Γ.2.2.1 (T.pr n)).2.2.2.2.1 (8 * o + a)
    · exact yes rfl (go (fun z => by rw [hd] at z; exact absurd z Bool.false_ne_true))
    · refine no (by decide) ⟨by clear hS; simp (disch := omega) only [nI_lit, nI_add, nI_mulE, nI_clampE, nI_eqE, nI_leE, nI_ltE, vp_nIE, true_and, and_true]; omega, ?_⟩
      rw [nI_clampE (show 8 * T.ch n o + a < 2147483648 by clear hS; omega), (hS.2.1 _ _ (by clear hS; omega) (by clear hS; omega)).1]
      cases hY : kf Y (T.ch n o) a
      · refine no (fun q => q rfl) ?_
        refine m_rdy hXτ hMτ hV hT hn hS.2.1 hd (fun hr => ?_) (fun hr => ?_)
        · refine no (by decide) (m_wOut hXτ hMτ hV hT hn hS.2.1 hd hr (fun τ' F' W' => ?_))
          have F2 : FM SEv τ τ' := F'.mono (fun a i y => by have y := of_decide_eq_false y; exact decide_eq_false (by omega))
          have hS' : MEs σ vl Y0 τ' Y b (D ∧ ∀ a', a' < a → eCl Γ T Y0 n (8 * o + a')) := ⟨hS.1.tr F2, hS.2.1.fm F' (fun a i b1 b2 => decide_eq_false (by omega)), hS.2.2⟩
          have hvv := hv n hn _ hd
          rw [d8, m8] at hvv
          have w0 : τ'.2.1 145 0 = vB (RV Γ T vl n (8 * o + a)) := W'.1
          have w1 : ∀ x, RV Γ T vl n (8 * o + a) = some x → τ'.2.1 144 0 = x := W'.2.1
          refine ⟨v64_0, ?_⟩
          have e00 : (0 : Int32).toNatClampNeg = 0 := by decide
          rw [e00, w0]
          have fin : ∀ w, w = vI (RV Γ T vl n (8 * o + a)) → wX12_tryNode_j138 (nI n) Q E K168 (wX12_tryNode_l26 (nI n) Q E K168 (f + 1)) (nI (T.pr n)) (nI o) (nI a) (nI (8 * T.ch n o + a)) w (nI (8 * T.ch n o + a)) τ' := by
            intro w hw
            refine m_t138 (by clear hS hS'; omega) (by clear hS hS'; omega) rfl hS' hY hvv w0 hw (fun τ2 S2 => ?_)
            exact ih (a + 1) τ2 _ true hfa ha2 (S2.d (fun z => absurd z (by decide)))
          cases hR : RV Γ T vl n (8 * o + a) with
          | none =>
            rw [hR] at fin
            exact no (by decide) (fin 0 rfl)
          | some xr =>
            rw [hR] at fin
            exact yes rfl ⟨v64_0, fin _ (w1 xr hR)⟩
        · exact yes rfl (go (fun _ z => absurd z hr))
      · refine yes (by decide) (go (fun _ _ => ?_))
        rw [d8, m8]; exact hY
end ME
