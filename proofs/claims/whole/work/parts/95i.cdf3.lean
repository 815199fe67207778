/-! ===== what visits define, the class's: all entries ===== -/
section CD
variable {σ τ : ab_S} {g p i : Nat} {Γ : GRT} {Y Y0 : Nat → Bool} {b : Bool} {D : Prop} {E : String → ab_S → Prop}
theorem c_sym (hZ : CZ σ g Γ) (hV : GRV Γ) (hp : p < Γ.2.1) {o : Nat} (ho : o ≤ (Γ.2.2.1 p).2.1) {Q : Int32 → ab_S → Prop} (h : Q (nI (oSy Γ p o)) σ) : wX0_symbolAt g (nI p) (nI o) Q E σ := by
  have h30 := hV.2.1
  have h3 := (hV.2.2.2 p hp).2.1.1
  have O1 := (hZ.1.2.2.1.of hV hZ.1.1 hp).2.2.2.2.2.1 o ho
  have e4 : nI p * 4 + nI o = nI (p * 4 + o) := by show nI p * nI 4 + _ = _; rw [nI_mulE, nI_add]
  unfold wX0_symbolAt
  rw [e4, nI_clampE (show p * 4 + o < 2147483648 by omega), O1.1]
  exact ⟨by simp (disch := omega) only [nI_lit, nI_add, nI_mulE, nI_clampE, nI_eqE, nI_leE, nI_ltE, vp_nIE, true_and, and_true]; omega, h⟩
theorem c_ent (hZ : CZ σ g Γ) (hp : p < Γ.2.1) (hi : i < plN Γ p) : σ.2.1 12 (plB Γ p + i) = nI (gE (plP Γ p) i).1 ∧ σ.2.1 13 (plB Γ p + i) = nI (gE (plP Γ p) i).2.1 ∧ σ.2.1 14 (plB Γ p + i) = nI (gE (plP Γ p) i).2.2 := (hZ.2.2 p hp).2.1 i hi
theorem c_l44 (hZ : CZ σ g Γ) (hV : GRV Γ) (hL : LVF Γ) (hp : p < Γ.2.1) {Q : Int32 → ab_S → Prop} (h : ∀ τ' Y' (b' : Bool), CDs σ Γ Y0 τ' Y' b' (∀ i, i < plN Γ p → dCe Γ Y0 p i) → Q (if b' then 1 else 0) τ') : ∀ f i τ Y (b : Bool), plN Γ p - i = f → i ≤ plN Γ p → CDs σ Γ Y0 τ Y b (∀ i', i' < i → dCe Γ Y0 p i') → wX7_collectDefined_l44 (nI p) Q E (f + 1) (if b then 1 else 0) (nI (hdS Γ p)) (nI (plB Γ p + plN Γ p)) (nI (plB Γ p + i)) τ := by
  have h30 := hV.2.1
  have h12 := hV.1.1
  have hpv := (hV.2.2.2 p hp).2.1
  have h3 := hpv.1
  have hB := plB_le hL hV p (by omega)
  have hN := plN_le hL hV hp
  have hhd : hdS Γ p < Γ.1.1 := hpv.2.1 0 (Nat.zero_le _)
  intro f
  induction f with
  | zero =>
    intro i τ Y b hf hi hM
    have e : i = plN Γ p := by omega
    show wX7_collectDefined_l44_b _ _ _ _ _ _ _ _ _
    unfold wX7_collectDefined_l44_b
    rw [e] at hM
    exact yes (by simp (disch := omega) only [nI_lit, nI_add, nI_mulE, nI_clampE, nI_eqE, nI_leE, nI_ltE, vp_nIE, true_and, and_true]; omega) ⟨by cases b <;> simp, h τ Y b hM⟩
  | succ f ih =>
    intro i τ Y b hf hi hM
    have hin : i < plN Γ p := by omega
    have q1 : plN Γ p - (i + 1) = f := by omega
    have Z1 := hZ.s20 hV hM.1
    obtain ⟨v12, v13, v14⟩ := c_ent Z1 hp hin
    have ev : vp_in (nI (plB Γ p + i)) 1410 := by simp (disch := omega) only [nI_lit, nI_add, nI_mulE, nI_clampE, nI_eqE, nI_leE, nI_ltE, vp_nIE, true_and, and_true]; omega
    have ec : (nI (plB Γ p + i)).toNatClampNeg = plB Γ p + i := nI_clampE (by omega)
    have hvi : (gE (plP Γ p) i).2.1 ≤ 5 := (plJ_A (Γ := Γ) (p := p) _ (hL.vis _ hhd).2 i hin).2
    have erow : ∀ s v : Nat, (nI s * 7 + nI v) * 12 = nI ((s * 7 + v) * 12) := by
      intro s v
      show (nI s * nI 7 + nI v) * nI 12 = _
      rw [nI_mulE, nI_add, nI_mulE]
    show wX7_collectDefined_l44_b (nI p) Q E (wX7_collectDefined_l44 (nI p) Q E (f + 1)) _ (nI (hdS Γ p)) (nI (plB Γ p + plN Γ p)) (nI (plB Γ p + i)) τ
    unfold wX7_collectDefined_l44_b wX7_rowOf
    rw [ec, v13, erow]
    refine no (by simp (disch := omega) only [nI_lit, nI_add, nI_mulE, nI_clampE, nI_eqE, nI_leE, nI_ltE, vp_nIE, true_and, and_true]; omega) ⟨ev, g, Z1.2.1, Z1.1.1, ?_⟩
    unfold wX4_occurrenceOf wX4_isVisit
    rw [ec, v14]
    rcases en_cs hV hL hp hin with ⟨z, x, x1, x2, x3, x4, x5, x6⟩ | ⟨w0, w1, w2, w3, w4, w5, w6⟩
    · obtain ⟨b1, b2, b3, b4, b5⟩ := enc_b x1
      have hsy : oSy Γ p (x / 8) < Γ.1.1 := hpv.2.1 _ x5
      rw [z]
      refine ⟨ev, yes rfl (yes rfl ⟨ev, ?_⟩)⟩
      rw [v12, x4, i_div10 _ b2, b4, show nI (x / 8 + 1) - 1 = nI (x / 8) by show nI _ - nI 1 = _; rw [nI_subE (by omega)]; congr 1]
      refine c_sym Z1 hV hp x5 ⟨ev, ?_⟩
      rw [v14, z]
      refine yes rfl (yes rfl ?_)
      unfold wX4_attributeOf
      rw [ec, v12, x4, i_mod10 _ b2, b5]
      refine ⟨ev, ?_⟩
      rw [nI_add]
      have hone : B32 ((1 : Int32) <<< (nI (x % 8) &&& 31)) (fun a => decide (a < 8) && decide (a = x % 8)) := (B32.one (s := x % 8) (by omega)).cg (fun a _ => by
        by_cases e : a = x % 8
        · rw [decide_eq_true e, decide_eq_true (by omega)]; rfl
        · rw [decide_eq_false e, Bool.and_false])
      refine c_addDs hM (s := hdS Γ p) (v := (gE (plP Γ p) i).2.1) (t := oSy Γ p (x / 8)) (by omega) (by omega) (by omega) (f := fun a => decide (a = x % 8)) hone (fun a ha hfa => ?_) (fun c τ' hM' => ?_)
      · have hfa := of_decide_eq_true hfa
        refine dF_c Γ p hp i hin _ a (Or.inl ⟨by omega, by rw [x4, b3], by omega⟩)
      · rw [or_01]
        refine fe ?_
        unfold wX7_collectDefined_j184
        rw [nI_1, Nat.add_assoc]
        refine fe (ih (i + 1) τ' _ (b || c) q1 hin (hM'.imp (fun eY hD i' hi' => ?_)))
        by_cases e : i' = i
        · rw [e]
          intro t a hdf
          rcases hdf with ⟨d1, d2, d3⟩ | ⟨d1, _⟩
          · rw [x4, b3] at d2
            rw [x4, b5] at d3
            rw [← d2, ← d3]
            exact hD.2 (x % 8) (by omega) (decide_eq_true rfl)
          · omega
        · exact hD.1 i' (by omega)
    · refine ⟨ev, no (by simp (disch := omega) only [nI_lit, nI_add, nI_mulE, nI_clampE, nI_eqE, nI_leE, nI_ltE, vp_nIE, true_and, and_true]; omega) (no (by decide) ⟨ev, ?_⟩)⟩
      have hsy : oSy Γ p (gE (plP Γ p) i).1 < Γ.1.1 := hpv.2.1 _ w4
      rw [v12]
      refine c_sym Z1 hV hp w4 ⟨ev, ?_⟩
      rw [v14]
      refine no (by simp (disch := omega) only [nI_lit, nI_add, nI_mulE, nI_clampE, nI_eqE, nI_leE, nI_ltE, vp_nIE, true_and, and_true]; omega) (no (by decide) ⟨ev, ?_⟩)
      rw [v14, erow]
      refine ⟨Γ.1.1 + 1, ?_⟩
      refine c_l118 hZ hV hL hp hin w0 (D := ∀ i', i' < i → dCe Γ Y0 p i') (fun τ' Y' b' hM' => ?_) _ 0 τ Y b rfl (Nat.zero_le _) (hM.imp (fun _ hD => ⟨hD, fun t' a ht' => absurd ht' (Nat.not_lt_zero _)⟩))
      unfold wX7_collectDefined_j158 wX7_collectDefined_j184
      rw [nI_1, Nat.add_assoc]
      refine fe (ih (i + 1) τ' Y' b' q1 hin (hM'.imp (fun eY hD i' hi' => ?_)))
      by_cases e : i' = i
      · rw [e]; exact hD.2
      · exact hD.1 i' (by omega)
theorem c_coll (hZ : CZ σ g Γ) (hV : GRV Γ) (hL : LVF Γ) (hp : p < Γ.2.1) (hY : YC σ Y) (hS : dSc Γ Y) {Q : Int32 → ab_S → Prop} (h : ∀ τ' Y' (b' : Bool), CDs σ Γ Y τ' Y' b' (∀ i, i < plN Γ p → dCe Γ Y p i) → Q (if b' then 1 else 0) τ') : wX7_collectDefined (nI p) Q E σ := by
  have h30 := hV.2.1
  have h12 := hV.1.1
  have hpv := (hV.2.2.2 p hp).2.1
  have hhd : hdS Γ p < Γ.1.1 := hpv.2.1 0 (Nat.zero_le _)
  have hvis := hL.vis _ hhd
  unfold wX7_collectDefined
  refine ⟨g, hZ.2.1, hZ.1.1, ?_⟩
  refine c_sym (o := 0) hZ hV hp (Nat.zero_le _) ?_
  have e0 : oSy Γ p 0 = hdS Γ p := rfl
  rw [e0]
  refine ⟨g, hZ.2.1, hZ.1.1, by simp (disch := omega) only [nI_lit, nI_add, nI_mulE, nI_clampE, nI_eqE, nI_leE, nI_ltE, vp_nIE, true_and, and_true]; omega, ?_⟩
  rw [nI_clampE (show hdS Γ p < 2147483648 by omega), (hZ.1.2.2.2 _ hhd).2, nI_1]
  unfold wX4_first
  have e7 : ∀ v : Nat, nI p * 7 + nI v = nI (p * 7 + v) := fun v => by show nI p * nI 7 + _ = _; rw [nI_mulE, nI_add]
  have e71 : nI p * 7 + 1 = nI (p * 7 + 1) := e7 1
  rw [e7, e71, nI_clampE (show p * 7 + (svs Γ (hdS Γ p) + 1) < 2147483648 by omega), nI_clampE (show p * 7 + 1 < 2147483648 by omega), (hZ.2.2 p hp).1 _ (by omega) (Nat.le_refl _)]
  refine ⟨by simp (disch := omega) only [nI_lit, nI_add, nI_mulE, nI_clampE, nI_eqE, nI_leE, nI_ltE, vp_nIE, true_and, and_true]; omega, by simp (disch := omega) only [nI_lit, nI_add, nI_mulE, nI_clampE, nI_eqE, nI_leE, nI_ltE, vp_nIE, true_and, and_true]; omega, plN Γ p + 1, ?_⟩
  rw [(hZ.2.2 p hp).1 1 (Nat.le_refl _) (by omega), plF_N, plF_1]
  exact c_l44 hZ hV hL hp h (plN Γ p) 0 σ Y false rfl (Nat.zero_le _) ⟨FM.rf _ _, hY, hS, fun _ z => z, fun z => absurd z (by decide), fun _ => ⟨rfl, fun i' hi' => absurd hi' (Nat.not_lt_zero _)⟩⟩
end CD
