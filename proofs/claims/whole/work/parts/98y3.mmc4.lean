/-! ===== the machine, the model's: runs, and how it begins ===== -/
section MM
variable {σ : ab_S} {E : String → ab_S → Prop} {T : TST} {Γ : GRT} {S : MST}
theorem MW.mm {τ : ab_S} (h : MW σ Γ) (hV : GRV Γ) (f : FM SMm σ τ) : MW τ Γ := h.fm hV f (fun a i _ => decide_eq_false (by omega))
theorem MPg.mm {τ : ab_S} (h : MPg σ Γ) (f : FM SMm σ τ) : MPg τ Γ := h.fm f (decide_eq_false (by omega)) (fun a i _ _ => decide_eq_false (by omega))
theorem MTt.mm {τ : ab_S} (h : MTt σ Γ T) (f : FM SMm σ τ) : MTt τ Γ T := h.fm f (decide_eq_false (by omega)) (fun a i _ _ => decide_eq_false (by omega))
theorem m_run (hW : MW σ Γ) (hP : MPg σ Γ) (hM : MTt σ Γ T) (hG : GOK Γ) (hT : TOK Γ T) (hR : RMd σ T S) (hO : MOK Γ T false S) {most dn : Nat} (hm : most ≤ 750000) (hd : σ.2.1 92 85 = nI dn) {Q : Int32 → ab_S → Prop} (k : ∀ τ, FM SMm σ τ → RMd τ T (mRun Γ T false most S) → τ.2.1 92 85 = nI (dn + mCnt Γ T false most S) → Q (nI (mCnt Γ T false most S)) τ) : ∃ m, wX12_step_l47 (nI most) Q E m 0 σ := by
  refine ⟨most + 1, ?_⟩
  suffices H : ∀ f c τ S', most - c = f → c ≤ most → FM SMm σ τ → RMd τ T S' → MOK Γ T false S' → τ.2.1 92 85 = nI (dn + c) → mRun Γ T false f S' = mRun Γ T false most S → c + mCnt Γ T false f S' = mCnt Γ T false most S → wX12_step_l47 (nI most) Q E (f + 1) (nI c) τ from H _ 0 σ S rfl (Nat.zero_le _) (FM.rf _ _) hR hO hd rfl (Nat.zero_add _)
  intro f
  induction f with
  | zero =>
    intro c τ S' hf hc hF hR' hO' hd' e1 e2
    show wX12_step_l47_b _ _ _ _ _ _
    unfold wX12_step_l47_b
    have e1 : S' = mRun Γ T false most S := e1
    have e2 : c = mCnt Γ T false most S := e2
    refine yes (by simp (disch := omega) only [nI_lit, nI_add, nI_mulE, nI_clampE, nI_eqE, nI_leE, nI_ltE, vp_nIE, true_and, and_true]; omega) ?_
    rw [e1] at hR'
    rw [e2] at hd' ⊢
    exact k τ hF hR' hd'
  | succ f ih =>
    intro c τ S' hf hc hF hR' hO' hd' e1 e2
    show wX12_step_l47_b (nI most) Q E (wX12_step_l47 (nI most) Q E (f + 1)) (nI c) τ
    unfold wX12_step_l47_b
    refine no (by simp (disch := omega) only [nI_lit, nI_add, nI_mulE, nI_clampE, nI_eqE, nI_leE, nI_ltE, vp_nIE, true_and, and_true]; omega) ?_
    have h84 : τ.2.1 92 84 = abI S'.pc := hR'.1
    rw [h84]
    obtain ⟨e, κ, ⟨n, bk, r, h⟩ | h⟩ := id hO'
    · have hlen := h.2.2.1.len
      obtain ⟨hv, _⟩ := mi_stp hG hT h
      have hw := hG.2.2.2.1
      refine no (by rw [abI_s (by have := hv.1; omega)]; exact nI_pos (by have := hv.2.1; omega)) ?_
      refine m_oneS (hW.mm hG.1 hF) (hP.mm hF) (hM.mm hF) hG hT hR' h.1 hlen (fun z => ?_) hv hd' (fun τ2 F2 R2 D2 => ?_)
      · have := h.2.2.1
        rw [z] at this
        exact ⟨this.2, this.1⟩
      · rw [nI_1]
        have es : mS1 Γ T false S' S'.sk = mTp Γ T false S' n bk r (ins Γ S') := by rw [h.1]; rfl
        refine fe (ih (c + 1) τ2 _ (by omega) (by omega) (hF.tr F2) R2 ?_ (by rw [D2]; congr 1) ?_ ?_)
        · rw [← es]; exact hO'.s hG hT
        · rw [← es]; exact e1
        · rw [← es, ← e2]
          have : mCnt Γ T false (f + 1) S' = if S'.sk = [] then 0 else mCnt Γ T false f (mS1 Γ T false S' S'.sk) + 1 := rfl
          rw [this, if_neg (by rw [h.1]; simp)]; omega
    · rw [h.2.1]
      refine yes (by decide) ?_
      rw [mRun_e Γ T false h.1] at e1
      have : mCnt Γ T false (f + 1) S' = if S'.sk = [] then 0 else mCnt Γ T false f (mS1 Γ T false S' S'.sk) + 1 := rfl
      rw [this, if_pos h.1, Nat.add_zero] at e2
      rw [e1] at hR'
      rw [e2] at hd' ⊢
      exact k τ hF hR' hd'
def SMb : Nat → Nat → Bool := fun a i => decide ((a = 92 ∧ (i = 83 ∨ i = 84 ∨ i = 85 ∨ i = 86 ∨ i = 90)) ∨ (154 ≤ a ∧ a ≤ 162))
variable {Q : Int32 → ab_S → Prop}
theorem m_b118 (hP : MPg σ Γ) (hM : MTt σ Γ T) (hG : GOK Γ) (hT : TOK Γ T) (h90 : σ.2.1 92 90 = nI 0) (h156 : mVi σ T (fun _ => 0)) (h159 : mVa σ (fun _ => some 0)) (h161 : mKp σ (fun _ _ => some 0)) (k : ∀ τ, FM SMk σ τ → RMd τ T (mSt0 Γ T) → Q (nI (pgV Γ (T.pr 0) 1)) τ) : wX12_begin_j118 Q E σ := by
  have h0 : 0 < T.N := hT.1
  have hp := (hT.2.2 0 h0).1.1
  have hhd : hdS Γ (T.pr 0) < Γ.1.1 := (hG.1.2.2.2 _ hp).2.1.2.1 0 (Nat.zero_le _)
  unfold wX12_begin_j118
  refine fe ⟨by show vp_in (nI 0) 251; simp (disch := omega) only [nI_lit, nI_add, nI_mulE, nI_clampE, nI_eqE, nI_leE, nI_ltE, vp_nIE, true_and, and_true]; omega, fe ?_⟩
  generalize hσ1 : ab_I (ab_I σ 92 86 1) 154 (0 : Int32).toNatClampNeg 0 = σ1
  have F1 : FM (fun a i => decide ((a = 92 ∧ i = 86) ∨ a = 154)) σ σ1 := by rw [← hσ1]; exact ((FM.rf _ σ).I (decide_eq_true (by omega))).I (decide_eq_true (by omega))
  have e86 : σ1.2.1 92 86 = nI 1 := by rw [← hσ1, gI_o (by decide), gI_s, if_pos rfl]; rfl
  have e154 : σ1.2.1 154 0 = nI 0 := by rw [← hσ1, gI_s, if_pos (by decide)]; rfl
  clear hσ1
  refine m_vis (c := 0) (hP.fm F1 (decide_eq_false (by omega)) (fun a i _ _ => decide_eq_false (by omega))) (hM.fm F1 (decide_eq_false (by omega)) (fun a i _ _ => decide_eq_false (by omega))) hG hT h0 (h156.fm F1 (fun i => decide_eq_false (by omega))) (hG.2.1.vis _ hhd).1 (fun τ F P V => ?_)
  have P' : τ.2.1 92 84 = abI (pgV Γ (T.pr 0) 1 + 1) := P
  rw [P', abI_s (by omega), Nat.add_sub_cancel]
  refine k τ ((F1.mono (fun a i y => by have y := of_decide_eq_false y; exact decide_eq_false (by omega))).tr (F.mono (fun a i y => by have y := of_decide_eq_false y; exact decide_eq_false (by omega)))) ⟨P, ⟨by rw [F.1 _ _ (decide_eq_false (by omega))]; exact e86, ?_, fun z => absurd rfl z, trivial⟩, V, ⟨by rw [F.1 _ _ (decide_eq_false (by omega)), F1.1 _ _ (decide_eq_false (by omega))]; exact h90, trivial⟩, (h159.fm F1 (fun a i _ => decide_eq_false (by omega))).fm F (fun a i _ => decide_eq_false (by omega)), (h161.fm F1 (fun a i _ => decide_eq_false (by omega))).fm F (fun a i _ => decide_eq_false (by omega))⟩
  rw [F.1 _ _ (decide_eq_false (by omega))]; exact e154
theorem m_b97 (hP : MPg σ Γ) (hM : MTt σ Γ T) (hG : GOK Γ) (hT : TOK Γ T) (h90 : σ.2.1 92 90 = nI 0) (h159 : mVa σ (fun _ => some 0)) (h161 : mKp σ (fun _ _ => some 0)) (k : ∀ τ, FM SMk σ τ → RMd τ T (mSt0 Γ T) → Q (nI (pgV Γ (T.pr 0) 1)) τ) : wX12_begin_j95 Q E σ := by
  have hN := hT.2.1
  refine ⟨T.N + 1, ?_⟩
  suffices H : ∀ f i τ, T.N - i = f → i ≤ T.N → FM (fun a _ => decide (a = 156)) σ τ → (∀ j, j < i → τ.2.1 156 j = nI 0) → wX12_begin_l97 Q E (wX12_begin_j118 Q E) (f + 1) (nI i) τ from H _ 0 σ rfl (Nat.zero_le _) (FM.rf _ _) (fun j hj => absurd hj (Nat.not_lt_zero _))
  intro f
  induction f with
  | zero =>
    intro i τ hf hi hF hd
    show wX12_begin_l97_b _ _ _ _ _ _
    unfold wX12_begin_l97_b
    rw [hF.1 _ _ (decide_eq_false (by omega)), hM.1]
    have e : i = T.N := by omega
    rw [e] at hd
    refine yes (by rw [e]; simp (disch := omega) only [nI_lit, nI_add, nI_mulE, nI_clampE, nI_eqE, nI_leE, nI_ltE, vp_nIE, true_and, and_true]; omega) (m_b118 (hP.fm hF (decide_eq_false (by omega)) (fun a i _ _ => decide_eq_false (by omega))) (hM.fm hF (decide_eq_false (by omega)) (fun a i _ _ => decide_eq_false (by omega))) hG hT (by rw [hF.1 _ _ (decide_eq_false (by omega))]; exact h90) hd (h159.fm hF (fun a i _ => decide_eq_false (by omega))) (h161.fm hF (fun a i _ => decide_eq_false (by omega))) (fun τ' F' R' => k τ' ((hF.mono (fun a i y => by have y := of_decide_eq_false y; exact decide_eq_false (by omega))).tr F') R'))
  | succ f ih =>
    intro i τ hf hi hF hd
    show wX12_begin_l97_b Q E (wX12_begin_j118 Q E) (wX12_begin_l97 Q E (wX12_begin_j118 Q E) (f + 1)) (nI i) τ
    unfold wX12_begin_l97_b
    rw [hF.1 92 53 (decide_eq_false (by omega)), hM.1, nI_clampE (show i < 2147483648 by omega), nI_1]
    refine no (by simp (disch := omega) only [nI_lit, nI_add, nI_mulE, nI_clampE, nI_eqE, nI_leE, nI_ltE, vp_nIE, true_and, and_true]; omega) ⟨by simp (disch := omega) only [nI_lit, nI_add, nI_mulE, nI_clampE, nI_eqE, nI_leE, nI_ltE, vp_nIE, true_and, and_true]; omega, fe (fe (ih (i + 1) _ (by omega) (by omega) (hF.I (decide_eq_true (by omega))) (fun j hj => ?_)))⟩
    rw [gI_s]
    by_cases e : j = i
    · rw [if_pos e]; rfl
    · rw [if_neg e]; exact hd j (by omega)
theorem m_b68 (hP : MPg σ Γ) (hM : MTt σ Γ T) (hG : GOK Γ) (hT : TOK Γ T) (h90 : σ.2.1 92 90 = nI 0) (h159 : mVa σ (fun _ => some 0)) (k : ∀ τ, FM SMk σ τ → RMd τ T (mSt0 Γ T) → Q (nI (pgV Γ (T.pr 0) 1)) τ) : wX12_begin_j66 Q E σ := by
  have hN := hT.2.1
  refine ⟨2008 + 1, ?_⟩
  suffices H : ∀ f i τ, 2008 - i = f → i ≤ 2008 → FM (fun a _ => decide (a = 161 ∨ a = 162)) σ τ → (∀ j, j < i → τ.2.1 161 j = 0 ∧ τ.2.1 162 j = 0) → wX12_begin_l68 Q E (wX12_begin_j95 Q E) (f + 1) (nI i) τ from H _ 0 σ rfl (Nat.zero_le _) (FM.rf _ _) (fun j hj => absurd hj (Nat.not_lt_zero _))
  intro f
  induction f with
  | zero =>
    intro i τ hf hi hF hd
    show wX12_begin_l68_b _ _ _ _ _ _
    unfold wX12_begin_l68_b
    have e : i = 2008 := by omega
    rw [e] at hd
    refine yes (by rw [e]; decide) (m_b97 (hP.fm hF (decide_eq_false (by omega)) (fun a i _ _ => decide_eq_false (by omega))) (hM.fm hF (decide_eq_false (by omega)) (fun a i _ _ => decide_eq_false (by omega))) hG hT (by rw [hF.1 _ _ (decide_eq_false (by omega))]; exact h90) (h159.fm hF (fun a i _ => decide_eq_false (by omega))) (fun m a hm ha => hd _ (by omega)) (fun τ' F' R' => k τ' ((hF.mono (fun a i y => by have y := of_decide_eq_false y; exact decide_eq_false (by omega))).tr F') R'))
  | succ f ih =>
    intro i τ hf hi hF hd
    have ev : vp_in (nI i) 2008 := by simp (disch := omega) only [nI_lit, nI_add, nI_mulE, nI_clampE, nI_eqE, nI_leE, nI_ltE, vp_nIE, true_and, and_true]; omega
    show wX12_begin_l68_b Q E (wX12_begin_j95 Q E) (wX12_begin_l68 Q E (wX12_begin_j95 Q E) (f + 1)) (nI i) τ
    unfold wX12_begin_l68_b
    rw [nI_clampE (show i < 2147483648 by omega), nI_1, show vp_nar .boolean (0 : Int32) = 0 from by decide]
    refine no (by show ¬ nI 2008 ≤ nI i; simp (disch := omega) only [nI_lit, nI_add, nI_mulE, nI_clampE, nI_eqE, nI_leE, nI_ltE, vp_nIE, true_and, and_true]; omega) ⟨ev, fe ⟨ev, fe (fe (ih (i + 1) _ (by omega) (by omega) ((hF.I (decide_eq_true (by omega))).I (decide_eq_true (by omega))) (fun j hj => ?_)))⟩⟩
    by_cases e : j = i
    · exact ⟨by rw [gI_o (by decide), gI_s, if_pos e], by rw [gI_s, if_pos e]⟩
    · exact ⟨by rw [gI_o (by decide), gI_s, if_neg e]; exact (hd j (by omega)).1, by rw [gI_s, if_neg e, gI_o (by decide)]; exact (hd j (by omega)).2⟩
/-- how it begins -/
theorem m_beg (hP : MPg σ Γ) (hM : MTt σ Γ T) (hG : GOK Γ) (hT : TOK Γ T) (h90 : σ.2.1 92 90 = nI 0) (k : ∀ τ, FM SMk σ τ → RMd τ T (mSt0 Γ T) → Q (nI (pgV Γ (T.pr 0) 1)) τ) : ∃ m, wX12_begin_l40 Q E (wX12_begin_j66 Q E) m 0 σ := by
  refine ⟨104 + 1, ?_⟩
  suffices H : ∀ f i τ, 104 - i = f → i ≤ 104 → FM (fun a _ => decide (a = 159 ∨ a = 160)) σ τ → (∀ j, j < i → τ.2.1 159 j = 0 ∧ τ.2.1 160 j = 0) → wX12_begin_l40 Q E (wX12_begin_j66 Q E) (f + 1) (nI i) τ from H _ 0 σ rfl (Nat.zero_le _) (FM.rf _ _) (fun j hj => absurd hj (Nat.not_lt_zero _))
  intro f
  induction f with
  | zero =>
    intro i τ hf hi hF hd
    show wX12_begin_l40_b _ _ _ _ _ _
    unfold wX12_begin_l40_b
    have e : i = 104 := by omega
    rw [e] at hd
    refine yes (by rw [e]; decide) (m_b68 (hP.fm hF (decide_eq_false (by omega)) (fun a i _ _ => decide_eq_false (by omega))) (hM.fm hF (decide_eq_false (by omega)) (fun a i _ _ => decide_eq_false (by omega))) hG hT (by rw [hF.1 _ _ (decide_eq_false (by omega))]; exact h90) (fun i hi => hd i hi) (fun τ' F' R' => k τ' ((hF.mono (fun a i y => by have y := of_decide_eq_false y; exact decide_eq_false (by omega))).tr F') R'))
  | succ f ih =>
    intro i τ hf hi hF hd
    have ev : vp_in (nI i) 104 := by simp (disch := omega) only [nI_lit, nI_add, nI_mulE, nI_clampE, nI_eqE, nI_leE, nI_ltE, vp_nIE, true_and, and_true]; omega
    show wX12_begin_l40_b Q E (wX12_begin_j66 Q E) (wX12_begin_l40 Q E (wX12_begin_j66 Q E) (f + 1)) (nI i) τ
    unfold wX12_begin_l40_b
    rw [nI_clampE (show i < 2147483648 by omega), nI_1, show vp_nar .boolean (0 : Int32) = 0 from by decide]
    refine no (by show ¬ nI 104 ≤ nI i; simp (disch := omega) only [nI_lit, nI_add, nI_mulE, nI_clampE, nI_eqE, nI_leE, nI_ltE, vp_nIE, true_and, and_true]; omega) ⟨ev, fe ⟨ev, fe (fe (ih (i + 1) _ (by omega) (by omega) ((hF.I (decide_eq_true (by omega))).I (decide_eq_true (by omega))) (fun j hj => ?_)))⟩⟩
    by_cases e : j = i
    · exact ⟨by rw [gI_o (by decide), gI_s, if_pos e], by rw [gI_s, if_pos e]⟩
    · exact ⟨by rw [gI_o (by decide), gI_s, if_neg e]; exact (hd j (by omega)).1, by rw [gI_s, if_neg e, gI_o (by decide)]; exact (hd j (by omega)).2⟩
end MM
