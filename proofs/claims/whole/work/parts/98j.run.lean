/-! ===== the machine, the class's: runs ===== -/
noncomputable def mS1 (Γ : GRT) (T : TST) (b : Bool) (S : MST) : List (Nat × Nat) → MST
  | [] => S
  | (n, bk) :: r => mTp Γ T b S n bk r (ins Γ S)
noncomputable def mRun (Γ : GRT) (T : TST) (b : Bool) : Nat → MST → MST
  | 0, S => S
  | k + 1, S => mRun Γ T b k (mS1 Γ T b S S.sk)
noncomputable def mCnt (Γ : GRT) (T : TST) (b : Bool) : Nat → MST → Nat
  | 0, _ => 0
  | k + 1, S => if S.sk = [] then 0 else mCnt Γ T b k (mS1 Γ T b S S.sk) + 1
theorem mRun_e (Γ : GRT) (T : TST) (b : Bool) {S : MST} (h : S.sk = []) : ∀ k, mRun Γ T b k S = S
  | 0 => rfl
  | k + 1 => by
    show mRun Γ T b k (mS1 Γ T b S S.sk) = S
    rw [h]; exact mRun_e Γ T b h k
theorem mCnt_le (Γ : GRT) (T : TST) (b : Bool) : ∀ k S, mCnt Γ T b k S ≤ k
  | 0, _ => Nat.le_refl _
  | k + 1, S => by
    have := mCnt_le Γ T b k (mS1 Γ T b S S.sk)
    unfold mCnt
    split <;> omega
/-- in order -/
def MOK (Γ : GRT) (T : TST) (b : Bool) (S : MST) : Prop := ∃ e κ, (∃ n bk r, MIr Γ T b S e κ n bk r) ∨ MIe Γ T S e κ
theorem MOK.s {Γ : GRT} {T : TST} {b : Bool} {S : MST} (hG : GOK Γ) (hT : TOK Γ T) (h : MOK Γ T b S) : MOK Γ T b (mS1 Γ T b S S.sk) := by
  obtain ⟨e, κ, ⟨n, bk, r, h⟩ | h⟩ := h
  · obtain ⟨_, e', κ', _, h'⟩ := mi_stp hG hT h
    rw [h.1]
    exact ⟨e', κ', h'⟩
  · rw [h.1]
    exact ⟨e, κ, Or.inr h⟩
theorem MOK.n {Γ : GRT} {T : TST} {b : Bool} (hG : GOK Γ) (hT : TOK Γ T) : ∀ k S, MOK Γ T b S → MOK Γ T b (mRun Γ T b k S)
  | 0, _, h => h
  | k + 1, S, h => MOK.n hG hT k _ (h.s hG hT)
section CM
variable {σ : ab_S} {M g x : Nat} {Γ : GRT} {T : TST} {b : Bool} {S : MST} {E : String → ab_S → Prop}
def SMr2 (M : Nat) : Nat → Nat → Bool := fun a i => decide ((a = M ∧ 10 ≤ i ∧ i ≤ 13) ∨ (M + 1 ≤ a ∧ a ≤ M + 6))
theorem c_run (hM : isM M) (hG : GOK Γ) (hT : TOK Γ T) (hSt : CSt σ M g x Γ T b) (hR : RCd σ M S) (hO : MOK Γ T b S) {most dn : Nat} (hm : most ≤ 750000) (h13 : σ.2.1 M 13 = nI dn) {Q : Int32 → ab_S → Prop} (k : ∀ τ, FM (SMr2 M) σ τ → RCd τ M (mRun Γ T b most S) → τ.2.1 M 13 = nI (dn + mCnt Γ T b most S) → Q (nI (mCnt Γ T b most S)) τ) : wX2_run M (nI most) Q E σ := by
  have hMb := isM_b hM
  have hV := hG.1
  refine ⟨most + 1, ?_⟩
  have fin : ∀ τ S' c, FM (SMc M) σ τ → RCd τ M S' → S' = mRun Γ T b most S → c = mCnt Γ T b most S → wX2_run_j28 M (nI most) Q E (nI c) τ := by
    intro τ S' c F R e1 e2
    unfold wX2_run_j28
    rw [F.1 _ _ (decide_eq_false (by omega)), h13, nI_add]
    refine fe ?_
    rw [e2]
    refine k _ ((F.mono (fun a i y => by have y := of_decide_eq_false y; exact decide_eq_false (by omega))).I (decide_eq_true (by omega))) ?_ (by rw [gI_s, if_pos rfl])
    rw [← e1]
    obtain ⟨h1, h2, h3, h4, h5, h6, h7, h8⟩ := R
    exact ⟨by rw [gI_s, if_neg (by decide)]; exact h1, by rw [gI_s, if_neg (by decide)]; exact h2, by rw [gI_s, if_neg (by decide)]; exact h3, h4.cg (fun i _ => ⟨gI_o (by omega), gI_o (by omega)⟩), h5.cg (fun i _ => rfl), fun m hm => by rw [gI_o (by omega)]; exact h6 m hm, h7, h8⟩
  suffices H : ∀ f c τ S', most - c = f → c ≤ most → FM (SMc M) σ τ → RCd τ M S' → MOK Γ T b S' → mRun Γ T b f S' = mRun Γ T b most S → c + mCnt Γ T b f S' = mCnt Γ T b most S → wX2_run_l2 M (nI most) Q E (wX2_run_j28 M (nI most) Q E) (f + 1) (nI c) τ from H _ 0 σ S rfl (Nat.zero_le _) (FM.rf _ _) hR hO rfl (Nat.zero_add _)
  intro f
  induction f with
  | zero =>
    intro c τ S' hf hc hF hR' hO' e1 e2
    show wX2_run_l2_b _ _ _ _ _ _ _ _
    unfold wX2_run_l2_b
    exact yes (by simp (disch := omega) only [nI_lit, nI_add, nI_mulE, nI_clampE, nI_eqE, nI_leE, nI_ltE, vp_nIE, true_and, and_true]; omega) (fin τ S' c hF hR' e1 e2)
  | succ f ih =>
    intro c τ S' hf hc hF hR' hO' e1 e2
    show wX2_run_l2_b M (nI most) Q E (wX2_run_j28 M (nI most) Q E) (wX2_run_l2 M (nI most) Q E (wX2_run_j28 M (nI most) Q E) (f + 1)) (nI c) τ
    unfold wX2_run_l2_b
    refine no (by simp (disch := omega) only [nI_lit, nI_add, nI_mulE, nI_clampE, nI_eqE, nI_leE, nI_ltE, vp_nIE, true_and, and_true]; omega) ?_
    rw [hR'.2.1, hR'.1]
    have St1 := hSt.fm hM hV hF
    obtain ⟨e, κ, ⟨n, bk, r, h⟩ | h⟩ := id hO'
    · have hlen := h.2.2.1.len
      have hn := h.2.2.2.1.1
      have hN := hT.2.1
      have hl : S'.sk.length = r.length + 1 := by rw [h.1]; rfl
      refine no (by rw [hl]; show ¬ _ ≤ nI 0; simp (disch := omega) only [nI_lit, nI_add, nI_mulE, nI_clampE, nI_eqE, nI_leE, nI_ltE, vp_nIE, true_and, and_true]; omega) ?_
      obtain ⟨hv, _⟩ := mi_stp hG hT h
      refine c_prf hM hG St1 hR' hT h.1 hlen hv (fun τ2 F2 R2 => ?_)
      rw [nI_1]
      have es : mS1 Γ T b S' S'.sk = mTp Γ T b S' n bk r (ins Γ S') := by rw [h.1]; rfl
      rw [← es] at R2
      refine fe (ih (c + 1) τ2 _ (by omega) (by omega) (hF.tr F2) R2 (hO'.s hG hT) e1 ?_)
      have : mCnt Γ T b (f + 1) S' = mCnt Γ T b f (mS1 Γ T b S' S'.sk) + 1 := by
        show (if S'.sk = [] then 0 else _) = _
        rw [if_neg (by rw [h.1]; simp)]
      omega
    · have hl : S'.sk.length = 0 := by rw [h.1]; rfl
      refine yes (by rw [hl]; decide) (fin τ S' c hF hR' ?_ ?_)
      · rw [← e1, mRun_e Γ T b h.1]
      · have : mCnt Γ T b (f + 1) S' = 0 := by
          show (if S'.sk = [] then 0 else _) = _
          rw [if_pos h.1]
        omega
end CM
