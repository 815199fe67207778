/-! ===== the machine, the class's: what it keeps ===== -/
theorem isM_b {M : Nat} (h : isM M) : 28 ≤ M ∧ M ≤ 35 := by rcases h with rfl | rfl <;> omega
def Und (σ : ab_S) (M : Nat) : List (Nat × Nat) → Prop
  | [] => True
  | (n, bk) :: r => σ.2.1 (M + 5) r.length = nI n ∧ σ.2.1 (M + 6) r.length = abI bk ∧ Und σ M r
def Stk (σ : ab_S) (M : Nat) : List VL8 → Prop
  | [] => True
  | v :: s => σ.2.2.1 (M + 3) s.length = vL v ∧ Stk σ M s
def SMc (M : Nat) : Nat → Nat → Bool := fun a i => decide ((a = M ∧ 10 ≤ i ∧ i ≤ 12) ∨ (M + 1 ≤ a ∧ a ≤ M + 6))
/-- what a machine's run does not change -/
def CSt (σ : ab_S) (M g x : Nat) (Γ : GRT) (T : TST) (b : Bool) : Prop := σ.2.2.2 M 2 = some g ∧ σ.2.2.2 M 3 = some x ∧ isG g ∧ isT x ∧ σ.2.1 M 1 = (if b then 1 else 0) ∧ CPg σ Γ ∧ CTr σ x T ∧ CGr σ g Γ ∧ CLs σ g Γ
/-- a machine's state -/
def RCb (σ : ab_S) (M : Nat) (S : MST) : Prop := σ.2.1 M 11 = nI S.sk.length ∧ σ.2.1 M 12 = nI S.vs.length ∧ Und σ M S.sk ∧ Stk σ M S.vs ∧ (∀ m, m < 250 → σ.2.1 (M + 4) m = nI (S.vi m)) ∧ (∀ m a, m < 250 → a < 8 → σ.2.2.1 (M + 1) (m * 8 + a) = vL (S.kp m a)) ∧ ∀ v, v < 96 → σ.2.2.1 (M + 2) v = vL (S.va v)
def RCd (σ : ab_S) (M : Nat) (S : MST) : Prop := σ.2.1 M 10 = abI S.pc ∧ RCb σ M S
theorem CSt.fm {σ σ' : ab_S} {M g x : Nat} {Γ : GRT} {T : TST} {b : Bool} (hM : isM M) (hV : GRV Γ) (h : CSt σ M g x Γ T b) (f : FM (SMc M) σ σ') : CSt σ' M g x Γ T b := by
  have hMb := isM_b hM
  obtain ⟨h1, h2, h3, h4, h5, h6, h7, h8, h9⟩ := h
  have hgb := isG_b h3
  have hxb := isT_b h4
  refine ⟨by rw [f.2.2 _ _ (decide_eq_false (by omega))]; exact h1, by rw [f.2.2 _ _ (decide_eq_false (by omega))]; exact h2, h3, h4, by rw [f.1 _ _ (decide_eq_false (by omega))]; exact h5, ⟨h6.1.fm f (fun a i q => decide_eq_false (by omega)), fun p v q1 q2 q3 => by rw [f.1 _ _ (decide_eq_false (by omega))]; exact h6.2 p v q1 q2 q3⟩, h7.fm f (fun a i q1 q2 => decide_eq_false (by omega)), h8.fm hV f (fun k i hk => decide_eq_false (by omega)), fun s hs => ⟨fun y hy => by rw [f.1 _ _ (decide_eq_false (by omega))]; exact (h9 s hs).1 y hy, by rw [f.1 _ _ (decide_eq_false (by omega))]; exact (h9 s hs).2⟩⟩
theorem Und.cg {σ σ' : ab_S} {M : Nat} : ∀ {l}, Und σ M l → (∀ i, i < l.length → σ'.2.1 (M + 5) i = σ.2.1 (M + 5) i ∧ σ'.2.1 (M + 6) i = σ.2.1 (M + 6) i) → Und σ' M l
  | [], _, _ => trivial
  | (n, bk) :: r, h, k => ⟨by rw [(k _ (by rw [List.length_cons]; omega)).1]; exact h.1, by rw [(k _ (by rw [List.length_cons]; omega)).2]; exact h.2.1, Und.cg h.2.2 (fun i hi => k i (by rw [List.length_cons]; omega))⟩
theorem Stk.cg {σ σ' : ab_S} {M : Nat} : ∀ {l}, Stk σ M l → (∀ i, i < l.length → σ'.2.2.1 (M + 3) i = σ.2.2.1 (M + 3) i) → Stk σ' M l
  | [], _, _ => trivial
  | v :: s, h, k => ⟨by rw [k _ (by rw [List.length_cons]; omega)]; exact h.1, Stk.cg h.2 (fun i hi => k i (by rw [List.length_cons]; omega))⟩
section CM
variable {σ : ab_S} {M : Nat} {S : MST} {E : String → ab_S → Prop}
/-- the place is set -/
theorem RCd.pc (h : RCd σ M S) {p : Nat} {v : Int32} (hv : v = abI p) : RCd (ab_I σ M 10 v) M (p, S.sk, S.vi, S.vs, S.kp, S.va) ∧ FM (SMc M) σ (ab_I σ M 10 v) := by
  obtain ⟨h1, h2, h3, h4, h5, h6, h7, h8⟩ := h
  refine ⟨⟨by rw [gI_s, if_pos rfl]; exact hv, by rw [gI_s, if_neg (by decide)]; exact h2, by rw [gI_s, if_neg (by decide)]; exact h3, h4.cg (fun i _ => ⟨gI_o (by omega), gI_o (by omega)⟩), h5.cg (fun i _ => rfl), fun m hm => by rw [gI_o (by omega)]; exact h6 m hm, h7, h8⟩, (FM.rf _ σ).I (decide_eq_true (by omega))⟩
theorem c_psh (hM : isM M) (h : RCd σ M S) (hl : S.vs.length < 40) {v : VL8} {Q : ab_S → Prop} (k : ∀ τ, FM (SMc M) σ τ → RCd τ M (S.pc, S.sk, S.vi, v :: S.vs, S.kp, S.va) → Q τ) : wX2_push M (vL v) Q E σ := by
  obtain ⟨h1, h2, h3, h4, h5, h6, h7, h8⟩ := h
  unfold wX2_push
  rw [h3, nI_clampE (show S.vs.length < 2147483648 by omega)]
  refine no (by simp (disch := omega) only [nI_lit, nI_add, nI_mulE, nI_clampE, nI_eqE, nI_leE, nI_ltE, vp_nIE, true_and, and_true]; omega) ⟨by simp (disch := omega) only [nI_lit, nI_add, nI_mulE, nI_clampE, nI_eqE, nI_leE, nI_ltE, vp_nIE, true_and, and_true]; omega, fe ?_⟩
  rw [gI_L, h3, nI_1]
  refine fe (k _ (((FM.rf _ σ).L (decide_eq_true (by omega))).I (decide_eq_true (by omega))) ⟨by rw [gI_s, if_neg (by decide), gI_L]; exact h1, by rw [gI_s, if_neg (by decide), gI_L]; exact h2, by rw [gI_s, if_pos rfl]; rfl, h4.cg (fun i _ => ⟨gI_o (by omega), gI_o (by omega)⟩), ⟨?_, h5.cg (fun i hi => ?_)⟩, fun m hm => by rw [gI_o (by omega), gI_L]; exact h6 m hm, fun m a hm ha => ?_, fun w hw => ?_⟩)
  · rw [gL_I, gL_L, if_pos rfl, if_pos rfl]
  · rw [gL_I, gL_L, if_pos rfl, if_neg (by omega)]
  · rw [gL_I, gL_L, if_neg (by omega)]; exact h7 m a hm ha
  · rw [gL_I, gL_L, if_neg (by omega)]; exact h8 w hw
theorem c_ppp (hM : isM M) (h : RCd σ M S) {v : VL8} {s : List VL8} (hs : S.vs = v :: s) (hl : S.vs.length ≤ 40) {Q : Int64 → ab_S → Prop} (k : ∀ τ, FM (SMc M) σ τ → RCd τ M (S.pc, S.sk, S.vi, s, S.kp, S.va) → Q (vL v) τ) : wX2_pop M Q E σ := by
  obtain ⟨h1, h2, h3, h4, h5, h6, h7, h8⟩ := h
  have hn : S.vs.length = s.length + 1 := by rw [hs]; rfl
  rw [hn] at h3 hl
  rw [hs] at h5
  unfold wX2_pop
  have es : nI (s.length + 1) - 1 = nI s.length := by show nI _ - nI 1 = _; rw [nI_subE (by omega)]; congr 1
  rw [h3, es]
  refine yes (by show ¬ _ = nI 0; rw [nI_eqE (by omega) (by omega)]; omega) (fe ?_)
  rw [gI_s, if_pos rfl, nI_clampE (show s.length < 2147483648 by omega), gL_I, h5.1]
  refine ⟨by simp (disch := omega) only [nI_lit, nI_add, nI_mulE, nI_clampE, nI_eqE, nI_leE, nI_ltE, vp_nIE, true_and, and_true]; omega, k _ ((FM.rf _ σ).I (decide_eq_true (by omega))) ⟨by rw [gI_s, if_neg (by decide)]; exact h1, by rw [gI_s, if_neg (by decide)]; exact h2, by rw [gI_s, if_pos rfl], h4.cg (fun i _ => ⟨gI_o (by omega), gI_o (by omega)⟩), h5.2.cg (fun i _ => rfl), fun m hm => by rw [gI_o (by omega)]; exact h6 m hm, h7, h8⟩⟩
end CM
