/-! ===== the machine, the model's: a step ===== -/
def SMk : Nat → Nat → Bool := fun a i => decide ((a = 92 ∧ (i = 84 ∨ i = 86 ∨ i = 90)) ∨ (154 ≤ a ∧ a ≤ 162))
section MM
variable {σ : ab_S} {E : String → ab_S → Prop} {Q : ab_S → Prop} {T : TST} {Γ : GRT} {S : MST} {n bk : Nat} {r : List (Nat × Nat)}
theorem MPg.fm {S : Nat → Nat → Bool} {τ : ab_S} (h : MPg σ Γ) (f : FM S σ τ) (s0 : S 92 74 = false) (s : ∀ a i, 146 ≤ a → a ≤ 148 → S a i = false) : MPg τ Γ := ⟨⟨by rw [f.1 _ _ s0]; exact h.1.1, fun j hj => by rw [f.1 _ _ (s _ _ (by omega) (by omega)), f.1 _ _ (s _ _ (by omega) (by omega))]; exact h.1.2 j hj⟩, fun p v a1 a2 a3 => by rw [f.1 _ _ (s _ _ (by omega) (by omega))]; exact h.2 p v a1 a2 a3⟩
theorem m_81 (hW : MW σ Γ) (hP : MPg σ Γ) (hM : MTt σ Γ T) (hG : GOK Γ) (hT : TOK Γ T) (hR : RMd σ T S) (hsk : S.sk = (n, bk) :: r) (hl : r.length ≤ n) {I : Nat × Nat × Nat} (hv : Vld Γ T S n I) (h13 : I.1 ≠ 13) (h20 : I.1 ≠ 20) {y0 : Int32} (hy : y0 = abI ((if I.1 = 14 then I.2.1 else S.pc) + 1)) (k : ∀ τ, FM SMk σ τ → RMd τ T (mTp Γ T false S n bk r I) → Q τ) : wX12_one_j81 Q E (nI I.1) (nI I.2.1) (nI n) y0 σ := by
  have hV := hG.1
  have hN := hT.2.1
  obtain ⟨v1, v2, v3, v4, v5, v6, v7, v8, v9, v10, v11, v12⟩ := hv
  obtain ⟨r1, r2, r3, r4, r5, r6⟩ := hR
  have hp := (hT.2.2 n v5).1.1
  unfold wX12_one_j81
  refine fe ?_
  generalize hσ2 : ab_I σ 92 84 y0 = σ2
  have F0 : FM (fun a i => decide (a = 92 ∧ i = 84)) σ σ2 := by rw [← hσ2]; exact (FM.rf _ σ).I (decide_eq_true (by omega))
  have F2 : FM SMk σ σ2 := F0.mono (fun a i y => by have y := of_decide_eq_false y; exact decide_eq_false (by omega))
  have e84 : σ2.2.1 92 84 = y0 := by rw [← hσ2, gI_s, if_pos rfl]
  clear hσ2
  have q2 : mSkk σ2 S.sk := r2.fm F0 (decide_eq_false (by omega)) (fun a i _ => decide_eq_false (by omega))
  have q3 : mVi σ2 T S.vi := r3.fm F0 (fun i => decide_eq_false (by omega))
  have q4 : mPi σ2 S.vs := r4.fm F0 (decide_eq_false (by omega)) (fun a i _ => decide_eq_false (by omega))
  have q5 : mVa σ2 S.va := r5.fm F0 (fun a i _ => decide_eq_false (by omega))
  have q6 : mKp σ2 S.kp := r6.fm F0 (fun a i _ => decide_eq_false (by omega))
  have W2 : MW σ2 Γ := hW.fm hV F0 (fun a i _ => decide_eq_false (by omega))
  have P2 : MPg σ2 Γ := hP.fm F0 (decide_eq_false (by omega)) (fun a i _ _ => decide_eq_false (by omega))
  have M2 : MTt σ2 Γ T := hM.fm F0 (decide_eq_false (by omega)) (fun a i _ _ => decide_eq_false (by omega))
  have ne : ∀ c, c < 100 → I.1 ≠ c → ¬ nI I.1 = nI c := fun c hc hne => by rw [nI_eqE (by omega) (by omega)]; exact hne
  have le : ∀ c, c < 100 → (nI c ≤ nI I.1) = (c ≤ I.1) := fun c hc => nI_leE (by omega) (by omega)
  have psh : ∀ v u w, mTp Γ T false S n bk r I = (S.pc + 1, S.sk, S.vi, v :: S.vs, S.kp, S.va) → I.1 ≠ 14 → w = vB v → (∀ x, v = some x → u = x) → wX12_pushes u w (fun σ1 => Q σ1) E σ2 := by
    intro v u w hm h14 hw hu
    rw [hm] at k
    rw [if_neg h14] at hy
    refine m_push q4 (by omega) hw hu (fun τ F P => k τ (F2.tr (F.mono (fun a i y => by have y := of_decide_eq_false y; exact decide_eq_false (by omega)))) ⟨?_, q2.fm F (decide_eq_false (by omega)) (fun a i _ => decide_eq_false (by omega)), q3.fm F (fun i => decide_eq_false (by omega)), P, q5.fm F (fun a i _ => decide_eq_false (by omega)), q6.fm F (fun a i _ => decide_eq_false (by omega))⟩)
    show τ.2.1 92 84 = abI (S.pc + 1)
    rw [F.1 _ _ (decide_eq_false (by omega)), e84, hy]
  by_cases k19 : I.1 = 19
  · obtain ⟨o1, o2, o3⟩ := v11 k19
    have hr3 : rt Γ (T.pr n) ≤ 3 := (hV.2.2.2 _ hp).2.1.1
    have hch := t_ch hT v5 o2
    have em : mTp Γ T false S n bk r I = mEn Γ T S (T.ch n I.2.1) (S.pc + 1) S.sk := by
      unfold mTp
      rw [if_neg (by omega), if_neg (by omega), if_neg (by omega), if_neg (by omega), if_neg (by omega), if_neg (by omega), if_neg (by omega), if_neg (by omega), if_pos k19]
    rw [em] at k
    rw [if_neg (by omega)] at hy
    have e3 : (3 : Int32) * nI n + nI I.2.1 - 1 = nI (3 * n + (I.2.1 - 1)) := by
      show nI 3 * _ + _ - nI 1 = _
      rw [nI_mulE, nI_add, nI_subE (by omega)]; congr 1; omega
    have hsl : S.sk.length = r.length + 1 := by rw [hsk]; rfl
    rw [e3, nI_clampE (show 3 * n + (I.2.1 - 1) < 2147483648 by omega), (M2.2 n v5).2.2.2.2 I.2.1 o1 o2]
    refine no (fun q => q (by rw [k19]; rfl)) ⟨by simp (disch := omega) only [nI_lit, nI_add, nI_mulE, nI_clampE, nI_eqE, nI_leE, nI_ltE, vp_nIE, true_and, and_true]; omega, fe ?_⟩
    have ec : (nI S.sk.length).toNatClampNeg = S.sk.length := nI_clampE (by omega)
    have ev : vp_in (nI S.sk.length) 251 := by simp (disch := omega) only [nI_lit, nI_add, nI_mulE, nI_clampE, nI_eqE, nI_leE, nI_ltE, vp_nIE, true_and, and_true]; omega
    rw [q2.1, ec]
    refine ⟨ev, fe ?_⟩
    rw [gI_o (by decide), q2.1, ec]
    refine ⟨ev, fe ?_⟩
    rw [gI_o (by decide), gI_o (by decide), q2.1, nI_1]
    refine fe ?_
    generalize hσ3 : ab_I (ab_I (ab_I σ2 155 S.sk.length y0) 154 S.sk.length (nI (T.ch n I.2.1))) 92 86 (nI (S.sk.length + 1)) = σ3
    have F3 : FM (fun a i => decide ((a = 92 ∧ i = 86) ∨ a = 154 ∨ a = 155)) σ2 σ3 := by rw [← hσ3]; exact (((FM.rf _ σ2).I (decide_eq_true (by omega))).I (decide_eq_true (by omega))).I (decide_eq_true (by omega))
    have K3 : mSkk σ3 ((T.ch n I.2.1, S.pc + 1) :: S.sk) := by
      rw [← hσ3]
      refine ⟨by rw [gI_s, if_pos rfl]; rfl, ?_, fun _ => ?_, q2.2.cg (fun i hi => ⟨?_, ?_⟩)⟩
      · rw [gI_o (by decide), gI_s, if_pos rfl]
      · rw [gI_o (by decide), gI_o (by decide), gI_s, if_pos rfl]; exact hy
      · rw [gI_o (by decide), gI_s, if_neg (by omega), gI_o (by decide)]
      · rw [gI_o (by decide), gI_o (by decide), gI_s, if_neg (by omega)]
    clear hσ3
    refine m_vis (P2.fm F3 (decide_eq_false (by omega)) (fun a i _ _ => decide_eq_false (by omega))) (M2.fm F3 (decide_eq_false (by omega)) (fun a i _ _ => decide_eq_false (by omega))) hG hT hch (q3.fm F3 (fun i => decide_eq_false (by omega))) o3 (fun τ F P V => ?_)
    refine k τ ((F2.tr (F3.mono (fun a i y => by have y := of_decide_eq_false y; exact decide_eq_false (by omega)))).tr (F.mono (fun a i y => by have y := of_decide_eq_false y; exact decide_eq_false (by omega)))) ⟨P, K3.fm F (decide_eq_false (by omega)) (fun a i _ => decide_eq_false (by omega)), V, (q4.fm F3 (decide_eq_false (by omega)) (fun a i _ => decide_eq_false (by omega))).fm F (decide_eq_false (by omega)) (fun a i _ => decide_eq_false (by omega)), (q5.fm F3 (fun a i _ => decide_eq_false (by omega))).fm F (fun a i _ => decide_eq_false (by omega)), (q6.fm F3 (fun a i _ => decide_eq_false (by omega))).fm F (fun a i _ => decide_eq_false (by omega))⟩
  refine yes (ne 19 (by omega) k19) ?_
  by_cases k0 : I.1 = 0
  · refine yes (by rw [k0]; rfl) ?_
    unfold wX12_one_j159 wX12_one_j174
    refine no (fun q => q (by rw [k0]; rfl)) (psh (some (nI I.2.1)) _ _ ?_ (by omega) rfl (fun x hx => Option.some.inj hx))
    unfold mTp; rw [if_pos k0]
  refine no (ne 0 (by omega) k0) ?_
  by_cases k1 : I.1 = 1
  · refine no (fun q => q (by rw [k1]; rfl)) ?_
    unfold wX12_one_j159 wX12_one_j174
    rw [nI_clampE (show n < 2147483648 by omega), (M2.2 n v5).2.2.2.1]
    refine yes (ne 0 (by omega) k0) ⟨by simp (disch := omega) only [nI_lit, nI_add, nI_mulE, nI_clampE, nI_eqE, nI_leE, nI_ltE, vp_nIE, true_and, and_true]; omega, psh (some (T.li n)) _ _ ?_ (by omega) rfl (fun x hx => Option.some.inj hx)⟩
    unfold mTp; rw [if_neg k0, if_pos k1]
  refine yes (ne 1 (by omega) k1) ?_
  by_cases k3 : I.1 = 3
  · obtain ⟨eI, hs⟩ := v6 (by omega) (by omega)
    have eg : gK Γ (T.pr n) I.2.2 = 3 := by
      have := congrArg Prod.fst eI
      rw [k3] at this; exact this.symm
    have eN : I.2.1 = gN Γ (T.pr n) I.2.2 := congrArg (fun z => z.2.1) eI
    have h0 := (gK_r Γ (T.pr n) I.2.2).2.2.mp eg
    have h96 := gN_lt hV hp hs h0
    obtain ⟨a1, a2⟩ := q5 I.2.1 (by omega)
    rw [nI_clampE (show I.2.1 < 2147483648 by omega), a1, a2]
    refine no (fun q => q (by rw [k3]; rfl)) ⟨by simp (disch := omega) only [nI_lit, nI_add, nI_mulE, nI_clampE, nI_eqE, nI_leE, nI_ltE, vp_nIE, true_and, and_true]; omega, by simp (disch := omega) only [nI_lit, nI_add, nI_mulE, nI_clampE, nI_eqE, nI_leE, nI_ltE, vp_nIE, true_and, and_true]; omega, psh (S.va I.2.1) _ _ ?_ (by omega) rfl (fun x hx => by rw [hx]; rfl)⟩
    unfold mTp
    rw [if_neg k0, if_neg k1, if_pos (by omega)]
    unfold mGt
    rw [if_pos ⟨rfl, k3⟩]
  refine yes (ne 3 (by omega) k3) ?_
  by_cases k5 : I.1 ≤ 5
  · obtain ⟨eI, hs⟩ := v6 (by omega) k5
    have eg : I.1 = gK Γ (T.pr n) I.2.2 := congrArg Prod.fst eI
    have eN : I.2.1 = gN Γ (T.pr n) I.2.2 := congrArg (fun z => z.2.1) eI
    have hch := t_ch hT v5 hs.2.1
    refine no (by show ¬ nI 6 ≤ _; rw [le 6 (by omega)]; omega) ?_
    rw [eN]
    refine m_plc W2 M2 hV hT v5 hs (Or.inl eg) (by omega) ?_
    obtain ⟨a1, a2⟩ := q6 (T.ch n (I.2.2 / 8)) (I.2.2 % 8) (by omega) (by omega)
    rw [nI_clampE (show 8 * T.ch n (I.2.2 / 8) + I.2.2 % 8 < 2147483648 by omega), a1, a2]
    refine ⟨by simp (disch := omega) only [nI_lit, nI_add, nI_mulE, nI_clampE, nI_eqE, nI_leE, nI_ltE, vp_nIE, true_and, and_true]; omega, by simp (disch := omega) only [nI_lit, nI_add, nI_mulE, nI_clampE, nI_eqE, nI_leE, nI_ltE, vp_nIE, true_and, and_true]; omega, psh (S.kp (T.ch n (I.2.2 / 8)) (I.2.2 % 8)) _ _ ?_ (by omega) rfl (fun x hx => by rw [hx]; rfl)⟩
    unfold mTp
    rw [if_neg k0, if_neg k1, if_pos k5]
    unfold mGt
    rw [if_neg (fun q => k3 q.2)]
  refine yes (by show nI 6 ≤ _; rw [le 6 (by omega)]; omega) ?_
  by_cases k12 : I.1 ≤ 12
  · refine no (by show ¬ nI 13 ≤ _; rw [le 13 (by omega)]; omega) ?_
    rw [if_neg (by omega)] at hy
    have em : ∃ vs', mTp Γ T false S n bk r I = (S.pc + 1, S.sk, S.vi, vs', S.kp, S.va) ∧ (I.1 = 6 → ∃ a s, S.vs = a :: s ∧ vs' = vneg a :: s) ∧ (7 ≤ I.1 → ∃ c a s, S.vs = c :: a :: s ∧ vs' = vbin I.1 a c :: s) := by
      unfold mTp
      rw [if_neg k0, if_neg k1, if_neg k5]
      by_cases k6 : I.1 = 6
      · obtain ⟨a, s, e⟩ := v7 k6
        rw [if_pos k6, e]
        exact ⟨vneg a :: s, rfl, fun _ => ⟨a, s, rfl, rfl⟩, fun z => by omega⟩
      · obtain ⟨c, a, s, e⟩ := v8 (by omega) k12
        rw [if_neg k6, if_pos k12, e]
        exact ⟨vbin I.1 a c :: s, rfl, fun z => absurd z k6, fun _ => ⟨c, a, s, rfl, rfl⟩⟩
    obtain ⟨vs', em, m6, m7⟩ := em
    rw [em] at k
    refine m_works (by omega) k12 q4 v4 m6 m7 (fun τ F P => k τ (F2.tr (F.mono (fun a i y => by have y := of_decide_eq_false y; exact decide_eq_false (by omega)))) ⟨?_, q2.fm F (decide_eq_false (by omega)) (fun a i _ => decide_eq_false (by omega)), q3.fm F (fun i => decide_eq_false (by omega)), P, q5.fm F (fun a i _ => decide_eq_false (by omega)), q6.fm F (fun a i _ => decide_eq_false (by omega))⟩)
    show τ.2.1 92 84 = abI (S.pc + 1)
    rw [F.1 _ _ (decide_eq_false (by omega)), e84, hy]
  refine yes (by show nI 13 ≤ _; rw [le 13 (by omega)]; omega) ?_
  by_cases k14 : I.1 = 14
  · refine yes (ne 16 (by omega) (by omega)) (yes (by rw [k14]; rfl) (k σ2 F2 ?_))
    have em : mTp Γ T false S n bk r I = (I.2.1 + 1, S.sk, S.vi, S.vs, S.kp, S.va) := by
      unfold mTp
      rw [if_neg k0, if_neg k1, if_neg k5, if_neg (by omega), if_neg k12, if_neg h13, if_pos k14]
    rw [em]
    rw [if_pos k14] at hy
    exact ⟨by show σ2.2.1 92 84 = abI (I.2.1 + 1); rw [e84, hy], q2, q3, q4, q5, q6⟩
  rw [if_neg k14] at hy
  obtain ⟨⟨v, hvs⟩, eI, hs⟩ := v10 (by omega) (by omega)
  have em : mTp Γ T false S n bk r I = mSt T false S n I [v] := by
    unfold mTp
    rw [if_neg k0, if_neg k1, if_neg k5, if_neg (by omega), if_neg k12, if_neg h13, if_neg k14, if_pos (by omega), hvs]
  rw [em] at k
  rw [hvs] at q4
  obtain ⟨p1, p2, p3, p4⟩ := q4.pop (by show 0 < 1000; omega)
  have p1 : σ2.2.1 92 90 - (1 : Int32) = nI 0 := p1
  have p2 : σ2.2.1 157 0 = vI v := p2
  have p3 : σ2.2.1 158 0 = vB v := p3
  have p4 : mPi (ab_I σ2 92 90 (nI 0)) [] := p4
  have ec0 : (nI 0).toNatClampNeg = 0 := nI_clampE (by omega)
  have ev0 : vp_in (nI 0) 3000 := by simp (disch := omega) only [nI_lit, nI_add, nI_mulE, nI_clampE, nI_eqE, nI_leE, nI_ltE, vp_nIE, true_and, and_true]; omega
  have e90 : (ab_I σ2 92 90 (nI 0)).2.1 92 90 = nI 0 := by rw [gI_s, if_pos rfl]
  by_cases k16 : I.1 = 16
  · have eg : gK Γ (T.pr n) I.2.2 = 3 := by
      have := congrArg Prod.fst eI
      rw [k16] at this
      have : 16 = gK Γ (T.pr n) I.2.2 + 13 := this
      omega
    have eN : I.2.1 = gN Γ (T.pr n) I.2.2 := congrArg (fun z => z.2.1) eI
    have h0 := (gK_r Γ (T.pr n) I.2.2).2.2.mp eg
    have h96 := gN_lt hV hp hs h0
    have em2 : mSt T false S n I [v] = (S.pc + 1, S.sk, S.vi, [], S.kp, uf S.va I.2.1 v) := if_pos ⟨rfl, k16⟩
    rw [em2] at k
    refine no (fun q => q (by rw [k16]; rfl)) ?_
    rw [p1]
    refine fe ?_
    rw [e90, ec0, nI_clampE (show I.2.1 < 2147483648 by omega), gI_o (by decide), p2]
    refine ⟨ev0, by simp (disch := omega) only [nI_lit, nI_add, nI_mulE, nI_clampE, nI_eqE, nI_leE, nI_ltE, vp_nIE, true_and, and_true]; omega, fe ?_⟩
    rw [gI_o (by decide), e90, ec0, gI_o (by decide), gI_o (by decide), p3, vB_n]
    refine ⟨ev0, by simp (disch := omega) only [nI_lit, nI_add, nI_mulE, nI_clampE, nI_eqE, nI_leE, nI_ltE, vp_nIE, true_and, and_true]; omega, fe ?_⟩
    generalize hσ3 : ab_I (ab_I (ab_I σ2 92 90 (nI 0)) 159 I.2.1 (vI v)) 160 I.2.1 (vB v) = σ3
    have F3 : FM (fun a i => decide ((a = 92 ∧ i = 90) ∨ a = 159 ∨ a = 160)) σ2 σ3 := by rw [← hσ3]; exact (((FM.rf _ σ2).I (decide_eq_true (by omega))).I (decide_eq_true (by omega))).I (decide_eq_true (by omega))
    refine k σ3 (F2.tr (F3.mono (fun a i y => by have y := of_decide_eq_false y; exact decide_eq_false (by omega)))) ⟨?_, q2.fm F3 (decide_eq_false (by omega)) (fun a i _ => decide_eq_false (by omega)), q3.fm F3 (fun i => decide_eq_false (by omega)), ⟨by rw [← hσ3, gI_o (by decide), gI_o (by decide)]; exact e90, trivial⟩, fun i hi => ?_, q6.fm F3 (fun a i _ => decide_eq_false (by omega))⟩
    · show σ3.2.1 92 84 = abI (S.pc + 1)
      rw [F3.1 _ _ (decide_eq_false (by omega)), e84, hy]
    · show σ3.2.1 159 i = vI (uf S.va I.2.1 v i) ∧ σ3.2.1 160 i = vB (uf S.va I.2.1 v i)
      rw [← hσ3]
      by_cases e : i = I.2.1
      · rw [e, uf_s]
        refine ⟨?_, ?_⟩
        · rw [gI_o (by decide), gI_s, if_pos rfl]
        · rw [gI_s, if_pos rfl]
      · rw [uf_o _ _ e]
        refine ⟨?_, ?_⟩
        · rw [gI_o (by decide), gI_s, if_neg e, gI_o (by decide)]; exact (q5 i hi).1
        · rw [gI_s, if_neg e, gI_o (by decide), gI_o (by decide)]; exact (q5 i hi).2
  · have eg : I.1 = gK Γ (T.pr n) I.2.2 + 13 := congrArg Prod.fst eI
    have eN : I.2.1 = gN Γ (T.pr n) I.2.2 := congrArg (fun z => z.2.1) eI
    have hch := t_ch hT v5 hs.2.1
    have em2 : mSt T false S n I [v] = (S.pc + 1, S.sk, S.vi, [], uf2 S.kp (T.ch n (I.2.2 / 8)) (I.2.2 % 8) v, S.va) := if_neg (fun q => k16 q.2)
    rw [em2] at k
    refine yes (ne 16 (by omega) k16) (no (ne 14 (by omega) k14) ?_)
    rw [eN]
    refine m_plc W2 M2 hV hT v5 hs (Or.inr eg) (by omega) ?_
    have ecu : (nI (8 * T.ch n (I.2.2 / 8) + I.2.2 % 8)).toNatClampNeg = 8 * T.ch n (I.2.2 / 8) + I.2.2 % 8 := nI_clampE (by omega)
    have evu : vp_in (nI (8 * T.ch n (I.2.2 / 8) + I.2.2 % 8)) 2008 := by simp (disch := omega) only [nI_lit, nI_add, nI_mulE, nI_clampE, nI_eqE, nI_leE, nI_ltE, vp_nIE, true_and, and_true]; omega
    have c250 : T.ch n (I.2.2 / 8) < 250 := by omega
    have c8 : I.2.2 % 8 < 8 := by omega
    rw [p1]
    refine fe ?_
    rw [e90, ec0, ecu, gI_o (by decide), p2]
    refine ⟨ev0, evu, fe ?_⟩
    rw [gI_o (by decide), e90, ec0, gI_o (by decide), gI_o (by decide), p3, vB_n]
    refine ⟨ev0, evu, fe ?_⟩
    generalize T.ch n (I.2.2 / 8) = c at *
    generalize I.2.2 % 8 = a0 at *
    generalize hσ3 : ab_I (ab_I (ab_I σ2 92 90 (nI 0)) 161 (8 * c + a0) (vI v)) 162 (8 * c + a0) (vB v) = σ3
    have F3 : FM (fun a i => decide ((a = 92 ∧ i = 90) ∨ a = 161 ∨ a = 162)) σ2 σ3 := by rw [← hσ3]; exact (((FM.rf _ σ2).I (decide_eq_true (by omega))).I (decide_eq_true (by omega))).I (decide_eq_true (by omega))
    refine k σ3 (F2.tr (F3.mono (fun a i y => by have y := of_decide_eq_false y; exact decide_eq_false (by omega)))) ⟨?_, q2.fm F3 (decide_eq_false (by omega)) (fun a i _ => decide_eq_false (by omega)), q3.fm F3 (fun i => decide_eq_false (by omega)), ⟨by rw [← hσ3, gI_o (by decide), gI_o (by decide)]; exact e90, trivial⟩, q5.fm F3 (fun a i _ => decide_eq_false (by omega)), fun m a hm ha => ?_⟩
    · show σ3.2.1 92 84 = abI (S.pc + 1)
      rw [F3.1 _ _ (decide_eq_false (by omega)), e84, hy]
    · show σ3.2.1 161 (8 * m + a) = vI (uf2 S.kp c a0 v m a) ∧ σ3.2.1 162 (8 * m + a) = vB (uf2 S.kp c a0 v m a)
      rw [← hσ3]
      by_cases e : 8 * m + a = 8 * c + a0
      · have em : m = c := by omega
        have ea : a = a0 := by omega
        rw [e, em, ea]
        unfold uf2
        rw [uf_s, uf_s]
        refine ⟨?_, ?_⟩
        · rw [gI_o (by decide), gI_s, if_pos rfl]
        · rw [gI_s, if_pos rfl]
      · have eu : uf2 S.kp c a0 v m a = S.kp m a := by
          unfold uf2
          by_cases em : m = c
          · rw [em, uf_s, uf_o _ _ (by omega)]
          · rw [uf_o _ _ em]
        rw [eu]
        refine ⟨?_, ?_⟩
        · rw [gI_o (by decide), gI_s, if_neg e, gI_o (by decide)]; exact (q6 m a hm ha).1
        · rw [gI_s, if_neg e, gI_o (by decide), gI_o (by decide)]; exact (q6 m a hm ha).2
theorem m_oneS (hW : MW σ Γ) (hP : MPg σ Γ) (hM : MTt σ Γ T) (hG : GOK Γ) (hT : TOK Γ T) (hR : RMd σ T S) (hsk : S.sk = (n, bk) :: r) (hl : r.length ≤ n) (hb : r = [] → bk = 0 ∧ n = 0) (hv : Vld Γ T S n (ins Γ S)) {dn : Nat} (hd : σ.2.1 92 85 = nI dn) (k : ∀ τ, FM SMm σ τ → RMd τ T (mTp Γ T false S n bk r (ins Γ S)) → τ.2.1 92 85 = nI (dn + 1) → Q τ) : wX12_one Q E σ := by
  have hV := hG.1
  have hw := hG.2.2.2.1
  have hN := hT.2.1
  have hv0 := hv
  obtain ⟨v1, v2, v3, v4, v5, v6, v7, v8, v9, v10, v11, v12⟩ := hv
  obtain ⟨r1, r2, r3, r4, r5, r6⟩ := hR
  obtain ⟨p4, p5⟩ := hP.1.2 (S.pc - 1) (by rw [LP_len]; omega)
  have p4 : σ.2.1 146 (S.pc - 1) = nI (ins Γ S).1 := p4
  have p5 : σ.2.1 147 (S.pc - 1) = nI (ins Γ S).2.1 := p5
  have r1 : σ.2.1 92 84 = abI S.pc := r1
  have hsl : S.sk.length = r.length + 1 := by rw [hsk]; rfl
  have k154 : σ.2.1 154 r.length = nI n := by have := r2.2; rw [hsk] at this; exact this.1
  have ec : (nI (S.pc - 1)).toNatClampNeg = S.pc - 1 := nI_clampE (by omega)
  have ev : vp_in (nI (S.pc - 1)) 7000 := by simp (disch := omega) only [nI_lit, nI_add, nI_mulE, nI_clampE, nI_eqE, nI_leE, nI_ltE, vp_nIE, true_and, and_true]; omega
  have e1 : nI (r.length + 1) - (1 : Int32) = nI r.length := by show _ - nI 1 = _; rw [nI_subE (by omega)]; congr 1
  unfold wX12_one
  rw [r1, abI_s (by omega), ec, p4, p5, r2.1, hsl, e1, nI_clampE (show r.length < 2147483648 by omega), k154, hd, nI_1]
  refine ⟨ev, fe ⟨ev, fe ⟨by simp (disch := omega) only [nI_lit, nI_add, nI_mulE, nI_clampE, nI_eqE, nI_leE, nI_ltE, vp_nIE, true_and, and_true]; omega, fe (fe ?_)⟩⟩⟩
  have r184 : σ.2.1 92 84 = nI (S.pc - 1) := by rw [r1, abI_s (by omega)]
  have e184 : (ab_I σ 92 85 (nI (dn + 1))).2.1 92 84 = nI (S.pc - 1) := by rw [gI_s, if_neg (by decide)]; exact r184
  rw [e184]
  generalize hσ1 : ab_I σ 92 85 (nI (dn + 1)) = σ1
  have F1 : FM (fun a i => decide (a = 92 ∧ i = 85)) σ σ1 := by rw [← hσ1]; exact (FM.rf _ σ).I (decide_eq_true (by omega))
  have e85 : σ1.2.1 92 85 = nI (dn + 1) := by rw [← hσ1, gI_s, if_pos rfl]
  clear hσ1 e184
  have F1' : FM SMm σ σ1 := F1.mono (fun a i y => by have y := of_decide_eq_false y; exact decide_eq_false (by omega))
  have s1 : mPc σ1 S.pc := mPc.fm r1 F1 (decide_eq_false (by omega))
  have s2 : mSkk σ1 S.sk := r2.fm F1 (decide_eq_false (by omega)) (fun a i _ => decide_eq_false (by omega))
  have s3 : mVi σ1 T S.vi := r3.fm F1 (fun i => decide_eq_false (by omega))
  have s4 : mPi σ1 S.vs := r4.fm F1 (decide_eq_false (by omega)) (fun a i _ => decide_eq_false (by omega))
  have s5 : mVa σ1 S.va := r5.fm F1 (fun a i _ => decide_eq_false (by omega))
  have s6 : mKp σ1 S.kp := r6.fm F1 (fun a i _ => decide_eq_false (by omega))
  have W1 : MW σ1 Γ := hW.fm hV F1 (fun a i _ => decide_eq_false (by omega))
  have P1 : MPg σ1 Γ := hP.fm F1 (decide_eq_false (by omega)) (fun a i _ _ => decide_eq_false (by omega))
  have M1 : MTt σ1 Γ T := hM.fm F1 (decide_eq_false (by omega)) (fun a i _ _ => decide_eq_false (by omega))
  have ne : ∀ c, c < 100 → (ins Γ S).1 ≠ c → ¬ nI (ins Γ S).1 = nI c := fun c hc hne => by rw [nI_eqE (by omega) (by omega)]; exact hne
  by_cases k13 : (ins Γ S).1 = 13
  · have em : mTp Γ T false S n bk r (ins Γ S) = mTs Γ S (ins Γ S) S.vs := by
      unfold mTp
      rw [if_neg (by omega), if_neg (by omega), if_neg (by omega), if_neg (by omega), if_neg (by omega), if_pos k13]
    rw [em] at k
    refine no (fun q => q (by rw [k13]; rfl)) (m_test P1 (by omega) s1 s4 v4 (v9 k13) hw (fun τ F P V => k τ (F1'.tr (F.mono (fun a i y => by have y := of_decide_eq_false y; exact decide_eq_false (by omega)))) ?_ (by rw [F.1 _ _ (decide_eq_false (by omega))]; exact e85)))
    obtain ⟨⟨a, s, e⟩, _, _⟩ := v9 k13
    have a2 := s2.fm F (decide_eq_false (by omega)) (fun a i _ => decide_eq_false (by omega))
    have a3 := s3.fm F (fun i => decide_eq_false (by omega))
    have a5 := s5.fm F (fun a i _ => decide_eq_false (by omega))
    have a6 := s6.fm F (fun a i _ => decide_eq_false (by omega))
    rw [e] at P V ⊢
    cases a with
    | none => exact ⟨P, a2, a3, V, a5, a6⟩
    | some x => exact ⟨P, a2, a3, V, a5, a6⟩
  refine yes (ne 13 (by omega) k13) ?_
  by_cases k20 : (ins Γ S).1 = 20
  · have em : mTp Γ T false S n bk r (ins Γ S) = mLv Γ T S n bk r := by
      unfold mTp
      rw [if_neg (by omega), if_neg (by omega), if_neg (by omega), if_neg (by omega), if_neg (by omega), if_neg (by omega), if_neg (by omega), if_neg (by omega), if_neg (by omega)]
    rw [em] at k
    have s2' := s2
    rw [hsk] at s2'
    refine no (fun q => q (by rw [k20]; rfl)) (m_backs W1 P1 M1 hG hT v5 hl hb s2' s3 (v12 k20) (fun τ F P K V => k τ (F1'.tr (F.mono (fun a i y => by have y := of_decide_eq_false y; exact decide_eq_false (by omega)))) ?_ (by rw [F.1 _ _ (decide_eq_false (by omega))]; exact e85)))
    have a4 := s4.fm F (decide_eq_false (by omega)) (fun a i _ => decide_eq_false (by omega))
    have a5 := s5.fm F (fun a i _ => decide_eq_false (by omega))
    have a6 := s6.fm F (fun a i _ => decide_eq_false (by omega))
    have eL : (mLv Γ T S n bk r).vs = S.vs ∧ (mLv Γ T S n bk r).va = S.va ∧ (mLv Γ T S n bk r).kp = S.kp := by
      cases r with
      | nil =>
        have e : mLv Γ T S n bk [] = if S.vi n < svs Γ (hdS Γ (T.pr n)) then mEn Γ T S n 0 [] else (bk, [], S.vi, S.vs, S.kp, S.va) := rfl
        rw [e]
        by_cases q : S.vi n < svs Γ (hdS Γ (T.pr n))
        · rw [if_pos q]; exact ⟨rfl, rfl, rfl⟩
        · rw [if_neg q]; exact ⟨rfl, rfl, rfl⟩
      | cons z r => exact ⟨rfl, rfl, rfl⟩
    exact ⟨P, K, V, by rw [eL.1]; exact a4, by rw [eL.2.1]; exact a5, by rw [eL.2.2]; exact a6⟩
  refine yes (ne 20 (by omega) k20) ?_
  have fin : ∀ y0, y0 = abI ((if (ins Γ S).1 = 14 then (ins Γ S).2.1 else S.pc) + 1) → wX12_one_j81 Q E (nI (ins Γ S).1) (nI (ins Γ S).2.1) (nI n) y0 σ1 := fun y0 hy => m_81 W1 P1 M1 hG hT ⟨s1, s2, s3, s4, s5, s6⟩ hsk hl hv0 k13 k20 hy (fun τ F R => k τ (F1'.tr (F.mono (fun a i y => by have y := of_decide_eq_false y; exact decide_eq_false (by omega)))) R (by rw [F.1 _ _ (decide_eq_false (by omega))]; exact e85))
  by_cases k14 : (ins Γ S).1 = 14
  · refine no (fun q => q (by rw [k14]; rfl)) (fin _ ?_)
    rw [if_pos k14, abI_s (by omega)]; congr 1
  · refine yes (ne 14 (by omega) k14) ?_
    rw [nI_1]
    refine fin _ ?_
    rw [if_neg k14, abI_s (by omega)]; congr 1; omega
end MM
