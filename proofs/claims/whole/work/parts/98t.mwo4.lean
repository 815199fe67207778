/-! ===== evaluation, the model's: rules worked out, ready or not ===== -/
theorem mC_f {Γ : GRT} {p x : Nat} (hlm : Γ.2.2.2.1 ≤ 2400) (hV : GRV Γ) (hp : p < Γ.2.1) (hd : (Γ.2.2.1 p).2.2.2.2.1 x = true) : x < 32 ∧ ((Γ.2.2.1 p).2.2.2.2.2 x).1 + (mC Γ p x).length ≤ 2400 ∧ (∀ z, z ∈ mC Γ p x → z.1 < 60 ∧ z.2 < 1000000) ∧ ∀ z, z ∈ mC Γ p x → z.1 = 50 → z.2 < 32 ∧ z.2 / 8 ≤ rt Γ p ∧ nmd Γ p x z.2 = true := by
  have hpv := (hV.2.2.2 p hp).2.1
  have h3 := hpv.1
  obtain ⟨q1, q2, q3, q4, q5⟩ := hpv.2.2 x hd
  have hbd := CR_bd q5 (fun s hs => by have h1 : s / 8 ≤ (Γ.2.2.1 p).2.1 := hs.1; omega)
  refine ⟨q1, by unfold mC; omega, hbd.1, fun z hz h50 => ?_⟩
  have hn : nmA 50 (mC Γ p x) z.2 = true := by
    unfold nmA
    rw [List.any_eq_true]
    exact ⟨z, hz, decide_eq_true ⟨h50, rfl⟩⟩
  have hok := (CR_nm q5).2 z.2 (by rw [← (CR_nm q5).1]; exact hn)
  have h1 : z.2 / 8 ≤ (Γ.2.2.1 p).2.1 := hok.1
  exact ⟨by omega, h1, by rw [← nm50 hV hp hd]; exact hn⟩
section MW
variable {σ : ab_S} {E : String → ab_S → Prop} {n x : Nat} {Γ : GRT} {T : TST} {kn : Nat → Nat → Bool} {vl : Nat → Nat → VL8}
theorem MTt.fm {S : Nat → Nat → Bool} {τ : ab_S} (h : MTt σ Γ T) (f : FM S σ τ) (s0 : S 92 53 = false) (s1 : ∀ a i, 128 ≤ a → a ≤ 132 → S a i = false) : MTt τ Γ T := by
  refine ⟨by rw [f.1 _ _ s0]; exact h.1, fun k hk => ?_⟩
  obtain ⟨b1, b2, b3, b4, b5⟩ := h.2 k hk
  exact ⟨by rw [f.1 _ _ (s1 _ _ (by omega) (by omega))]; exact b1, by rw [f.1 _ _ (s1 _ _ (by omega) (by omega))]; exact b2, by rw [f.1 _ _ (s1 _ _ (by omega) (by omega))]; exact b3, by rw [f.1 _ _ (s1 _ _ (by omega) (by omega))]; exact b4, fun o o1 o2 => by rw [f.1 _ _ (s1 _ _ (by omega) (by omega))]; exact b5 o o1 o2⟩
theorem MEv.fm {S : Nat → Nat → Bool} {τ : ab_S} (h : MEv σ kn vl) (f : FM S σ τ) (s1 : ∀ a i, 139 ≤ a → a ≤ 141 → S a i = false) : MEv τ kn vl := fun k a hk ha => by
  obtain ⟨b1, b2, b3⟩ := h k a hk ha
  exact ⟨by rw [f.1 _ _ (s1 _ _ (by omega) (by omega))]; exact b1, by rw [f.1 _ _ (s1 _ _ (by omega) (by omega))]; exact b2, by rw [f.1 _ _ (s1 _ _ (by omega) (by omega))]; exact b3⟩
theorem m_wOut (hX : MXg σ Γ) (hM : MTt σ Γ T) (hV : GRV Γ) (hT : TOK Γ T) (hn : n < T.N) (hE : MEv σ kn vl) (hd : (Γ.2.2.1 (T.pr n)).2.2.2.2.1 x = true) (hk : ∀ y, nmd Γ (T.pr n) x y = true → kn (T.ch n (y / 8)) (y % 8) = true) {Q : ab_S → Prop} (h : ∀ τ, FM S144 σ τ → WSt τ [RV Γ T vl n x] → Q τ) : wX12_workOut (nI n) (nI x) Q E σ := by
  have hN := hT.2.1
  have hp := (hT.2.2 n hn).1.1
  have h30 := hV.2.1
  obtain ⟨f1, f2, f3, f4⟩ := mC_f hX.2.2 hV hp hd
  obtain ⟨a1, a2, a3⟩ := ((hX.1.2.2.2 _ hp).2.2.2.2 _ f1).1 hd
  obtain ⟨q1, q2, q3, q4, q5⟩ := (hV.2.2.2 _ hp).2.1.2.2 x hd
  obtain ⟨_, _, hW⟩ := CR_W (g := fun y => vl (T.ch n (y / 8)) (y % 8)) (l := some (T.li n)) q5
  have hrun := (RV_run (kp := vl) hV hp hd).1 []
  have e32 : (32 : Int32) * nI (T.pr n) + nI x = nI (32 * T.pr n + x) := by show nI 32 * nI _ + _ = _; rw [nI_mulE, nI_add]
  unfold wX12_workOut
  rw [nI_clampE (show n < 2147483648 by omega), (hM.2 n hn).1, e32]
  refine ⟨by simp (disch := omega) only [nI_lit, nI_add, nI_mulE, nI_clampE, nI_eqE, nI_leE, nI_ltE, vp_nIE, true_and, and_true]; omega, fe ⟨by simp (disch := omega) only [nI_lit, nI_add, nI_mulE, nI_clampE, nI_eqE, nI_leE, nI_ltE, vp_nIE, true_and, and_true]; omega, ?_⟩⟩
  rw [nI_clampE (show 32 * T.pr n + x < 2147483648 by omega), a1]
  refine fe ⟨(mC Γ (T.pr n) x).length + 1, ?_⟩
  have a2 : σ.2.1 106 (32 * T.pr n + x) = nI (((Γ.2.2.1 (T.pr n)).2.2.2.2.2 x).1 + (mC Γ (T.pr n) x).length) := a2
  have a3 : MCode σ ((Γ.2.2.1 (T.pr n)).2.2.2.2.2 x).1 (mC Γ (T.pr n) x) := a3
  have hW : WOk (fun y => vl (T.ch n (y / 8)) (y % 8)) (some (T.li n)) 34 (mC Γ (T.pr n) x) [] := (hW []).mo (by simp)
  generalize ((Γ.2.2.1 (T.pr n)).2.2.2.2.2 x).1 = L at *
  generalize mC Γ (T.pr n) x = m at *
  suffices H : ∀ r k s τ, m.drop k = r → k ≤ m.length → WOk (fun y => vl (T.ch n (y / 8)) (y % 8)) (some (T.li n)) 34 r s → FM S144 σ τ → WSt τ s → wo (fun y => vl (T.ch n (y / 8)) (y % 8)) (some (T.li n)) r s = [RV Γ T vl n x] → wX12_workOut_l23 (nI n) (nI x) Q E (r.length + 1) (nI (32 * T.pr n + x)) (nI s.length) (nI (L + k)) τ from H m 0 [] σ rfl (Nat.zero_le _) hW (FM.rf _ _) trivial hrun
  intro r
  induction r with
  | nil =>
    intro k s τ hr hk2 _ hF hS hw
    have e : k = m.length := by
      have := congrArg List.length hr
      rw [List.length_drop, List.length_nil] at this
      omega
    have hw : s = [RV Γ T vl n x] := hw
    show wX12_workOut_l23_b _ _ _ _ _ _ _ _ _
    unfold wX12_workOut_l23_b
    rw [nI_clampE (show 32 * T.pr n + x < 2147483648 by omega), hF.1 106 _ (decide_eq_false (by omega)), a2]
    rw [hw] at hS
    exact ⟨by simp (disch := omega) only [nI_lit, nI_add, nI_mulE, nI_clampE, nI_eqE, nI_leE, nI_ltE, vp_nIE, true_and, and_true]; omega, yes (by simp (disch := omega) only [nI_lit, nI_add, nI_mulE, nI_clampE, nI_eqE, nI_leE, nI_ltE, vp_nIE, true_and, and_true]; omega) (h τ hF hS)⟩
  | cons z r ih =>
    intro k s τ hr hk2 hW hF hS hw
    have hlen : m.length - k = r.length + 1 := by
      have := congrArg List.length hr
      rw [List.length_drop, List.length_cons] at this
      exact this
    have hk1 : k < m.length := by omega
    have hz : m.getD k (0, 0) = z := by
      rw [List.getD_eq_getElem?_getD]
      have : m[k]? = some z := by
        have := List.getElem?_drop (xs := m) (i := k) (j := 0)
        rw [hr, Nat.add_zero] at this
        exact this.symm
      rw [this]; rfl
    have hmem := gd_mem hk1
    rw [hz] at hmem
    obtain ⟨c1, c2⟩ := a3 k hk1
    rw [hz] at c1 c2
    rw [← hF.1 107 _ (decide_eq_false (by omega))] at c1
    rw [← hF.1 108 _ (decide_eq_false (by omega))] at c2
    have hr' : m.drop (k + 1) = r := by
      have := List.drop_drop (i := 1) (j := k) (l := m)
      rw [hr] at this
      exact this.symm
    show wX12_workOut_l23_b (nI n) (nI x) Q E (wX12_workOut_l23 (nI n) (nI x) Q E (r.length + 1)) (nI (32 * T.pr n + x)) (nI s.length) (nI (L + k)) τ
    refine m_wo1 (hM.fm hF (decide_eq_false (by omega)) (fun a i b1 b2 => decide_eq_false (by omega))) hV hT hn (hE.fm hF (fun a i b1 b2 => decide_eq_false (by omega))) hW.1 hW.2.1 hS c1 c2 (f3 z hmem) (by omega) (by omega) ?_ (fun h50 => ?_) (fun τ' F' S' => ?_)
    · rw [hF.1 106 _ (decide_eq_false (by omega)), a2]
      simp (disch := omega) only [nI_lit, nI_add, nI_mulE, nI_clampE, nI_eqE, nI_leE, nI_ltE, vp_nIE, true_and, and_true]; omega
    · obtain ⟨g1, g2, g3⟩ := f4 z hmem h50
      exact ⟨g1, g2, hk _ g3⟩
    · exact ih (k + 1) _ τ' hr' (by omega) hW.2.2 (hF.tr F') S' hw
theorem m_rdy (hX : MXg σ Γ) (hM : MTt σ Γ T) (hV : GRV Γ) (hT : TOK Γ T) (hn : n < T.N) (hE : MEv σ kn vl) (hd : (Γ.2.2.1 (T.pr n)).2.2.2.2.1 x = true) {Q : Int32 → ab_S → Prop} (h1 : (∀ y, nmd Γ (T.pr n) x y = true → kn (T.ch n (y / 8)) (y % 8) = true) → Q 1 σ) (h0 : ¬ (∀ y, nmd Γ (T.pr n) x y = true → kn (T.ch n (y / 8)) (y % 8) = true) → Q 0 σ) : wX12_isReady (nI n) (nI x) Q E σ := by
  have hN := hT.2.1
  have hp := (hT.2.2 n hn).1.1
  have h30 := hV.2.1
  obtain ⟨f1, f2, f3, f4⟩ := mC_f hX.2.2 hV hp hd
  obtain ⟨a1, a2, a3⟩ := ((hX.1.2.2.2 _ hp).2.2.2.2 _ f1).1 hd
  have e32 : (32 : Int32) * nI (T.pr n) + nI x = nI (32 * T.pr n + x) := by show nI 32 * nI _ + _ = _; rw [nI_mulE, nI_add]
  have ec : (nI (32 * T.pr n + x)).toNatClampNeg = 32 * T.pr n + x := nI_clampE (by omega)
  have ev : vp_in (nI (32 * T.pr n + x)) 992 := by simp (disch := omega) only [nI_lit, nI_add, nI_mulE, nI_clampE, nI_eqE, nI_leE, nI_ltE, vp_nIE, true_and, and_true]; omega
  have ch : ∀ y, y / 8 ≤ rt Γ (T.pr n) → T.ch n (y / 8) < T.N := fun y hy => by
    obtain ⟨t1, t2⟩ := hT.2.2 n hn
    by_cases h0 : y / 8 = 0
    · rw [h0, t1.2.2.2.2.2.1]; exact hn
    · exact (t1.2.2.2.2.2.2.1 (y / 8) (by omega) (by omega)).2.1
  unfold wX12_isReady
  rw [nI_clampE (show n < 2147483648 by omega), (hM.2 n hn).1, e32]
  refine ⟨by simp (disch := omega) only [nI_lit, nI_add, nI_mulE, nI_clampE, nI_eqE, nI_leE, nI_ltE, vp_nIE, true_and, and_true]; omega, fe ⟨ev, ?_⟩⟩
  rw [ec, a1]
  refine fe ⟨(mC Γ (T.pr n) x).length + 1, ?_⟩
  have hnm : ∀ y, nmA 50 (mC Γ (T.pr n) x) y = nmd Γ (T.pr n) x y := nm50 hV hp hd
  have a2 : σ.2.1 106 (32 * T.pr n + x) = nI (((Γ.2.2.1 (T.pr n)).2.2.2.2.2 x).1 + (mC Γ (T.pr n) x).length) := a2
  have a3 : MCode σ ((Γ.2.2.1 (T.pr n)).2.2.2.2.2 x).1 (mC Γ (T.pr n) x) := a3
  generalize ((Γ.2.2.1 (T.pr n)).2.2.2.2.2 x).1 = L at *
  generalize mC Γ (T.pr n) x = m at *
  suffices H : ∀ f j (b : Bool), m.length - j = f → j ≤ m.length → (b = true ↔ ∀ y, nmA 50 (m.take j) y = true → kn (T.ch n (y / 8)) (y % 8) = true) → wX12_isReady_l23 (nI n) (nI x) Q E (f + 1) (nI (32 * T.pr n + x)) (if b then 1 else 0) (nI (L + j)) σ from H _ 0 true rfl (Nat.zero_le _) ⟨fun _ y hy => by simp [nmA] at hy, fun _ => rfl⟩
  intro f
  induction f with
  | zero =>
    intro j b hf2 hj hb
    have e : j = m.length := by clear hb; omega
    show wX12_isReady_l23_b _ _ _ _ _ _ _ _ _
    unfold wX12_isReady_l23_b
    rw [ec, a2]
    refine ⟨ev, yes (by clear hb; simp (disch := omega) only [nI_lit, nI_add, nI_mulE, nI_clampE, nI_eqE, nI_leE, nI_ltE, vp_nIE, true_and, and_true]; omega) ⟨by cases b <;> simp, ?_⟩⟩
    rw [e, List.take_length] at hb
    cases b
    · exact h0 (fun z => absurd (hb.mpr (fun y hy => z y (by rw [← hnm]; exact hy))) Bool.false_ne_true)
    · exact h1 (fun y hy => hb.mp rfl y (by rw [hnm]; exact hy))
  | succ f ih =>
    intro j b hf2 hj hb
    have hj2 : j < m.length := by clear hb; omega
    obtain ⟨m1, m2⟩ := a3 j hj2
    have hbd := f3 _ (gd_mem hj2)
    have evc : vp_in (nI (L + j)) 2500 := by clear hb; simp (disch := omega) only [nI_lit, nI_add, nI_mulE, nI_clampE, nI_eqE, nI_leE, nI_ltE, vp_nIE, true_and, and_true]; omega
    have hno : ¬ nI (L + m.length) ≤ nI (L + j) := by clear hb; simp (disch := omega) only [nI_lit, nI_add, nI_mulE, nI_clampE, nI_eqE, nI_leE, nI_ltE, vp_nIE, true_and, and_true]; omega
    have ecj : (nI (L + j)).toNatClampNeg = L + j := nI_clampE (by clear hb; omega)
    show wX12_isReady_l23_b (nI n) (nI x) Q E (wX12_isReady_l23 (nI n) (nI x) Q E (f + 1)) (nI (32 * T.pr n + x)) _ (nI (L + j)) σ
    unfold wX12_isReady_l23_b
    rw [ec, ecj, a2, m1, m2]
    refine ⟨ev, no hno ?_⟩
    have hfj : m.length - (j + 1) = f := by clear hb; omega
    have go : ∀ c : Bool, (c = true ↔ ∀ y, nmA 50 (m.take (j + 1)) y = true → kn (T.ch n (y / 8)) (y % 8) = true) → wX12_isReady_j76 (nI n) (nI x) Q E (wX12_isReady_l23 (nI n) (nI x) Q E (f + 1)) (nI (32 * T.pr n + x)) (nI (L + j)) (if c then 1 else 0) σ := by
      intro c hc
      unfold wX12_isReady_j76
      rw [nI_1]
      exact fe (ih (j + 1) c hfj hj2 hc)
    cases b
    · refine yes rfl ?_
      unfold wX12_isReady_j75
      refine go false ⟨fun z => absurd z Bool.false_ne_true, fun z => absurd (hb.mpr (fun y hy => z y ?_)) Bool.false_ne_true⟩
      rw [nmA_take hj2, hy]; rfl
    · have hb := hb.mp rfl
      refine no (by decide) ⟨evc, ?_⟩
      by_cases hk : (m.getD j (0, 0)).1 = 50
      · obtain ⟨g1, g2, g3⟩ := f4 _ (gd_mem hj2) hk
        have hc := ch _ g2
        refine no (fun z => z (by rw [hk]; rfl)) ⟨evc, ?_⟩
        refine m_vAt hM hV hT hn g1 g2 ?_
        rw [nI_clampE (show 8 * T.ch n ((m.getD j (0, 0)).2 / 8) + (m.getD j (0, 0)).2 % 8 < 2147483648 by clear hb; omega), (hE _ _ (by clear hb; omega) (by clear hb; omega)).1]
        refine ⟨by clear hb; simp (disch := omega) only [nI_lit, nI_add, nI_mulE, nI_clampE, nI_eqE, nI_leE, nI_ltE, vp_nIE, true_and, and_true]; omega, ?_⟩
        cases ht : kn (T.ch n ((m.getD j (0, 0)).2 / 8)) ((m.getD j (0, 0)).2 % 8)
        · refine yes rfl ?_
          unfold wX12_isReady_j75
          refine go false ⟨fun z => absurd z Bool.false_ne_true, fun z => ?_⟩
          have := z (m.getD j (0, 0)).2 (by rw [nmA_take hj2, decide_eq_true ⟨hk, rfl⟩, Bool.or_true])
          rw [ht] at this; exact absurd this Bool.false_ne_true
        · refine no (by decide) ?_
          unfold wX12_isReady_j71
          refine go true ⟨fun _ y hy => ?_, fun _ => rfl⟩
          rw [nmA_take hj2, Bool.or_eq_true, decide_eq_true_eq] at hy
          rcases hy with hy | hy
          · exact hb y hy
          · rw [← hy.2]; exact ht
      · refine yes (by show ¬ nI _ = nI 50; rw [nI_eqE (by clear hb; omega) (by clear hb; omega)]; exact hk) ?_
        unfold wX12_isReady_j71
        refine go true ⟨fun _ y hy => ?_, fun _ => rfl⟩
        rw [nmA_take hj2, decide_eq_false (fun w => hk w.1), Bool.or_false] at hy
        exact hb y hy
end MW
