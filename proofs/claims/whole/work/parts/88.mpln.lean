/-! ===== plans, the model's: what may be evaluated, visited ===== -/
/-- a grammar with its levels, as the model's plans read it -/
def MXg (σ : ab_S) (Γ : GRT) : Prop := MGr σ Γ ∧ MLs σ Γ ∧ Γ.2.2.2.1 ≤ 2400
theorem MXg.fm {S : Nat → Nat → Bool} {σ σ' : ab_S} {Γ : GRT} (h : MXg σ Γ) (hV : GRV Γ) (f : FM S σ σ') (s92 : S 92 9 = false ∧ S 92 14 = false ∧ S 92 21 = false) (sA : ∀ a i, 97 ≤ a → a ≤ 112 → S a i = false) : MXg σ' Γ := ⟨h.1.fm hV f s92 (fun a i h1 h2 => sA a i h1 (by omega)), fun s hs => ⟨fun a ha => by rw [f.1 _ _ (sA _ _ (by omega) (by omega))]; exact (h.2.1 s hs).1 a ha, by rw [f.1 _ _ (sA _ _ (by omega) (by omega))]; exact (h.2.1 s hs).2⟩, h.2.2⟩
theorem df_dfn {Γ : GRT} (hV : GRV Γ) {p : Nat} (hp : p < Γ.2.1) {x : Nat} (hx : x < 32) : (Γ.2.2.1 p).2.2.2.2.1 x = dfn Γ.1 (Γ.2.2.1 p) x := by
  obtain ⟨_, h2, h3⟩ := hV.2.2.2 p hp
  rw [Bool.eq_iff_iff]
  constructor
  · intro h; exact (h2.2.2 x h).2.1
  · intro h
    unfold whl at h3
    rw [List.all_eq_true] at h3
    have := h3 x (List.mem_range.mpr hx)
    rw [h] at this
    exact this
section ML
variable {σ : ab_S} {p B v : Nat} {Γ : GRT} {T : PLT} {E : String → ab_S → Prop}
theorem MXg.mp (hX : MXg σ Γ) (hV : GRV Γ) (hp : p < Γ.2.1) : MP σ p (kOf Γ.1 (Γ.2.2.1 p)) := by
  have h30 := hV.2.1
  have hpv := (hV.2.2.2 p hp).2.1
  have hc := hX.1.2.2.2 p hp
  refine ⟨by omega, hpv.1, hc.2.1, fun o ho => ⟨hc.2.2.1 o (by have : o ≤ (Γ.2.2.1 p).2.1 := ho; omega), hpv.2.1 o ho⟩, hc.2.2.2.1, fun x hx => ?_⟩
  show _ ↔ (Γ.2.2.1 p).2.2.2.2.1 x = true
  cases hd : (Γ.2.2.1 p).2.2.2.2.1 x
  · rw [(hc.2.2.2.2 x hx).2 hd]
    exact ⟨fun z => absurd z (by decide), fun z => absurd z Bool.false_ne_true⟩
  · rw [((hc.2.2.2.2 x hx).1 hd).1]
    have := (hpv.2.2 x hd).2.2.1
    have := hX.2.2
    exact ⟨fun _ => rfl, fun _ => by show nI 0 ≤ nI _; simp (disch := omega) only [nI_lit, nI_add, nI_mulE, nI_clampE, nI_eqE, nI_leE, nI_ltE, vp_nIE, true_and, and_true]; omega⟩
theorem m_vOf (hX : MXg σ Γ) (hV : GRV Γ) (hL : LVF Γ) {s a : Nat} (hs : s < Γ.1.1) (ha : a < Γ.1.2.2.1 s) {Q : Int32 → ab_S → Prop} (h : Q (nI (vOf Γ s a)) σ) : wX12_visitOf (nI s) (nI a) Q E σ := by
  have h12 := hV.1.1
  have h8 := (hV.1.2.2 s hs).2.1
  have hv := hL.vof s hs a ha
  have hpos := hL.pos s hs a ha
  have e8 : (8 : Int32) * nI s + nI a = nI (8 * s + a) := by show nI 8 * nI s + _ = _; rw [nI_mulE, nI_add]
  unfold wX12_visitOf
  rw [e8, nI_clampE (show s < 2147483648 by omega), nI_clampE (show 8 * s + a < 2147483648 by omega), (hX.2.1 s hs).2, (hX.2.1 s hs).1 a (by omega)]
  refine ⟨by simp (disch := omega) only [nI_lit, nI_add, nI_mulE, nI_clampE, nI_eqE, nI_leE, nI_ltE, vp_nIE, true_and, and_true]; omega, by simp (disch := omega) only [nI_lit, nI_add, nI_mulE, nI_clampE, nI_eqE, nI_leE, nI_ltE, vp_nIE, true_and, and_true]; omega, ?_⟩
  rw [show nI (slv Γ s a) - 1 = nI (slv Γ s a - 1) by show nI _ - nI 1 = _; exact nI_subE (by omega), i_div2 _ (by omega)]
  have hle : (slv Γ s a - 1) / 2 ≤ svs Γ s := by have := hv.1; unfold vOf at this; omega
  rw [nI_subE hle]
  have e : svs Γ s - (slv Γ s a - 1) / 2 = vOf Γ s a := by unfold vOf; omega
  rw [e]; exact h
/-- what is there -/
def MTh (σ : ab_S) (th : Nat → Bool) : Prop := ∀ x, x < 32 → σ.2.1 120 x = (if th x then 1 else 0)
theorem m_cEL {x : Nat} (hp : p < 30) (hx : x < 32) {fm : Nat} {m : List (Nat × Nat)} (hf : fm + m.length ≤ 2400) (hs : ∀ z, z ∈ m → z.1 = 50 → z.2 < 32) (hk60 : ∀ z, z ∈ m → z.1 < 60 ∧ z.2 < 1000000) {th : Nat → Bool} (hT : MTh σ th) (h6 : σ.2.1 106 (32 * p + x) = nI (fm + m.length)) (hM : MCode σ fm m) {a1 a2 : Int32} {Q : Int32 → ab_S → Prop} (b0 : Bool) (h1 : (b0 = true ∧ ∀ y, nmA 50 m y = true → th y = true) → Q 1 σ) (h0 : ¬ (b0 = true ∧ ∀ y, nmA 50 m y = true → th y = true) → Q 0 σ) : ∀ f j (b : Bool), m.length - j = f → j ≤ m.length → (b = true ↔ b0 = true ∧ ∀ y, nmA 50 (m.take j) y = true → th y = true) → wX12_canEvaluate_l49 (nI p) a1 a2 Q E (f + 1) (nI (32 * p + x)) (if b then 1 else 0) (nI (fm + j)) σ := by
  have ec : (nI (32 * p + x)).toNatClampNeg = 32 * p + x := nI_clampE (by omega)
  have ev : vp_in (nI (32 * p + x)) 992 := by simp (disch := omega) only [nI_lit, nI_add, nI_mulE, nI_clampE, nI_eqE, nI_leE, nI_ltE, vp_nIE, true_and, and_true]; omega
  intro f
  induction f with
  | zero =>
    intro j b hf2 hj hb
    have e : j = m.length := by omega
    show wX12_canEvaluate_l49_b _ _ _ _ _ _ _ _ _ _
    unfold wX12_canEvaluate_l49_b
    rw [ec, h6]
    refine no (nI_pos (by omega)) ⟨ev, yes (by simp (disch := omega) only [nI_lit, nI_add, nI_mulE, nI_clampE, nI_eqE, nI_leE, nI_ltE, vp_nIE, true_and, and_true]; omega) ⟨by cases b <;> simp, ?_⟩⟩
    rw [e, List.take_length] at hb
    cases b
    · exact h0 (fun z => absurd (hb.mpr z) Bool.false_ne_true)
    · exact h1 (hb.mp rfl)
  | succ f ih =>
    intro j b hf2 hj hb
    have hj2 : j < m.length := by omega
    obtain ⟨m1, m2⟩ := hM j hj2
    have hbd := hk60 _ (gd_mem hj2)
    show wX12_canEvaluate_l49_b (nI p) a1 a2 Q E (wX12_canEvaluate_l49 (nI p) a1 a2 Q E (f + 1)) (nI (32 * p + x)) _ (nI (fm + j)) σ
    unfold wX12_canEvaluate_l49_b
    rw [ec, nI_clampE (show fm + j < 2147483648 by omega), h6, m1, m2]
    refine no (nI_pos (by omega)) ⟨ev, no (by simp (disch := omega) only [nI_lit, nI_add, nI_mulE, nI_clampE, nI_eqE, nI_leE, nI_ltE, vp_nIE, true_and, and_true]; omega) ?_⟩
    have go : ∀ c : Bool, (c = true ↔ b0 = true ∧ ∀ y, nmA 50 (m.take (j + 1)) y = true → th y = true) → wX12_canEvaluate_j103 (nI p) a1 a2 Q E (wX12_canEvaluate_l49 (nI p) a1 a2 Q E (f + 1)) (nI (32 * p + x)) (nI (fm + j)) (if c then 1 else 0) σ := by
      intro c hc
      unfold wX12_canEvaluate_j103
      rw [nI_1]
      exact fe (ih (j + 1) c (by omega) (by omega) hc)
    have evc : vp_in (nI (fm + j)) 2500 := by simp (disch := omega) only [nI_lit, nI_add, nI_mulE, nI_clampE, nI_eqE, nI_leE, nI_ltE, vp_nIE, true_and, and_true]; omega
    cases b
    · refine yes rfl ?_
      unfold wX12_canEvaluate_j102
      refine go false ⟨fun z => absurd z Bool.false_ne_true, fun z => absurd (hb.mpr ⟨z.1, fun y hy => z.2 y ?_⟩) Bool.false_ne_true⟩
      rw [nmA_take hj2, hy]; rfl
    · have hb := hb.mp rfl
      refine no (by decide) ⟨evc, ?_⟩
      by_cases hk : (m.getD j (0, 0)).1 = 50
      · have hs32 := hs _ (gd_mem hj2) hk
        refine no (fun z => z (by rw [hk]; rfl)) ⟨evc, ?_⟩
        rw [nI_clampE (show (m.getD j (0, 0)).2 < 2147483648 by omega), hT _ hs32]
        refine ⟨by simp (disch := omega) only [nI_lit, nI_add, nI_mulE, nI_clampE, nI_eqE, nI_leE, nI_ltE, vp_nIE, true_and, and_true]; omega, ?_⟩
        cases ht : th (m.getD j (0, 0)).2
        · refine yes rfl ?_
          unfold wX12_canEvaluate_j102
          refine go false ⟨fun z => absurd z Bool.false_ne_true, fun z => ?_⟩
          have := z.2 (m.getD j (0, 0)).2 (by rw [nmA_take hj2, decide_eq_true ⟨hk, rfl⟩, Bool.or_true])
          rw [ht] at this; exact absurd this Bool.false_ne_true
        · refine no (by decide) ?_
          unfold wX12_canEvaluate_j98
          refine go true ⟨fun _ => ⟨hb.1, fun y hy => ?_⟩, fun _ => rfl⟩
          rw [nmA_take hj2, Bool.or_eq_true, decide_eq_true_eq] at hy
          rcases hy with hy | hy
          · exact hb.2 y hy
          · rw [← hy.2]; exact ht
      · refine yes (by show ¬ nI _ = nI 50; rw [nI_eqE (by omega) (by omega)]; exact hk) ?_
        unfold wX12_canEvaluate_j98
        refine go true ⟨fun _ => ⟨hb.1, fun y hy => ?_⟩, fun _ => rfl⟩
        rw [nmA_take hj2, decide_eq_false (fun w => hk w.1), Bool.or_false] at hy
        exact hb.2 y hy
theorem m_cE (hX : MXg σ Γ) (hV : GRV Γ) (hp : p < Γ.2.1) {k a : Nat} (hk : k ≤ (Γ.2.2.1 p).2.1) (ha : a < Γ.1.2.2.1 ((Γ.2.2.1 p).2.2.1 k)) {th ev : Nat → Bool} (hT : MTh σ th) (hE : σ.2.1 116 (32 * p + (8 * k + a)) = 0 ↔ ev (8 * k + a) = false) {Q : Int32 → ab_S → Prop} (h1 : rdy Γ p (8 * k + a) th = true ∧ ev (8 * k + a) = false → Q 1 σ) (h0 : ¬ (rdy Γ p (8 * k + a) th = true ∧ ev (8 * k + a) = false) → Q 0 σ) : wX12_canEvaluate (nI p) (nI k) (nI a) Q E σ := by
  have h30 := hV.2.1
  have hpv := (hV.2.2.2 p hp).2.1
  have h3 := hpv.1
  have c8 := (hV.1.2.2 _ (hpv.2.1 k hk)).2.1
  have hc := hX.1.2.2.2 p hp
  have hx : 8 * k + a < 32 := by omega
  have e32 : (32 : Int32) * nI p + 8 * nI k + nI a = nI (32 * p + (8 * k + a)) := by
    show nI 32 * nI p + nI 8 * nI k + _ = _
    rw [nI_mulE, nI_mulE, nI_add, nI_add]; congr 1; omega
  have ec : (nI (32 * p + (8 * k + a))).toNatClampNeg = 32 * p + (8 * k + a) := nI_clampE (by omega)
  have ev' : vp_in (nI (32 * p + (8 * k + a))) 992 := by simp (disch := omega) only [nI_lit, nI_add, nI_mulE, nI_clampE, nI_eqE, nI_leE, nI_ltE, vp_nIE, true_and, and_true]; omega
  unfold wX12_canEvaluate
  rw [e32]
  refine fe ?_
  refine m_isDef (K := kOf Γ.1 (Γ.2.2.1 p)) hX.1.1 hV.1 (hX.mp hV hp) hk ha ?_
  have ed : (Γ.1.2.2.2.1 ((Γ.2.2.1 p).2.2.1 k) a == decide (0 < k)) = (Γ.2.2.1 p).2.2.2.2.1 (8 * k + a) := by
    rw [df_dfn hV hp hx]
    unfold dfn
    rw [show (8 * k + a) / 8 = k by omega, show (8 * k + a) % 8 = a by omega, decide_eq_true hk, decide_eq_true ha, Bool.true_and, Bool.true_and]
  have eu : (if ((kOf Γ.1 (Γ.2.2.1 p)).1.2.2.2.1 ((kOf Γ.1 (Γ.2.2.1 p)).2.2.1 k) a == decide (0 < k)) then (1 : Int32) else 0) = if (Γ.2.2.1 p).2.2.2.2.1 (8 * k + a) then 1 else 0 := by rw [← ed]; rfl
  rw [eu]
  have body : ∀ b0 : Bool, (b0 = true → (Γ.2.2.1 p).2.2.2.2.1 (8 * k + a) = true ∧ ev (8 * k + a) = false) → ((Γ.2.2.1 p).2.2.2.2.1 (8 * k + a) = true → ev (8 * k + a) = false → b0 = true) → wX12_canEvaluate_j38 (nI p) (nI k) (nI a) Q E (nI (32 * p + (8 * k + a))) (if b0 then 1 else 0) σ := by
    intro b0 hb1 hb2
    unfold wX12_canEvaluate_j38
    rw [ec]
    refine ⟨ev', ?_⟩
    cases hd : (Γ.2.2.1 p).2.2.2.2.1 (8 * k + a)
    · rw [(hc.2.2.2.2 _ hx).2 hd]
      refine fe ⟨1, ?_⟩
      show wX12_canEvaluate_l49_b _ _ _ _ _ _ _ _ _ _
      unfold wX12_canEvaluate_l49_b
      cases b0
      · refine yes (by decide) ⟨Or.inl rfl, h0 (fun z => ?_)⟩
        have := (rdy_i.mp z.1).1
        rw [hd] at this; exact absurd this Bool.false_ne_true
      · have := (hb1 rfl).1
        rw [hd] at this; exact absurd this Bool.false_ne_true
    · obtain ⟨a1, a2, a3⟩ := (hc.2.2.2.2 _ hx).1 hd
      obtain ⟨q1, q2, q3, q4, q5⟩ := hpv.2.2 _ hd
      have hlm := hX.2.2
      have hnm := CR_nm q5
      have hbd := CR_bd q5 (fun s hs => by have h1 : s / 8 ≤ (Γ.2.2.1 p).2.1 := hs.1; omega)
      have hs50 : ∀ z, z ∈ ((Γ.2.2.1 p).2.2.2.2.2 (8 * k + a)).2.1 → z.1 = 50 → z.2 < 32 := by
        intro z hz h50
        refine nmd_32 hV hp hd z.2 ?_
        rw [← hnm.1]
        unfold nmA
        rw [List.any_eq_true]
        exact ⟨z, hz, decide_eq_true ⟨h50, rfl⟩⟩
      have hrd : rdy Γ p (8 * k + a) th = true ↔ ∀ y, nmA 50 ((Γ.2.2.1 p).2.2.2.2.2 (8 * k + a)).2.1 y = true → th y = true := by
        rw [rdy_i]
        constructor
        · intro z y hy
          rw [hnm.1] at hy
          exact z.2 y (nmd_32 hV hp hd y hy) (by rw [nmd_A, hd, hy]; rfl)
        · intro z
          refine ⟨hd, fun y _ hy => z y ?_⟩
          rw [nmd_A, hd, Bool.true_and] at hy
          rw [hnm.1]; exact hy
      rw [a1]
      refine fe ⟨((Γ.2.2.1 p).2.2.2.2.2 (8 * k + a)).2.1.length + 1, ?_⟩
      exact m_cEL (by omega) hx (by omega) hs50 hbd.1 hT a2 a3 b0 (fun hall => h1 ⟨hrd.mpr hall.2, (hb1 hall.1).2⟩) (fun hall => h0 (fun z => hall ⟨hb2 hd z.2, hrd.mp z.1⟩)) _ 0 b0 rfl (Nat.zero_le _) ⟨fun z => ⟨z, fun y hy => by rw [List.take_zero] at hy; exact absurd hy Bool.false_ne_true⟩, fun z => z.1⟩
  cases hd : (Γ.2.2.1 p).2.2.2.2.1 (8 * k + a)
  · refine yes rfl ?_
    unfold wX12_canEvaluate_j37
    exact body false (fun z => absurd z Bool.false_ne_true) (fun z => by rw [hd] at z; exact absurd z Bool.false_ne_true)
  · refine no (by decide) ?_
    rw [ec]
    refine ⟨ev', ?_⟩
    cases he : ev (8 * k + a)
    · exact no (fun z => z (hE.mpr he)) (body true (fun _ => ⟨hd, he⟩) (fun _ _ => rfl))
    · refine yes (fun z => by rw [hE.mp z] at he; exact absurd he (by decide)) ?_
      unfold wX12_canEvaluate_j37
      exact body false (fun z => absurd z Bool.false_ne_true) (fun _ z => by rw [he] at z; exact absurd z (by decide))
/-- may visit w of occurrence k be made -/
theorem m_cV (hX : MXg σ Γ) (hV : GRV Γ) (hL : LVF Γ) (hp : p < Γ.2.1) {k w : Nat} (hk : k ≤ (Γ.2.2.1 p).2.1) (hw : w < 100) {th : Nat → Bool} (hT : MTh σ th) {Q : Int32 → ab_S → Prop} (h : Q (if cvi Γ p k w th then 1 else 0) σ) : wX12_canVisit (nI p) (nI k) (nI w) Q E σ := by
  have h30 := hV.2.1
  have h12 := hV.1.1
  have hpv := (hV.2.2.2 p hp).2.1
  have h3 := hpv.1
  have hs := hpv.2.1 k hk
  have c8 := (hV.1.2.2 _ hs).2.1
  have hvis := hL.vis _ hs
  have hoc := (hX.1.2.2.2 p hp).2.2.1 k (by omega)
  obtain ⟨s1, s2, s3, s4⟩ := hX.1.1.2 _ hs
  have e4 : (4 : Int32) * nI p + nI k = nI (4 * p + k) := by show nI 4 * nI p + _ = _; rw [nI_mulE, nI_add]
  have ecs : (nI ((Γ.2.2.1 p).2.2.1 k)).toNatClampNeg = (Γ.2.2.1 p).2.2.1 k := nI_clampE (by omega)
  have evs : vp_in (nI ((Γ.2.2.1 p).2.2.1 k)) 13 := by simp (disch := omega) only [nI_lit, nI_add, nI_mulE, nI_clampE, nI_eqE, nI_leE, nI_ltE, vp_nIE, true_and, and_true]; omega
  unfold wX12_canVisit
  rw [e4, nI_clampE (by omega), hoc]
  refine ⟨by simp (disch := omega) only [nI_lit, nI_add, nI_mulE, nI_clampE, nI_eqE, nI_leE, nI_ltE, vp_nIE, true_and, and_true]; omega, fe ⟨evs, ?_⟩⟩
  rw [ecs, (hX.2.1 _ hs).2]
  have loop : ∀ b0 : Bool, (b0 = true ↔ w ≤ svs Γ ((Γ.2.2.1 p).2.2.1 k)) → wX12_canVisit_j28 (nI p) (nI k) (nI w) Q E (nI ((Γ.2.2.1 p).2.2.1 k)) (if b0 then 1 else 0) σ := by
    intro b0 hb0
    unfold wX12_canVisit_j28
    refine ⟨Γ.1.2.2.1 ((Γ.2.2.1 p).2.2.1 k) + 1, ?_⟩
    suffices H : ∀ f a (b : Bool), Γ.1.2.2.1 ((Γ.2.2.1 p).2.2.1 k) - a = f → a ≤ Γ.1.2.2.1 ((Γ.2.2.1 p).2.2.1 k) → (b = true ↔ w ≤ svs Γ ((Γ.2.2.1 p).2.2.1 k) ∧ ∀ c, c < a → inV Γ ((Γ.2.2.1 p).2.2.1 k) w c = true → Γ.1.2.2.2.1 ((Γ.2.2.1 p).2.2.1 k) c = true → th (8 * k + c) = true) → wX12_canVisit_l33 (nI p) (nI k) (nI w) Q E (f + 1) (nI ((Γ.2.2.1 p).2.2.1 k)) (if b then 1 else 0) (nI a) σ from H _ 0 b0 rfl (Nat.zero_le _) ⟨fun z => ⟨hb0.mp z, fun c hc => absurd hc (by omega)⟩, fun z => hb0.mpr z.1⟩
    intro f
    induction f with
    | zero =>
      intro a b hf ha hb
      show wX12_canVisit_l33_b _ _ _ _ _ _ _ _ _ _
      unfold wX12_canVisit_l33_b
      rw [ecs, s2]
      refine ⟨evs, yes (by simp (disch := omega) only [nI_lit, nI_add, nI_mulE, nI_clampE, nI_eqE, nI_leE, nI_ltE, vp_nIE, true_and, and_true]; omega) ⟨by cases b <;> simp, ?_⟩⟩
      have : b = cvi Γ p k w th := by
        rw [Bool.eq_iff_iff, hb, cvi_i]
        constructor
        · rintro ⟨x, y⟩
          exact ⟨x, fun c hc hi hd => y c (by unfold inV at hi; have := (of_decide_eq_true hi).1; omega) hi hd⟩
        · rintro ⟨x, y⟩
          exact ⟨x, fun c hc hi hd => y c (by omega) hi hd⟩
      rw [this]; exact h
    | succ f ih =>
      intro a b hf ha hb
      have hal : a < Γ.1.2.2.1 ((Γ.2.2.1 p).2.2.1 k) := by omega
      show wX12_canVisit_l33_b (nI p) (nI k) (nI w) Q E (wX12_canVisit_l33 (nI p) (nI k) (nI w) Q E (f + 1)) _ _ (nI a) σ
      unfold wX12_canVisit_l33_b
      rw [ecs, s2, s3]
      refine ⟨evs, no (by simp (disch := omega) only [nI_lit, nI_add, nI_mulE, nI_clampE, nI_eqE, nI_leE, nI_ltE, vp_nIE, true_and, and_true]; omega) ?_⟩
      have go : ∀ c : Bool, (c = true ↔ w ≤ svs Γ ((Γ.2.2.1 p).2.2.1 k) ∧ ∀ c, c < a + 1 → inV Γ ((Γ.2.2.1 p).2.2.1 k) w c = true → Γ.1.2.2.2.1 ((Γ.2.2.1 p).2.2.1 k) c = true → th (8 * k + c) = true) → wX12_canVisit_j97 (nI p) (nI k) (nI w) Q E (wX12_canVisit_l33 (nI p) (nI k) (nI w) Q E (f + 1)) (nI ((Γ.2.2.1 p).2.2.1 k)) (nI a) (if c then 1 else 0) σ := by
        intro c hc
        unfold wX12_canVisit_j97
        rw [nI_1]
        exact fe (ih (a + 1) c (by omega) (by omega) hc)
      cases b
      · refine yes rfl ?_
        unfold wX12_canVisit_j96
        exact go false ⟨fun z => absurd z Bool.false_ne_true, fun z => absurd (hb.mpr ⟨z.1, fun c hc => z.2 c (by omega)⟩) Bool.false_ne_true⟩
      · have hb := hb.mp rfl
        refine no (by decide) ⟨evs, ?_⟩
        have hone := b_one (bm (Γ.1.2.2.2.1 ((Γ.2.2.1 p).2.2.1 k)) (Γ.1.2.2.1 ((Γ.2.2.1 p).2.2.1 k))) (a := a) (by omega)
        rw [bm_bt (by omega) (by omega), decide_eq_true hal, Bool.true_and] at hone
        have hz : ((bm (Γ.1.2.2.2.1 ((Γ.2.2.1 p).2.2.1 k)) (Γ.1.2.2.1 ((Γ.2.2.1 p).2.2.1 k)) >>> (nI a &&& 31)) &&& (1 : Int32)) = 0 ↔ Γ.1.2.2.2.1 ((Γ.2.2.1 p).2.2.1 k) a = false := by
          constructor
          · intro z
            cases hd : Γ.1.2.2.2.1 ((Γ.2.2.1 p).2.2.1 k) a
            · rfl
            · rw [hone.mpr hd] at z; exact absurd z (by decide)
          · intro z
            apply b_ext
            intro i hi
            rw [b_and, b_sshr a (by omega) _ hi, b_0, (by decide +kernel : ∀ j, j < 32 → bt 1 j = decide (j = 0)) i hi]
            by_cases e : i = 0
            · subst e; rw [if_pos (by omega), Nat.add_zero, bm_bt (by omega) (by omega), z]; simp
            · rw [decide_eq_false e, Bool.and_false]
        have keep : (Γ.1.2.2.2.1 ((Γ.2.2.1 p).2.2.1 k) a = true → inV Γ ((Γ.2.2.1 p).2.2.1 k) w a = true → th (8 * k + a) = true) → wX12_canVisit_j92 (nI p) (nI k) (nI w) Q E (wX12_canVisit_l33 (nI p) (nI k) (nI w) Q E (f + 1)) (nI ((Γ.2.2.1 p).2.2.1 k)) (nI a) σ := by
          intro hq
          unfold wX12_canVisit_j92
          refine go true ⟨fun _ => ⟨hb.1, fun c hc hi hd => ?_⟩, fun _ => rfl⟩
          by_cases e : c = a
          · rw [e] at hi hd ⊢; exact hq hd hi
          · exact hb.2 c (by omega) hi hd
        cases hd : Γ.1.2.2.2.1 ((Γ.2.2.1 p).2.2.1 k) a
        · exact yes (hz.mpr hd) (keep (fun z => by rw [hd] at z; exact absurd z Bool.false_ne_true))
        · refine no (fun z => by rw [hz.mp z] at hd; exact absurd hd (by decide)) ?_
          refine m_vOf hX hV hL hs hal ?_
          have hvo := hL.vof _ hs a hal
          by_cases hv : vOf Γ ((Γ.2.2.1 p).2.2.1 k) a = w
          · refine no (fun z => z (by rw [hv])) ?_
            have e8 : (8 : Int32) * nI k + nI a = nI (8 * k + a) := by show nI 8 * nI k + _ = _; rw [nI_mulE, nI_add]
            rw [e8, nI_clampE (by omega), hT _ (by omega)]
            refine ⟨by simp (disch := omega) only [nI_lit, nI_add, nI_mulE, nI_clampE, nI_eqE, nI_leE, nI_ltE, vp_nIE, true_and, and_true]; omega, ?_⟩
            cases ht : th (8 * k + a)
            · refine yes rfl ?_
              unfold wX12_canVisit_j96
              refine go false ⟨fun z => absurd z Bool.false_ne_true, fun z => ?_⟩
              have := z.2 a (by omega) (decide_eq_true ⟨hal, hv⟩) hd
              rw [ht] at this; exact absurd this Bool.false_ne_true
            · exact no (by decide) (keep (fun _ _ => ht))
          · refine yes (by simp (disch := omega) only [nI_lit, nI_add, nI_mulE, nI_clampE, nI_eqE, nI_leE, nI_ltE, vp_nIE, true_and, and_true]; exact hv) (keep (fun _ hi => ?_))
            unfold inV at hi
            exact absurd (of_decide_eq_true hi).2 hv
  by_cases hle : w ≤ svs Γ ((Γ.2.2.1 p).2.2.1 k)
  · exact no (by simp (disch := omega) only [nI_lit, nI_add, nI_mulE, nI_clampE, nI_eqE, nI_leE, nI_ltE, vp_nIE, true_and, and_true]; omega) (loop true ⟨fun _ => hle, fun _ => rfl⟩)
  · exact yes (by simp (disch := omega) only [nI_lit, nI_add, nI_mulE, nI_clampE, nI_eqE, nI_leE, nI_ltE, vp_nIE, true_and, and_true]; omega) (loop false ⟨fun z => absurd z Bool.false_ne_true, fun z => absurd z hle⟩)
end ML
