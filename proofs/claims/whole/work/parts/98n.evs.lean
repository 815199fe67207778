/-! ===== evaluation: step by step, to the end ===== -/
section EV
variable {Γ : GRT} {T : TST} {S : MST} {e κ : Nat → Nat} {n bk : Nat} {r : List (Nat × Nat)}
/-- nothing more is done when an entry that is no rule's is passed -/
theorem fv1_e (h : FV1 Γ T S.kp e) {kp' : Nat → Nat → VL8} (hk : kp' = S.kp) (hne : ∀ x, (plP Γ (T.pr n)).ev x = true → (plP Γ (T.pr n)).ea x ≠ e n) : FV1 Γ T kp' (uf e n (e n + 1)) := by
  intro m hm x hx he
  have he2 : (plP Γ (T.pr m)).ea x < e m := by
    by_cases em : m = n
    · rw [em, uf_s] at he
      rw [em] at hx ⊢
      have := hne x hx
      omega
    · rw [uf_o _ _ em] at he; exact he
  obtain ⟨a1, a2, a3⟩ := h m hm x hx he2
  rw [hk]
  exact ⟨a1, fun y hy => (a2 y hy).mo uf_le, a3⟩
theorem fv_set (hG : GOK Γ) (hD : D0 Γ) (hT : TOK Γ T) (h : MIr Γ T true S e κ n bk r) (hF : FV1 Γ T S.kp e) {x : Nat} (ht : TpR Γ T true S e κ n x (rC Γ (T.pr n) x).length) {v : VL8} (hv : v = RV Γ T S.kp n x) : FV1 Γ T (uf2 S.kp (T.ch n (x / 8)) (x % 8) v) (uf e n (e n + 1)) := by
  have hnd : ∀ y, nmd Γ (T.pr n) x y = true → Dn Γ T e (T.ch n (y / 8)) (y % 8) := fun y hy => nm_dn hG hD hT h ht hy
  obtain ⟨hV, hL, hx, _⟩ := hG
  obtain ⟨h1, h2, h3, ⟨h4, h5, _⟩, h6⟩ := h
  obtain ⟨t1, t2, t3, t4, t5, t6, t7, t8, t9, t10⟩ := ht
  have hp : T.pr n < Γ.2.1 := ((hT.2.2 n h4).1).1
  have dfx : ∀ {m y}, m < T.N → (plP Γ (T.pr m)).ev y = true → (Γ.2.2.1 (T.pr m)).2.2.2.2.1 y = true := fun {m y} hm hy => (plI_A hL hV ((hT.2.2 m hm).1).1 (svs Γ (hdS Γ (T.pr m)))).1 y hy
  have hdx := dfx h4 t3
  -- what is done is elsewhere
  have els : ∀ k a, Dn Γ T e k a → uf2 S.kp (T.ch n (x / 8)) (x % 8) v k a = S.kp k a := by
    intro k a ⟨m, y, b1, b2, b3, b4, b5⟩
    have hne : ¬ (k = T.ch n (x / 8) ∧ a = x % 8) := by
      rintro ⟨c1, c2⟩
      obtain ⟨d1, d2⟩ := at_uq hV hT b1 (dfx b1 b2) h4 hdx (by rw [b4]; exact c1) (by rw [b5]; exact c2)
      rw [d1, d2] at b3
      omega
    unfold uf2
    by_cases c1 : k = T.ch n (x / 8)
    · rw [c1, uf_s, uf_o _ _ (fun z => hne ⟨c1, z⟩)]
    · rw [uf_o _ _ c1]
  have here : uf2 S.kp (T.ch n (x / 8)) (x % 8) v (T.ch n (x / 8)) (x % 8) = v := by unfold uf2; rw [uf_s, uf_s]
  intro m hm y hy he
  by_cases c : m = n ∧ y = x
  · rw [c.1, c.2]
    refine ⟨?_, fun z hz => (hnd z hz).mo uf_le, fun X hX => hX n h4 x hdx (fun z hz => ?_)⟩
    · exact here.trans (hv.trans (RV_cg hV hp hdx (fun z hz => els _ _ (hnd z hz))).symm)
    · obtain ⟨m', x', b1, b2, b3, b4, b5⟩ := hnd z hz
      have := (hF m' b1 x' b2 b3).2.2 X hX
      rw [b4, b5] at this
      exact this
  · have he2 : (plP Γ (T.pr m)).ea y < e m := by
      by_cases em : m = n
      · rw [em, uf_s] at he
        rw [em] at hy ⊢
        have hne : (plP Γ (T.pr n)).ea y ≠ e n := by
          intro z
          have a := ((plI_A hL hV hp (svs Γ (hdS Γ (T.pr n)))).2.2.2.1 y hy).2.1
          have a : (gE (plP Γ (T.pr n)) ((plP Γ (T.pr n)).ea y)).1 = enc y := a
          rw [z, t5] at a
          have y32 := ((hV.2.2.2 _ hp).2.1.2.2 y (dfx h4 hy)).1
          have d1 := dx_enc y32
          have d2 := dx_enc t2
          rw [← a, d2] at d1
          exact c ⟨em, d1.symm⟩
        omega
      · rw [uf_o _ _ em] at he; exact he
    obtain ⟨a1, a2, a3⟩ := hF m hm y hy he2
    refine ⟨?_, fun z hz => (a2 z hz).mo uf_le, a3⟩
    rw [els _ _ ⟨m, y, hm, hy, he2, rfl, rfl⟩, a1]
    exact (RV_cg hV ((hT.2.2 m hm).1).1 (dfx hm hy) (fun z hz => els _ _ (a2 z hz))).symm
theorem fv_stp (hG : GOK Γ) (hD : D0 Γ) (hT : TOK Γ T) (h : MIr Γ T true S e κ n bk r) (hF : FV1 Γ T S.kp e) (hF2 : FV2 Γ T S e κ n) : ∃ e' κ', sumN κ T.N + 1 ≤ sumN κ' T.N ∧ ((∃ n' bk' r', MIr Γ T true (mTp Γ T true S n bk r (ins Γ S)) e' κ' n' bk' r' ∧ FV2 Γ T (mTp Γ T true S n bk r (ins Γ S)) e' κ' n') ∨ MIe Γ T (mTp Γ T true S n bk r (ins Γ S)) e' κ') ∧ FV1 Γ T (mTp Γ T true S n bk r (ins Γ S)).kp e' := by
  obtain ⟨_, e', κ', hs, hM, hI⟩ := mi_st4 hG hT h
  obtain ⟨hV, hL, hx, _⟩ := id hG
  have h4 := h.2.2.2.1.1
  have hp : T.pr n < Γ.2.1 := ((hT.2.2 n h4).1).1
  generalize mTp Γ T true S n bk r (ins Γ S) = S' at *
  -- ahead of an entry
  have bnd : S'.vs = [] → (∀ n' bk' r', S'.sk = (n', bk') :: r' → κ' n' = pgS Γ (T.pr n') (e' n') + (S'.vi n' - 1)) → ((∃ n' bk' r', MIr Γ T true S' e' κ' n' bk' r' ∧ FV2 Γ T S' e' κ' n') ∨ MIe Γ T S' e' κ') := by
    intro hvs hb
    rcases hM with ⟨n', bk', r', hM⟩ | hM
    · refine Or.inl ⟨n', bk', r', hM, fv2_at hG hT hM.2.2.2.1.1 hvs (fun y j ht => ?_)⟩
      have hk := hb n' bk' r' hM.1
      obtain ⟨t1, t2, t3, t4, t5, t6, t7, t8, t9, t10⟩ := ht
      have ee : eP Γ (T.pr n') (e' n') = pgB Γ (T.pr n') + (pgS Γ (T.pr n') (e' n') + (S'.vi n' - 1)) := by unfold eP; rw [t6]
      omega
    · exact Or.inr hM
  rcases hI with ⟨x, j, j1, s1, i1, i2, i3, i4, i5⟩ | ⟨x, v, i1, i2, i3, i4, i5⟩ | ⟨o, w, i1, i2, i3, i4, i5⟩ | ⟨i1, i2, i3, i4, i5⟩
  · refine ⟨e', κ', hs, ?_, by rw [i4, i5]; exact hF⟩
    rcases hM with ⟨n', bk', r', hM⟩ | hM
    · have hsk : S'.sk = S.sk := by rw [i4]
      have hh := hM.1
      rw [hsk, h.1] at hh
      injection hh with z1 z2
      injection z1 with z3 z4
      refine Or.inl ⟨n', bk', r', hM, fun y jy ty => ?_⟩
      rw [← z3] at ty ⊢
      obtain ⟨u1, u2, u3, u4, u5, u6, u7, u8, u9, u10⟩ := ty
      rw [i5] at u1 u4 u5 u6 u7
      obtain ⟨t1, t2, t3, t4, t5, t6, t7, t8, t9, t10⟩ := id i1
      have exy : y = x := by
        have d1 := dx_enc u2
        have d2 := dx_enc t2
        rw [← u5, t5, d2] at d1
        exact d1.symm
      have ej : jy = j1 := by rw [i4] at u7; have u7 : eP Γ (T.pr n) (e n) + j1 + 1 = eP Γ (T.pr n) (e n) + jy + 1 := u7; omega
      rw [exy, ej]
      obtain ⟨k, hk⟩ := hF2 x j i1
      obtain ⟨k', hk'⟩ := hk.s1 i2 i3
      refine ⟨k', ?_⟩
      rw [i4]
      rw [gV_t] at hk' ⊢
      exact hk'
    · exact Or.inr hM
  · have hvR : v = RV Γ T S.kp n x := by
      obtain ⟨k, hk⟩ := hF2 x _ i1
      cases k with
      | zero =>
        have := hk.2
        rw [i2] at this
        injection this
      | succ k => have := hk.2.1; omega
    have ekp : S'.kp = uf2 S.kp (T.ch n (x / 8)) (x % 8) v := by
      rw [i3]
      show (if true = false ∧ _ then _ else _ : MST).2.2.2.2.1 = _
      rw [if_neg (fun z => absurd z.1 (by decide))]
    have evs : S'.vs = [] := by
      rw [i3]
      show (if true = false ∧ _ then _ else _ : MST).2.2.2.1 = _
      rw [if_neg (fun z => absurd z.1 (by decide))]
    refine ⟨e', κ', hs, bnd evs i5, ?_⟩
    rw [ekp, i4]
    exact fv_set hG hD hT h hF i1 hvR
  · refine ⟨e', κ', hs, bnd i3 i5, ?_⟩
    rw [i4]
    refine fv1_e hF i2 (fun y hy z => ?_)
    have a := ((plI_A hL hV hp (svs Γ (hdS Γ (T.pr n)))).2.2.2.1 y hy).2.2
    have a : (gE (plP Γ (T.pr n)) ((plP Γ (T.pr n)).ea y)).2.2 = 0 := a
    rw [z, i1.2.1] at a
    have a : w = 0 := a
    have := i1.2.2.1
    omega
  · refine ⟨e', κ', hs, bnd i3 i5, ?_⟩
    rw [i4, i2]; exact hF
/-- how far a machine that runs can be -/
theorem mi_kb (hG : GOK Γ) (hT : TOK Γ T) {b : Bool} (h : MIr Γ T b S e κ n bk r) : sumN κ T.N < 750000 := by
  obtain ⟨hV, hL, hx, hw, _⟩ := id hG
  have hst := (mi_stp hG hT h).1
  obtain ⟨h1, h2, h3, ⟨h4, h5, h7⟩, h6⟩ := h
  have hN := hT.2.1
  have hpB : ∀ m, m < T.N → pgS Γ (T.pr m) (plN Γ (T.pr m)) + svs Γ (hdS Γ (T.pr m)) ≤ 3000 := by
    intro m hm
    have hp : T.pr m < Γ.2.1 := ((hT.2.2 m hm).1).1
    have a : pgB Γ (T.pr m + 1) ≤ pgB Γ Γ.2.1 := pgB_mo Γ hp
    have b : pgB Γ (T.pr m + 1) = pgB Γ (T.pr m) + (pgS Γ (T.pr m) (plN Γ (T.pr m)) + svs Γ (hdS Γ (T.pr m))) := rfl
    omega
  have skb : ∀ {r n bk}, SkT Γ T S.vi e κ n bk r → ∀ z, z ∈ r → κ z.1 ≤ 3000 := by
    intro r
    induction r with
    | nil => intro n bk _ z hz; exact absurd hz (by simp)
    | cons y r ih =>
      intro n bk hk z hz
      obtain ⟨n2, b2⟩ := y
      obtain ⟨⟨l1, l2, l3, l4, l5, l6, l7, l8, l9, l10⟩, l11⟩ := hk
      rcases List.mem_cons.mp hz with rfl | hz
      · have hn2 : n2 < T.N := by omega
        have hp2 : T.pr n2 < Γ.2.1 := ((hT.2.2 n2 hn2).1).1
        have hi : e n2 - 1 < plN Γ (T.pr n2) := by have := (h2 n2 hn2).1; omega
        have hpos : 1 ≤ pgn Γ (T.pr n2) (e n2 - 1) := by unfold pgn; split <;> omega
        have := (pg_en hV hL hp2 hi (k := 0) (by omega)).2
        show κ n2 ≤ 3000
        omega
      · exact ih l11 z hz
  have top : κ n < 3000 := by
    have hp : T.pr n < Γ.2.1 := ((hT.2.2 n h4).1).1
    have hpc2 := hst.2.1
    rcases h7 with ⟨x, j, ht⟩ | ⟨o, w, ht⟩ | ht
    · have a := ht.2.2.2.2.2.2.1
      have b := ht.2.2.2.2.2.2.2.2.2
      omega
    · have a := ht.2.2.2.2.2.2.2.1
      have b := ht.2.2.2.2.2.2.2.2.2
      omega
    · have a := ht.2.1
      have b := ht.2.2.2
      omega
  have all : ∀ m, m < T.N → κ m ≤ 3000 := by
    intro m hm
    by_cases e1 : m = n
    · rw [e1]; omega
    · by_cases e2 : ∃ z, z ∈ r ∧ z.1 = m
      · obtain ⟨z, z1, z2⟩ := e2
        rw [← z2]; exact skb h3 z z1
      · have hin := h6 m hm e1 (fun z hz q => e2 ⟨z, hz, q⟩)
        have a := pgS_mo Γ (T.pr m) (h2 m hm).1
        have b := (h2 m hm).2.1
        have c := hpB m hm
        rw [hin.2]; omega
  have sm : ∀ k, k ≤ T.N → sumN κ k + (if n < k then 1 else 0) ≤ 3000 * k := by
    intro k
    induction k with
    | zero => intro _; rw [if_neg (by omega)]; exact Nat.le_refl _
    | succ k ih =>
      intro hk
      have i := ih (by omega)
      have a := all k (by omega)
      show sumN κ k + κ k + _ ≤ _
      by_cases e1 : n = k
      · rw [if_pos (by omega)]
        rw [if_neg (by omega)] at i
        rw [e1] at top
        omega
      · by_cases e2 : n < k
        · rw [if_pos (by omega)]
          rw [if_pos e2] at i
          omega
        · rw [if_neg (by omega)]
          rw [if_neg e2] at i
          omega
  have := sm T.N (Nat.le_refl _)
  rw [if_pos h4] at this
  omega
end EV
