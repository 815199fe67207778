/-! ===== expressions, the model's: leaves, what is behind ===== -/
/-- a leaf -/
def lfR (t : Nat → Nat) (n : Nat) (K : PC) (q : Nat) : Bool × Nat × (Nat × Nat) :=
  if tkK t n q = 3 then (if tkK t n (nx t n q) = 46 then ((pSl t n K false q).1, (pSl t n K false q).2.1, (50, (pSl t n K false q).2.2)) else (true, nx t n q, (40, nv t n q)))
  else if tkK t n q = 35 ∧ K.2.2.2.1 = true then (true, nx t n q, (41, 0)) else (false, q, (0, 0))
theorem pSl_gt {t : Nat → Nat} {n q : Nat} {K : PC} {d : Bool} (h : (pSl t n K d q).1 = true) : q < (pSl t n K d q).2.1 := by
  obtain ⟨a, b, c, d, e, f, g⟩ := pSl_ok h
  rw [g]
  have h1 := nx_gt (t := t) (n := n) (q := q) (by omega)
  have h2 := nx_gt (t := t) (n := n) (q := nx t n q) (by omega)
  have h3 := nx_gt (t := t) (n := n) (q := nx t n (nx t n q)) (by omega)
  show q < nx t n (nx t n (nx t n q))
  omega
theorem pSl_le {t : Nat → Nat} {n q : Nat} {K : PC} {d : Bool} (hq : q ≤ n) : (pSl t n K d q).2.1 ≤ n := by
  unfold pSl
  split
  · rename_i h
    have h1 := nx_gt (t := t) (n := n) (q := q) (by omega)
    split
    · rename_i h2
      have h2 := nx_gt (t := t) (n := n) (q := nx t n q) (by omega)
      split
      · rename_i h3
        simp only [slC, Bool.and_eq_true, decide_eq_true_eq] at h3
        have h3 := nx_gt (t := t) (n := n) (q := nx t n (nx t n q)) (by omega)
        exact h3.2
      · exact h2.2
    · exact h1.2
  · exact hq
section ML
variable {σ0 σ : ab_S} {t : Nat → Nat} {n q L p e : Nat} {fs r : FS} {c : List (Nat × Nat)} {k : Nat} {b b' : Bool} {w : List Nat} {K : PC} {Q : ab_S → Prop} {E : String → ab_S → Prop}
/-- what MX and the room say in numbers -/
theorem nb_fs (hx : e + 1 = ((k, b, w) :: r : FS).length + c30 (fl ((k, b, w) :: r))) (he : e ≤ 10) (hs : slk 0 ((k, b, w) :: r)) (h3 : L + c.length + (fl ((k, b, w) :: r)).length + ((k, b, w) :: r : FS).length ≤ q + 1) : r.length < 12 ∧ w.length + (fl r).length ≤ 40 ∧ c30 w ≤ e ∧ L + c.length + w.length ≤ q := by
  have e1 : (fl ((k, b, w) :: r)).length = w.length + (fl r).length := List.length_append
  have e2 : c30 (fl ((k, b, w) :: r)) = c30 w + c30 (fl r) := c30_app _ _
  have hl1 : ((k, b, w) :: r : FS).length = r.length + 1 := rfl
  unfold slk at hs
  omega
theorem st_leaf (hc : MCtx σ0 t n p K) (hb : b = true → tkK t n q ≠ 7) (n45 : tkK t n q ≠ 45) (n40 : tkK t n q ≠ 40) (hs : slk 0 ((k, b', w) :: r)) (h1 : (lfR t n K q).1 = true → BH σ0 t n L p Q E (lfR t n K q).2.1 ((k, b', wdr 4 w) :: r) (c ++ [(lfR t n K q).2.2] ++ w0 (wtk 4 w)) (e - c30 (wtk 4 w))) (h0 : (lfR t n K q).1 = false → FQ σ0 L Q (lfR t n K q).2.1) : PT σ0 t n L p Q E b q ((k, b', w) :: r) c e := by
  have hn := hc.2.2.2.2
  have hcp := hc.2.2.2.1
  have main : ∀ g σ, MX σ0 σ t n q L ((k, b', w) :: r) c e → ((lfR t n K q).1 = true → ∀ σ', MX σ0 σ' t n (lfR t n K q).2.1 L ((k, b', wdr 4 w) :: r) (c ++ [(lfR t n K q).2.2] ++ w0 (wtk 4 w)) (e - c30 (wtk 4 w)) → wX12_expression_l27 (nI p) Q E g 0 0 1 σ') → ((lfR t n K q).1 = false → ∃ g', g = g' + 1) → wX12_expression_l27 (nI p) Q E (g + 1) 1 (if b then 1 else 0) 1 σ := by
    intro g σ hX k1 k0
    obtain ⟨hY, hS, x1, x2, x3⟩ := hX
    obtain ⟨y1, y2, y3, y4⟩ := nb_fs x1 x2 hs x3
    have hG := hY.ok hc.1
    have hq := hS.2.1
    refine e_part hG hS b ?_
    rw [show (if (b = true ∧ tkK t n q = 7) ∨ tkK t n q = 40 then (1 : Int32) else 0) = 0 from if_neg (fun z => z.elim (fun y => hb y.1 y.2) n40)]
    unfold wX12_expression_j69
    refine o_j27 hS hb ?_
    unfold wX12_operand_j27
    have m45 : ¬ σ.2.1 92 40 = (14 : Int32) := fun z => n45 ((hS.sg (w := 45) (by omega) rfl).mp z)
    have m40 : ¬ σ.2.1 92 40 = (10 : Int32) := fun z => n40 ((hS.sg (w := 40) (by omega) rfl).mp z)
    refine yes m45 (yes m40 ?_)
    have ok : ∀ σ' q' x v, q < q' → (lfR t n K q) = (true, q', (x, v)) → MS σ' t n q' → MY σ0 σ' L ((k, b', w) :: r) (c ++ [(x, v)]) e → wX12_operand_j173 (nI p) (if b then 1 else 0) (fun u2 σ1 => ((¬ u2 = 0) → wX12_expression_j92 (nI p) Q E (wX12_expression_l27 (nI p) Q E g) 0 1 (0 : Int32) σ1) ∧ (¬ (¬ u2 = 0) → wX12_expression_j92 (nI p) Q E (wX12_expression_l27 (nI p) Q E g) 0 1 (1 : Int32) σ1)) E σ' := by
      intro σ' q' x v hq' hR s1 y1
      unfold wX12_operand_j173
      rw [hR] at k1
      refine m_settleX (l := 4) (by omega) ⟨y1, s1, x1, x2, ?_⟩ hs (fun σ2 X2 => yes (by decide) ?_)
      · rw [List.length_append]; simp; simp at x3; omega
      · exact k1 rfl σ2 X2
    have bad : ∀ σ' c2 v, c2.length ≤ c.length + 1 → v ≤ 2400 → (lfR t n K q).1 = false → (lfR t n K q).2.1 = v → MY (ab_I σ0 92 44 (nI v)) σ' L ((k, b', w) :: r) c2 e → wX12_operand_j173 (nI p) (if b then 1 else 0) (fun u2 σ1 => ((¬ u2 = 0) → wX12_expression_j92 (nI p) Q E (wX12_expression_l27 (nI p) Q E g) 0 1 (0 : Int32) σ1) ∧ (¬ (¬ u2 = 0) → wX12_expression_j92 (nI p) Q E (wX12_expression_l27 (nI p) Q E g) 0 1 (1 : Int32) σ1)) E σ' := by
      intro σ' c2 v hc2 hv hR hR2 y1
      unfold wX12_operand_j173
      refine m_settle (l := 4) (by omega) y1 (by omega) (by omega) (by omega) y3 (fun σ2 f2 y2 => yes (by decide) ?_)
      obtain ⟨g', hg'⟩ := k0 hR
      subst hg'
      rw [hR2] at h0
      exact e_bad (v := v) (y2.badv hv) (h0 hR hv σ2 y2.1)
    have j104 : ¬ (tkK t n q = 35 ∧ K.2.2.2.1 = true) → wX12_operand_j104 (nI p) (if b then 1 else 0) (fun u2 σ1 => ((¬ u2 = 0) → wX12_expression_j92 (nI p) Q E (wX12_expression_l27 (nI p) Q E g) 0 1 (0 : Int32) σ1) ∧ (¬ (¬ u2 = 0) → wX12_expression_j92 (nI p) Q E (wX12_expression_l27 (nI p) Q E g) 0 1 (1 : Int32) σ1)) E σ := by
      intro h35
      unfold wX12_operand_j104
      by_cases k3 : tkK t n q = 3
      · have hgt := nx_gt (t := t) (n := n) (q := q) (by omega)
        refine no (fun z => z (hS.nb.mpr k3)) ?_
        rw [hS.2.2.1]
        refine fe (m_num hS k3 (m_next hS (fun σ1 f1 s1 => ?_)))
        have Y1 := hY.adv f1
        by_cases k46 : tkK t n (nx t n q) = 46
        · refine no (fun z => z ((s1.sg (w := 46) (by omega) rfl).mpr k46)) ?_
          have e0 : lfR t n K q = ((pSl t n K false q).1, (pSl t n K false q).2.1, (50, (pSl t n K false q).2.2)) := by unfold lfR; rw [if_pos k3, if_pos k46]
          refine m_attr (K := K) false s1 hq (hG.fm f1 rfl) k3 (Y1.sy hc.2.1) hc.2.2.1 (Y1.mp hcp) (fun hp σ2 f2 s2 => ?_) (fun hp σ2 f2 => ?_)
          · refine m_emit (x := 50) (Y1.adv f2) (by omega) (fun σ3 f3 y3 => ?_)
            unfold wX12_operand_j162
            refine ok σ3 _ 50 _ (pSl_gt hp) (by rw [e0, hp]) (s2.fm f3 rfl (fun _ => rfl) (fun _ => rfl) rfl rfl rfl rfl) y3
          · have := pSl_le (t := t) (n := n) (q := q) (K := K) (d := false) hq
            refine m_emit (x := 50) (v := 0) (Y1.fail.adv f2) (by omega) (fun σ3 f3 y3 => ?_)
            unfold wX12_operand_j162
            exact bad σ3 _ _ (by simp) (by omega) (by rw [e0]; exact hp) (by rw [e0]) y3
        · refine yes (fun z => k46 ((s1.sg (w := 46) (by omega) rfl).mp z)) ?_
          have e0 : lfR t n K q = (true, nx t n q, (40, nv t n q)) := by unfold lfR; rw [if_pos k3, if_neg k46]
          refine m_emit (x := 40) Y1 (by omega) (fun σ3 f3 y3 => ?_)
          unfold wX12_operand_j162
          exact ok σ3 _ 40 _ hgt.1 e0 (s1.fm f3 rfl (fun _ => rfl) (fun _ => rfl) rfl rfl rfl rfl) y3
      · refine yes (fun z => k3 (hS.nb.mp z)) ?_
        have e0 : lfR t n K q = (false, q, (0, 0)) := by unfold lfR; rw [if_neg k3, if_neg h35]
        rw [hS.2.2.1]
        refine m_failY hG ?_
        exact bad _ c q (by omega) (by omega) (by rw [e0]) (by rw [e0]) hY.fail
    by_cases k35 : tkK t n q = 35
    · refine no (fun z => z ((hS.sg (w := 35) (by omega) rfl).mpr k35)) ?_
      have P := hY.mp hcp
      rw [nI_clampE (by have := P.1; omega)]
      refine ⟨by have := P.1; simp (disch := omega) only [nI_lit, nI_add, nI_mulE, nI_clampE, nI_eqE, nI_leE, nI_ltE, vp_nIE, true_and, and_true]; omega, ?_⟩
      rw [P.2.2.2.2.1]
      by_cases hl : K.2.2.2.1 = true
      · have e0 : lfR t n K q = (true, nx t n q, (41, 0)) := by unfold lfR; rw [if_neg (by omega), if_pos ⟨k35, hl⟩]
        rw [if_pos hl]
        refine no (by decide) ?_
        refine m_emit (x := 41) (v := 0) hY (by omega) (fun σ3 f3 y3 => ?_)
        refine m_next (hS.fm f3 rfl (fun _ => rfl) (fun _ => rfl) rfl rfl rfl rfl) (fun σ4 f4 s4 => ?_)
        exact ok σ4 _ 41 0 (nx_gt (by omega)).1 e0 s4 (y3.adv f4)
      · rw [if_neg hl]
        exact yes rfl (j104 (fun z => hl z.2))
    · exact yes (fun z => k35 ((hS.sg (w := 35) (by omega) rfl).mp z)) (j104 (fun z => k35 z.1))
  by_cases he : (lfR t n K q).1 = true
  · obtain ⟨f0, h1⟩ := h1 he
    refine ⟨f0 + 1, fun f hf σ hX => ?_⟩
    obtain ⟨g, rfl, hg⟩ := fs_up hf
    exact main g σ hX (fun _ => h1 g hg) (fun z => by rw [he] at z; cases z)
  · refine ⟨2, fun f hf σ hX => ?_⟩
    obtain ⟨g, rfl, hg⟩ := fs_up (f0 := 1) hf
    exact main g σ hX (fun z => absurd z he) (fun _ => ⟨g - 1, by omega⟩)
/-- * / + - -/
theorem bh_op (hc : MCtx σ0 t n p K) (hk : tkK t n q = 42 ∨ tkK t n q = 47 ∨ tkK t n q = 43 ∨ tkK t n q = 45) (hs : slk 0 ((k, b', w) :: r)) (h : PT σ0 t n L p Q E false (nx t n q) ((k, b', mk (tkK t n q) :: wdr (wst (mk (tkK t n q))) w) :: r) (c ++ w0 (wtk (wst (mk (tkK t n q))) w)) (e - c30 (wtk (wst (mk (tkK t n q))) w))) : BH σ0 t n L p Q E q ((k, b', w) :: r) c e := by
  obtain ⟨f0, h⟩ := h
  refine ⟨f0 + 1, fun f hf σ hX => ?_⟩
  obtain ⟨g, rfl, hg⟩ := fs_up hf
  have h := h g hg
  have hX0 := hX
  obtain ⟨hY, hS, x1, x2, x3⟩ := hX
  obtain ⟨y1, y2, y3, y4⟩ := nb_fs x1 x2 hs x3
  have hG := hY.ok hc.1
  have hgt := nx_gt (t := t) (n := n) (q := q) (by omega)
  have hm := mk_lt _ (tkK_lt (t := t) (n := n) (q := q))
  have hne : mk (tkK t n q) ≠ 30 := by omega
  have hwl := wst_lt (mk (tkK t n q))
  refine e_behind hG ?_
  have go : wX12_behind_j36 (QBh p Q E g) E σ := by
    unfold wX12_behind_j36
    rw [hS.2.2.2.2.1]
    refine m_strength (by omega) ?_
    refine m_settleX (by omega) hX0 hs (fun σ1 X1 => ?_)
    obtain ⟨z1, z2, z3, z4, z5⟩ := X1
    rw [z2.2.2.2.2.1]
    have e1 : (fl ((k, b', wdr (wst (mk (tkK t n q))) w) :: r)).length = (wdr (wst (mk (tkK t n q))) w).length + (fl r).length := List.length_append
    have := (nb_stl (wst (mk (tkK t n q))) w).2
    refine m_hold z1 z2 (by omega) (by omega) (fun σ2 s2 y2 => QB1 (h σ2 ⟨y2, s2, ?_, z4, ?_⟩))
    · show _ = _ + c30 (mk (tkK t n q) :: (fl ((k, b', wdr (wst (mk (tkK t n q))) w) :: r)))
      rw [c30, if_neg hne, Nat.zero_add]; exact z3
    · show _ + _ + (mk (tkK t n q) :: (fl ((k, b', wdr (wst (mk (tkK t n q))) w) :: r))).length + _ ≤ _
      rw [List.length_cons]
      have hl1 : ((k, b', wdr (wst (mk (tkK t n q))) w) :: r : FS).length = r.length + 1 := rfl
      have hl2 : ((k, b', mk (tkK t n q) :: wdr (wst (mk (tkK t n q))) w) :: r : FS).length = r.length + 1 := rfl
      omega
  unfold wX12_behind
  by_cases h42 : tkK t n q = 42
  · exact yes ((hS.sg (w := 42) (by omega) rfl).mpr h42) go
  refine no (fun z => h42 ((hS.sg (w := 42) (by omega) rfl).mp z)) ?_
  by_cases h47 : tkK t n q = 47
  · exact yes ((hS.sg (w := 47) (by omega) rfl).mpr h47) go
  refine no (fun z => h47 ((hS.sg (w := 47) (by omega) rfl).mp z)) ?_
  by_cases h43 : tkK t n q = 43
  · exact yes ((hS.sg (w := 43) (by omega) rfl).mpr h43) go
  refine no (fun z => h43 ((hS.sg (w := 43) (by omega) rfl).mp z)) ?_
  exact no (fun z => z ((hS.sg (w := 45) (by omega) rfl).mpr (by omega))) go
/-- < = -/
theorem bh_cmp (hc : MCtx σ0 t n p K) (hk : tkK t n q = 60 ∨ tkK t n q = 61) (hs : slk 0 ((k, false, w) :: r)) (h : PT σ0 t n L p Q E false (nx t n q) ((k, true, mk (tkK t n q) :: wdr 2 w) :: r) (c ++ w0 (wtk 2 w)) (e - c30 (wtk 2 w))) : BH σ0 t n L p Q E q ((k, false, w) :: r) c e := by
  obtain ⟨f0, h⟩ := h
  refine ⟨f0 + 1, fun f hf σ hX => ?_⟩
  obtain ⟨g, rfl, hg⟩ := fs_up hf
  have h := h g hg
  have hX0 := hX
  obtain ⟨hY, hS, x1, x2, x3⟩ := hX
  obtain ⟨y1, y2, y3, y4⟩ := nb_fs x1 x2 hs x3
  have hG := hY.ok hc.1
  have hgt := nx_gt (t := t) (n := n) (q := q) (by omega)
  have hm := mk_lt _ (tkK_lt (t := t) (n := n) (q := q))
  have hne : mk (tkK t n q) ≠ 30 := by omega
  refine e_behind hG ?_
  have go : wX12_behind_j74 (QBh p Q E g) E σ := by
    unfold wX12_behind_j74
    obtain ⟨t1, t2, t3, t4, t5, t6, t7⟩ := hY.top (by omega)
    rw [t1, t2, t6]
    refine ⟨t3, no (fun z => z rfl) ?_⟩
    refine m_settleX (l := 2) (by omega) hX0 hs (fun σ1 X1 => ?_)
    obtain ⟨z1, z2, z3, z4, z5⟩ := X1
    obtain ⟨t1, t2, t3, t4, t5, t6, t7⟩ := z1.top (by omega)
    rw [t1, t2]
    refine ⟨t3, fe ?_⟩
    rw [show vp_nar .boolean (1 : Int32) = 1 from by decide]
    have Z1 := z1.setc
    have Z2 : MS (ab_I σ1 125 r.length 1) t n q := z2.fm (S := fun a i => a == 125) ((FM.rf _ σ1).I rfl) rfl (fun _ => rfl) (fun _ => rfl) rfl rfl rfl rfl
    rw [Z2.2.2.2.2.1]
    have e1 : (fl ((k, false, wdr 2 w) :: r)).length = (wdr 2 w).length + (fl r).length := List.length_append
    have := (nb_stl 2 w).2
    refine m_hold Z1 Z2 (by omega) (by omega) (fun σ2 s2 y2 => QB1 (h σ2 ⟨y2, s2, ?_, z4, ?_⟩))
    · show _ = _ + c30 (mk (tkK t n q) :: (fl ((k, true, wdr 2 w) :: r)))
      rw [c30, if_neg hne, Nat.zero_add]; exact z3
    · show _ + _ + (mk (tkK t n q) :: (fl ((k, false, wdr 2 w) :: r))).length + _ ≤ _
      rw [List.length_cons]
      have hl1 : ((k, false, wdr 2 w) :: r : FS).length = r.length + 1 := rfl
      have hl2 : ((k, true, mk (tkK t n q) :: wdr 2 w) :: r : FS).length = r.length + 1 := rfl
      omega
  unfold wX12_behind
  refine no (fun z => by have := (hS.sg (w := 42) (by omega) rfl).mp z; omega) (no (fun z => by have := (hS.sg (w := 47) (by omega) rfl).mp z; omega) (no (fun z => by have := (hS.sg (w := 43) (by omega) rfl).mp z; omega) (yes (fun z => by have := (hS.sg (w := 45) (by omega) rfl).mp z; omega) ?_)))
  by_cases h60 : tkK t n q = 60
  · exact yes ((hS.sg (w := 60) (by omega) rfl).mpr h60) go
  · exact no (fun z => h60 ((hS.sg (w := 60) (by omega) rfl).mp z)) (no (fun z => z ((hS.sg (w := 61) (by omega) rfl).mpr (by omega))) go)
/-- anything else -/
theorem bh_end (hc : MCtx σ0 t n p K) (hk : tkK t n q ≠ 42 ∧ tkK t n q ≠ 47 ∧ tkK t n q ≠ 43 ∧ tkK t n q ≠ 45) (hk2 : tkK t n q = 60 ∨ tkK t n q = 61 → b' = true) (hs : slk 0 ((k, b', w) :: r)) (h : AE σ0 t n L p Q E q ((k, b', []) :: r) (c ++ w0 w) (e - c30 w)) : BH σ0 t n L p Q E q ((k, b', w) :: r) c e := by
  obtain ⟨f0, m0, h⟩ := h
  refine ⟨f0 + 1, fun f hf σ hX => ?_⟩
  obtain ⟨g, rfl, hg⟩ := fs_up hf
  have h := h g hg
  have hX0 := hX
  obtain ⟨hY, hS, x1, x2, x3⟩ := hX
  obtain ⟨y1, y2, y3, y4⟩ := nb_fs x1 x2 hs x3
  have hG := hY.ok hc.1
  refine e_behind hG ?_
  have go : wX12_behind_j115 (QBh p Q E g) E σ := by
    show wX12_settle (1 : Int32) (fun σ5 => ∃ n, wX12_endChoices_l5 (KAe (QBh p Q E g) E) E n σ5) E σ
    refine m_settleX (l := 1) (by omega) hX0 hs (fun σ1 X1 => ?_)
    rw [(wtk_1 w).1, (wtk_1 w).2] at X1
    exact ⟨m0, h m0 (Nat.le_refl _) σ1 X1⟩
  have go2 : b' = true → wX12_behind_j74 (QBh p Q E g) E σ := by
    intro hb
    unfold wX12_behind_j74
    obtain ⟨t1, t2, t3, t4, t5, t6, t7⟩ := hY.top (by omega)
    rw [t1, t2, t6, hb]
    exact ⟨t3, yes (by decide) go⟩
  unfold wX12_behind
  refine no (fun z => hk.1 ((hS.sg (w := 42) (by omega) rfl).mp z)) (no (fun z => hk.2.1 ((hS.sg (w := 47) (by omega) rfl).mp z)) (no (fun z => hk.2.2.1 ((hS.sg (w := 43) (by omega) rfl).mp z)) (yes (fun z => hk.2.2.2 ((hS.sg (w := 45) (by omega) rfl).mp z)) ?_)))
  by_cases h60 : tkK t n q = 60
  · exact yes ((hS.sg (w := 60) (by omega) rfl).mpr h60) (go2 (hk2 (Or.inl h60)))
  · refine no (fun z => h60 ((hS.sg (w := 60) (by omega) rfl).mp z)) ?_
    by_cases h61 : tkK t n q = 61
    · exact no (fun z => z ((hS.sg (w := 61) (by omega) rfl).mpr h61)) (go2 (hk2 (Or.inr h61)))
    · exact yes (fun z => h61 ((hS.sg (w := 61) (by omega) rfl).mp z)) go
end ML
