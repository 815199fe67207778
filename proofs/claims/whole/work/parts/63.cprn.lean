/-! ===== productions, the class's: all of one ===== -/
def CGr (σ : ab_S) (g : Nat) (Γ : GRT) : Prop := CSy σ g Γ.1 ∧ σ.2.1 g 5 = nI Γ.2.1 ∧ σ.2.1 g 14 = nI Γ.2.2.2.2 ∧ ∀ p, p < Γ.2.1 → CPo σ g p (Γ.2.2.1 p) ((Γ.2.2.1 p).2.1 + 1)
def GRV (Γ : GRT) : Prop := GV Γ.1 ∧ Γ.2.1 ≤ 30 ∧ UQ (fun i => (Γ.2.2.1 i).1) Γ.2.1 ∧ ∀ p, p < Γ.2.1 → VL (Γ.2.2.1 p).1 ∧ PV Γ.1 (Γ.2.2.1 p) Γ.2.2.2.1 Γ.2.2.2.2 ∧ whl Γ.1 (Γ.2.2.1 p) = true
theorem whl_bm {G : SYT} {P : PRO} (hd : ∀ x, P.2.2.2.2.1 x = true → dfn G P x = true) : bm P.2.2.2.2.1 32 = bm (dfn G P) 32 ↔ whl G P = true := by
  constructor
  · intro h
    unfold whl
    rw [List.all_eq_true]
    intro x hx
    have hx := List.mem_range.mp hx
    have this : bt (bm P.2.2.2.2.1 32) x = bt (bm (dfn G P) 32) x := congrArg (fun w => bt w x) h
    rw [bm_bt (by omega) hx, bm_bt (by omega) hx, decide_eq_true hx, Bool.true_and, Bool.true_and] at this
    rw [this]
    cases dfn G P x <;> rfl
  · intro h
    unfold whl at h
    rw [List.all_eq_true] at h
    refine bm_congr (fun x hx => ?_)
    have := h x (List.mem_range.mpr hx)
    cases hd1 : P.2.2.2.2.1 x
    · rw [hd1, Bool.or_false] at this
      cases hd2 : dfn G P x
      · rfl
      · rw [hd2] at this; exact absurd this (by decide)
    · exact (hd x hd1).symm
theorem PV.mono {G : SYT} {P : PRO} {lm lc lm' lc' : Nat} (h : PV G P lm lc) (h1 : lm ≤ lm') (h2 : lc ≤ lc') : PV G P lm' lc' := ⟨h.1, h.2.1, fun x hx => by obtain ⟨a, b, c, d, e⟩ := h.2.2 x hx; exact ⟨a, b, by omega, by omega, e⟩⟩
theorem GRV_P {Γ : GRT} {u : RRs} {l : List Nat} (h : GRV Γ) (h30 : Γ.2.1 < 30) (hl : VL l) (hn : fi (fun i => (Γ.2.2.1 i).1) Γ.2.1 l = Γ.2.1) (e : u.2.2.1.1 = l) (hP : PV Γ.1 u.2.2.1 u.2.2.2.1 u.2.2.2.2) (hw : whl Γ.1 u.2.2.1 = true) (h1 : Γ.2.2.2.1 ≤ u.2.2.2.1) (h2 : Γ.2.2.2.2 ≤ u.2.2.2.2) : GRV (gP Γ u) := by
  obtain ⟨a, b, c, d⟩ := h
  have en : (fun i => ((gP Γ u).2.2.1 i).1) = uf (fun i => (Γ.2.2.1 i).1) Γ.2.1 l := by
    funext i
    show (uf Γ.2.2.1 Γ.2.1 u.2.2.1 i).1 = _
    by_cases ei : i = Γ.2.1
    · rw [ei, uf_s, uf_s, e]
    · rw [uf_o _ _ ei, uf_o _ _ ei]
  refine ⟨a, h30, ?_, fun p hp => ?_⟩
  · rw [en]; exact UQ_add c hn
  · show VL (uf Γ.2.2.1 Γ.2.1 u.2.2.1 p).1 ∧ PV Γ.1 (uf Γ.2.2.1 Γ.2.1 u.2.2.1 p) u.2.2.2.1 u.2.2.2.2 ∧ whl Γ.1 (uf Γ.2.2.1 Γ.2.1 u.2.2.1 p) = true
    have hp : p < Γ.2.1 + 1 := hp
    by_cases ep : p = Γ.2.1
    · rw [ep, uf_s, e]; exact ⟨hl, hP, hw⟩
    · rw [uf_o _ _ ep]
      obtain ⟨x, y, z⟩ := d p (by omega)
      exact ⟨x, y.mono h1 h2, z⟩
theorem pRs_ge (t : Nat → Nat) (n : Nat) (G : SYT) : ∀ f q P lm lc, lm ≤ (pRs t n G f q P lm lc).2.2.2.1 ∧ lc ≤ (pRs t n G f q P lm lc).2.2.2.2 ∧ (pRs t n G f q P lm lc).2.2.1.1 = P.1
  | 0, q, P, lm, lc => ⟨Nat.le_refl _, Nat.le_refl _, rfl⟩
  | f + 1, q, P, lm, lc => by
    rw [pRs]
    split
    · split
      · rename_i h
        have ih := pRs_ge t n G f (pRu t n G P lm lc q).2.1 (pRu t n G P lm lc q).2.2.1 (pRu t n G P lm lc q).2.2.2.1 (pRu t n G P lm lc q).2.2.2.2
        have hu : lm ≤ (pRu t n G P lm lc q).2.2.2.1 ∧ lc ≤ (pRu t n G P lm lc q).2.2.2.2 ∧ (pRu t n G P lm lc q).2.2.1.1 = P.1 := by
          unfold pRu pRu1
          split
          · unfold pRu2
            split
            · exact ⟨Nat.le_add_right _ _, Nat.le_add_right _ _, rfl⟩
            · exact ⟨Nat.le_refl _, Nat.le_refl _, rfl⟩
          · exact ⟨Nat.le_refl _, Nat.le_refl _, rfl⟩
        exact ⟨Nat.le_trans hu.1 ih.1, Nat.le_trans hu.2.1 ih.2.1, ih.2.2.trans hu.2.2⟩
      · exact ⟨Nat.le_refl _, Nat.le_refl _, rfl⟩
    · exact ⟨Nat.le_refl _, Nat.le_refl _, rfl⟩
theorem pOcs_1 (t : Nat → Nat) (n : Nat) (G : SYT) : ∀ f q P, (pOcs t n G f q P).2.2.1 = P.1
  | 0, q, P => rfl
  | f + 1, q, P => by
    rw [pOcs]
    split
    · split
      · exact pOcs_1 t n G f _ _
      · rfl
    · rfl
section CL
variable {σ : ab_S} {t : Nat → Nat} {n q g : Nat} {Γ : GRT} {E : String → ab_S → Prop}
theorem c_prodn (hn : n ≤ 2400) (hS : CS σ t n q) (hg : isG g) (h3 : σ.2.2.2 7 1 = some g) (hC : CGr σ g Γ) (hV : GRV Γ) (h30 : Γ.2.1 < 30) (hq : Γ.2.2.2.2 ≤ q) {Q : Int32 → ab_S → Prop} (h : ∀ σ', FM (SR g Γ.2.1) σ σ' → CS σ' t n (pPr t n Γ q).2.1 → ((pPr t n Γ q).1 = true → CGr σ' g (gP Γ (pPr t n Γ q)) ∧ GRV (gP Γ (pPr t n Γ q)) ∧ (pPr t n Γ q).2.2.2.2 ≤ (pPr t n Γ q).2.1) → Q (if (pPr t n Γ q).1 then 1 else 0) σ') : wX1_readProduction Q E σ := by
  obtain ⟨hC1, hC2, hC3, hC4⟩ := hC
  have hV0 := hV
  obtain ⟨hV1, hV2, hV3, hV4⟩ := hV
  have hgb := isG_b hg
  have hk := tkK_lt (t := t) (n := n) (q := q)
  have F0 := FM.rf (SR g Γ.2.1) σ
  unfold wX1_readProduction
  rw [hS.kind]
  by_cases k2 : tkK t n q = 2
  · obtain ⟨v1, v2, v3⟩ := nml_v k2
    refine no (by rw [k2]; exact fun z => z rfl) ⟨g, h3, hg, ?_⟩
    rw [hS.name k2, v2]
    refine c_findP (nm := fun i => (Γ.2.2.1 i).1) hV2 hC2 (fun s hs => ⟨(hC4 s hs).1, (hV4 s hs).1⟩) v1 ?_
    by_cases kf : fi (fun i => (Γ.2.2.1 i).1) Γ.2.1 (nml t n q) = Γ.2.1
    · rw [fiI_no kf]
      refine yes rfl ⟨g, h3, hg, ?_⟩
      rw [hC2]
      refine fe ⟨g, h3, hg, ?_⟩
      rw [show (ab_I σ 7 2 (nI Γ.2.1)).2.2.1 3 9 = pkL (nml t n q) 0 by rw [gL_I, hS.name k2, v2]]
      have ep : pPr t n Γ q = pP0 t n Γ.1 (nx t n q) (pnew (nml t n q)) Γ.2.2.2.1 Γ.2.2.2.2 := by unfold pPr; rw [if_pos ⟨k2, kf⟩]
      rw [ep] at h
      have hgt := nx_gt (t := t) (n := n) (q := q) (by omega)
      refine c_addP (p := Γ.2.1) hg (by rw [gI_I, if_neg (by omega)]; exact hC2) h30 (fun σ1 f1 o1 n1 => ?_)
      have G1 : FM (fun a i => decide ((a = 7 ∧ i = 2) ∨ (a = g ∧ i = 5) ∨ ((a = g + 5 ∨ a = g + 6 ∨ a = g + 8 ∨ a = g + 9) ∧ i = Γ.2.1) ∨ (a = g + 10 ∧ Γ.2.1 * 32 ≤ i ∧ i < Γ.2.1 * 32 + 32))) σ σ1 := ((FM.rf _ σ).I (by simp)).tr (f1.mono (fun a i y => by have y := of_decide_eq_false y; exact decide_eq_false (by omega)))
      have F1 : FM (SR g Γ.2.1) σ σ1 := G1.mono (fun a i y => by have y := of_decide_eq_false y; exact decide_eq_false (by omega))
      have K1 : Kc σ σ1 g Γ.2.2.2.2 := Kc.fm G1 (fun i => decide_eq_false (by omega)) (fun i => decide_eq_false (by omega))
      have S1 : CS σ1 t n q := hS.fm G1 (fun i => decide_eq_false (by omega)) (fun i => decide_eq_false (by omega)) (fun i => decide_eq_false (by omega)) (fun i => decide_eq_false (by omega))
      have J1 : RJ σ1 t n g Γ.2.1 Γ.1 (pnew (nml t n q)) 0 Γ.2.2.2.2 q := by
        refine ⟨S1, hg, by rw [G1.2.2 7 1 (decide_eq_false (by omega))]; exact h3, hC1.fm G1 (decide_eq_false (by omega)) (fun i => decide_eq_false (by omega)) (fun i => decide_eq_false (by omega)) (fun i => decide_eq_false (by omega)) (fun i => decide_eq_false (by omega)), hV1, ?_, h30, o1, fun x => rfl, by rw [G1.1 g 14 (decide_eq_false (by omega))]; exact hC3, hq, n1, by omega⟩
        rw [f1.1 7 2 (decide_eq_false (by omega)), gI_I, if_pos rfl, if_pos rfl]
      generalize hp0 : pnew (nml t n q) = P0 at h J1
      have hd0 : ∀ x, P0.2.2.2.2.1 x = false := by rw [← hp0]; exact fun x => rfl
      have hr0 : P0.2.1 = 0 ∧ P0.2.2.2.1 = false ∧ P0.1 = nml t n q := by rw [← hp0]; exact ⟨rfl, rfl, rfl⟩
      have KS : ∀ {τ υ : ab_S}, Fr S3 τ υ → Kc τ υ g Γ.2.2.2.2 := fun f => Kc.fm (FrFM f) (fun i => S3_g hg) (fun i => S3_g hg)
      have FS' : ∀ {τ υ : ab_S}, Fr S3 τ υ → FM (SR g Γ.2.1) τ υ := fun f => (FrFM f).mono (fun a i y => S3_SR a i y)
      refine c_adv S1 (by omega) (fun σ2 f2 s2 => ?_)
      have J2 := J1.adv f2 s2 (by omega)
      have F2 := F1.tr (FS' f2)
      have K2 := K1.tr (KS f2) (Nat.le_refl _)
      generalize nx t n q = q2 at h s2 J2 hgt
      refine c_take (w := 58) s2 (by omega) (by omega) (fun kd σ3 f3 s3 => ?_) (fun kd => ?_)
      rotate_left
      · rw [pP0, if_neg kd] at h
        exact yes rfl (h σ2 F2 s2 (fun z => absurd z Bool.false_ne_true))
      refine no (by decide) ?_
      rw [pP0, if_pos kd] at h
      have hgt3 := nx_gt (t := t) (n := n) (q := q2) (by omega)
      have J3 := J2.adv f3 s3 (by omega)
      have F3 := F2.tr (FS' f3)
      have K3 := K2.tr (KS f3) (Nat.le_refl _)
      generalize nx t n q2 = q3 at h s3 J3 hgt3
      refine c_occ (o := 0) J3 (by omega) (fun k2' hlt σ4 f4 s4 => ?_) (fun hno => ?_)
      rotate_left
      · rw [pP1, if_neg hno] at h
        exact yes rfl (h σ3 F3 s3 (fun z => absurd z Bool.false_ne_true))
      refine no (by decide) ?_
      rw [pP1, if_pos ⟨k2', hlt⟩] at h
      have hgt4 := nx_gt (t := t) (n := n) (q := q3) (by omega)
      have J3' : RJ (ab_I σ3 (g + 7) (Γ.2.1 * 4 + 0) (nI (fi Γ.1.2.1 Γ.1.1 (nml t n q3)))) t n g Γ.2.1 Γ.1 (pho P0 (fi Γ.1.2.1 Γ.1.1 (nml t n q3))) 1 Γ.2.2.2.2 q3 := J3.set ((FM.rf _ σ3).I (decide_eq_true (by omega))) (CPo_occ J3.2.2.2.2.2.2.2.1 hg hd0 (by omega) rfl rfl rfl rfl) rfl (by omega)
      have J4 := J3'.adv f4 s4 (by omega)
      have F4 : FM (SR g Γ.2.1) σ σ4 := F3.tr (S3_w (k := 7) hg f4 (decide_eq_true (by omega)))
      have K4 : Kc σ σ4 g Γ.2.2.2.2 := K3.tr ((Kc.fm (S := fun a i => decide (a = g + 7)) ((FM.rf _ σ3).I (decide_eq_true rfl)) (fun i => decide_eq_false (by omega)) (fun i => decide_eq_false (by omega))).tr (KS f4) (Nat.le_refl _)) (Nat.le_refl _)
      generalize hs0 : fi Γ.1.2.1 Γ.1.1 (nml t n q3) = s0 at h J4 hlt
      generalize nx t n q3 = q4 at h s4 J4 hgt4
      refine c_take (w := 61) s4 (by omega) (by omega) (fun kd σ5 f5 s5 => ?_) (fun kd => ?_)
      rotate_left
      · rw [pP2, if_neg kd] at h
        exact yes rfl (h σ4 F4 s4 (fun z => absurd z Bool.false_ne_true))
      refine no (by decide) ?_
      rw [pP2, if_pos kd] at h
      have hgt5 := nx_gt (t := t) (n := n) (q := q4) (by omega)
      have J5 := J4.adv f5 s5 (by omega)
      have F5 := F4.tr (FS' f5)
      have K5 := K4.tr (KS f5) (Nat.le_refl _)
      generalize nx t n q4 = q5 at h s5 J5 hgt5
      have hO5 : ∀ o, o ≤ (pho P0 s0).2.1 → (pho P0 s0).2.2.1 o < Γ.1.1 := by
        intro o ho
        have ho : o ≤ P0.2.1 := ho
        rw [hr0.1] at ho
        have : o = 0 := by omega
        rw [this]
        show uf P0.2.2.1 0 s0 0 < Γ.1.1
        rw [uf_s]; exact hlt
      -- behind the right side
      have right : ∀ u : Bool × Nat × PRO, (pP4 t n Γ.1 Γ.2.2.2.1 Γ.2.2.2.2 u = pP3 t n Γ.1 q5 (pho P0 s0) Γ.2.2.2.1 Γ.2.2.2.2) → u.2.2.1 = nml t n q → ∀ σ6, FM (SR g Γ.2.1) σ σ6 → Kc σ σ6 g Γ.2.2.2.2 → CS σ6 t n u.2.1 → (u.1 = true → RJ σ6 t n g Γ.2.1 Γ.1 u.2.2 (u.2.2.2.1 + 1) Γ.2.2.2.2 u.2.1 ∧ ∀ o, o ≤ u.2.2.2.1 → u.2.2.2.2.1 o < Γ.1.1) → (((if u.1 then (1 : Int32) else 0) = 0) → Q 0 σ6) ∧ (¬ ((if u.1 then (1 : Int32) else 0) = 0) → wX6_take (123 : Int32) (fun u27 σ26 => ((¬ u27 = 0) → ∃ n, wX1_readProduction_l118 Q E (wX1_readProduction_j150 Q E) n (0 : Int32) σ26) ∧ (¬ (¬ u27 = 0) → Q (0 : Int32) σ26)) E σ6) := by
        intro u eu hu1 σ6 F6 K6 s6 x6
        rw [← eu] at h
        cases hu : u.1
        · rw [pP4, if_neg (by rw [hu]; decide)] at h
          exact yes rfl (h σ6 F6 s6 (fun z => absurd z Bool.false_ne_true))
        rw [pP4, if_pos hu] at h
        obtain ⟨J6, O6⟩ := x6 hu
        refine no (by decide) ?_
        have hd6 := J6.2.2.2.2.2.2.2.2.1
        generalize u.2.1 = q6 at h s6 J6
        generalize u.2.2 = P at h J6 O6 hu1 hd6
        refine c_take (w := 123) s6 (by omega) (by omega) (fun kd σ7 f7 s7 => ?_) (fun kd => ?_)
        rotate_left
        · rw [pP5, if_neg kd] at h
          exact no (fun z => z rfl) (h σ6 F6 s6 (fun z => absurd z Bool.false_ne_true))
        refine yes (by decide) ⟨34, ?_⟩
        rw [pP5, if_pos kd] at h
        have hgt7 := nx_gt (t := t) (n := n) (q := q6) (by omega)
        have J7 := J6.adv f7 s7 (by omega)
        have F7 := F6.tr (FS' f7)
        have K7 := K6.tr (KS f7) (Nat.le_refl _)
        generalize nx t n q6 = q7 at h s7 J7 hgt7
        obtain ⟨j1, j2, j3, j4, j5, j6, j7, j8, j9, j10, j11, j12, j13⟩ := J7
        have R7 : RI σ7 t n g Γ.2.1 Γ.1 P Γ.2.2.2.1 Γ.2.2.2.2 q7 := ⟨j1, j2, j3, j4, j5, j6, j7, j8, ⟨by omega, O6, fun x hx => by rw [hd6 x] at hx; exact absurd hx Bool.false_ne_true⟩, j10, j11, j12⟩
        have hge := pRs_ge t n Γ.1 33 q7 P Γ.2.2.2.1 Γ.2.2.2.2
        refine c_rules hn (lc0 := Γ.2.2.2.2) σ 33 0 q7 P Γ.2.2.2.1 Γ.2.2.2.2 σ7 (by omega) R7 F7 K7 (Nat.le_refl _) (fun hy σ8 F8 K8 R8 => ?_) (fun hy σ8 F8 s8 => ?_)
        · generalize pRs t n Γ.1 33 q7 P Γ.2.2.2.1 Γ.2.2.2.2 = y at h hy R8 hge
          obtain ⟨r1, r2, r3, r4, r5, r6, r7, r8, r9, r10, r11, r12⟩ := R8
          have evp : vp_in (nI Γ.2.1) 30 := by simp (disch := omega) only [nI_lit, nI_add, nI_mulE, nI_clampE, nI_eqE, nI_leE, nI_ltE, vp_nIE, true_and, and_true]; omega
          unfold wX1_readProduction_j150
          rw [r6, nI_clampE (by omega)]
          refine ⟨g, r3, hg, evp, g, r3, hg, ?_⟩
          rw [r8.2.2.2.2.1]
          refine c_def (P := y.2.2.1) hg r4 r5 r7 r8.2.1 (fun o ho => ⟨r8.2.2.1 o (by omega), r9.2.1 o ho⟩) r9.1 ?_
          have hb := whl_bm (G := Γ.1) (P := y.2.2.1) (fun x hx => (r9.2.2 x hx).2.1)
          by_cases hw : whl Γ.1 y.2.2.1 = true
          · refine no (fun z => z (hb.mpr hw)) ?_
            refine c_take (w := 125) r1 (by omega) (by omega) (fun kd σ9 f9 s9 => ?_) (fun kd => ?_)
            · have hgt9 := nx_gt (t := t) (n := n) (q := y.2.1) (by omega)
              have e6 : pP6 t n Γ.1 y = (true, nx t n y.2.1, y.2.2) := by unfold pP6; rw [if_pos ⟨hy, hw, kd⟩]
              rw [e6] at h
              refine no (by decide) (h σ9 (F8.tr (FS' f9)) s9 (fun _ => ⟨?_, ?_, ?_⟩))
              · have R9 : RI σ9 t n g Γ.2.1 Γ.1 y.2.2.1 y.2.2.2.1 y.2.2.2.2 (nx t n y.2.1) := RI.adv ⟨r1, r2, r3, r4, r5, r6, r7, r8, r9, r10, r11, r12⟩ f9 s9 (by omega)
                obtain ⟨q1, q2', q3', q4', q5', q6', q7', q8, q9, q10, q11, q12⟩ := R9
                have F9 : FM (SR g Γ.2.1) σ σ9 := F8.tr (FS' f9)
                have K9 : Kc σ σ9 g Γ.2.2.2.2 := K8.tr (KS f9) (Nat.le_refl _)
                refine ⟨q4', q12, q10, fun p hp => ?_⟩
                have hp : p < Γ.2.1 + 1 := hp
                show CPo σ9 g p (uf Γ.2.2.1 Γ.2.1 y.2.2.1 p) ((uf Γ.2.2.1 Γ.2.1 y.2.2.1 p).2.1 + 1)
                by_cases epn : p = Γ.2.1
                · rw [epn, uf_s]; exact q8
                · rw [uf_o _ _ epn]
                  have hpv := (hV4 p (by omega)).2.1
                  exact (hC4 p (by omega)).keep F9 (by have := hpv.1; omega) (decide_eq_false (by omega)) (decide_eq_false (by omega)) (fun o ho => decide_eq_false (by omega)) (decide_eq_false (by omega)) (decide_eq_false (by omega)) (fun x hx => decide_eq_false (by omega)) (fun x hx => decide_eq_false (by omega)) (fun x hx => decide_eq_false (by omega)) K9 (fun x hx => (hpv.2.2 x hx).2.2.2.1)
              · exact GRV_P hV0 h30 v1 kf (hge.2.2.trans hu1) r9 hw hge.1 hge.2.1
              · show y.2.2.2.2 ≤ nx t n y.2.1
                omega
            · have e6 : pP6 t n Γ.1 y = rF y.2.1 y.2.2.1 y.2.2.2.1 y.2.2.2.2 := by unfold pP6; rw [if_neg (fun z => kd z.2.2)]
              rw [e6] at h
              exact yes rfl (h σ8 F8 r1 (fun z => absurd z Bool.false_ne_true))
          · refine yes (fun z => hw (hb.mp z)) ?_
            have e6 : pP6 t n Γ.1 y = rF y.2.1 y.2.2.1 y.2.2.2.1 y.2.2.2.2 := by unfold pP6; rw [if_neg (fun z => hw z.2.1)]
            rw [e6] at h
            exact h σ8 F8 r1 (fun z => absurd z Bool.false_ne_true)
        · generalize pRs t n Γ.1 33 q7 P Γ.2.2.2.1 Γ.2.2.2.2 = y at h hy s8
          have e6 : pP6 t n Γ.1 y = rF y.2.1 y.2.2.1 y.2.2.2.1 y.2.2.2.2 := by unfold pP6; rw [if_neg (fun z => by rw [hy] at z; exact absurd z.1 Bool.false_ne_true)]
          rw [e6] at h
          exact h σ8 F8 s8 (fun z => absurd z Bool.false_ne_true)
      unfold wX1_readRight
      refine ⟨g, J5.2.2.1, hg, ?_⟩
      have evp : vp_in (nI Γ.2.1) 30 := by simp (disch := omega) only [nI_lit, nI_add, nI_mulE, nI_clampE, nI_eqE, nI_leE, nI_ltE, vp_nIE, true_and, and_true]; omega
      rw [J5.2.2.2.2.2.1, nI_clampE (by omega)]
      have hd5 : ∀ x, (pho P0 s0).2.2.2.2.1 x = false := hd0
      have hr5 : (pho P0 s0).2.1 = 0 := hr0.1
      refine c_take (w := 35) s5 (by omega) (by omega) (fun kd σ6 f6 s6 => ⟨evp, ?_⟩) (fun kd => ⟨evp, ?_⟩)
      · have hgt6 := nx_gt (t := t) (n := n) (q := q5) (by omega)
        have J6 := J5.adv f6 s6 (by omega)
        rw [show vp_nar .boolean (1 : Int32) = (if true then 1 else 0) from by decide]
        refine fe ⟨4, ?_⟩
        have J6' : RJ (ab_I σ6 (g + 8) Γ.2.1 (if true then 1 else 0)) t n g Γ.2.1 Γ.1 (plt (pho P0 s0) true) 1 Γ.2.2.2.2 (nx t n q5) := J6.set ((FM.rf _ σ6).I (decide_eq_true (by omega))) (CPo_lt J6.2.2.2.2.2.2.2.1 hd5) rfl (by omega)
        have F6 : FM (SR g Γ.2.1) σ (ab_I σ6 (g + 8) Γ.2.1 (if true then 1 else 0)) := (F5.tr (FS' f6)).I (decide_eq_true (by omega))
        have K6 : Kc σ (ab_I σ6 (g + 8) Γ.2.1 (if true then 1 else 0)) g Γ.2.2.2.2 := (K5.tr (KS f6) (Nat.le_refl _)).tr (Kc.fm (lc := Γ.2.2.2.2) (S := fun a i => decide (a = g + 8)) ((FM.rf _ σ6).I (decide_eq_true rfl)) (fun i => decide_eq_false (by omega)) (fun i => decide_eq_false (by omega))) (Nat.le_refl _)
        have e3 : pP3 t n Γ.1 q5 (pho P0 s0) Γ.2.2.2.1 Γ.2.2.2.2 = pP4 t n Γ.1 Γ.2.2.2.1 Γ.2.2.2.2 (pOcs t n Γ.1 3 (nx t n q5) (plt (pho P0 s0) true)) := by rw [pP3, if_pos kd]
        have hr6 : (plt (pho P0 s0) true).2.1 = 0 := hr5
        have := c_right (E := E) (lc := Γ.2.2.2.2) (Q := fun u25 σ24 => ((u25 = 0) → Q (0 : Int32) σ24) ∧ (¬ (u25 = 0) → wX6_take (123 : Int32) (fun u27 σ26 => ((¬ u27 = 0) → ∃ n, wX1_readProduction_l118 Q E (wX1_readProduction_j150 Q E) n (0 : Int32) σ26) ∧ (¬ (¬ u27 = 0) → Q (0 : Int32) σ26)) E σ24)) σ 3 (nx t n q5) (plt (pho P0 s0) true) _ (by rw [hr6]) (by rw [hr6]; exact J6') hO5 F6 K6 (fun σ7 F7 K7 s7 x7 => right _ e3.symm ((pOcs_1 t n Γ.1 3 _ _).trans hr0.2.2) σ7 F7 K7 s7 x7)
        rw [hr6] at this
        exact this
      · rw [show vp_nar .boolean (0 : Int32) = (if false then 1 else 0) from by decide]
        refine fe ⟨4, ?_⟩
        have ep : plt (pho P0 s0) false = pho P0 s0 := by rw [← hp0]; rfl
        have J6' : RJ (ab_I σ5 (g + 8) Γ.2.1 (if false then 1 else 0)) t n g Γ.2.1 Γ.1 (plt (pho P0 s0) false) 1 Γ.2.2.2.2 q5 := J5.set ((FM.rf _ σ5).I (decide_eq_true (by omega))) (CPo_lt J5.2.2.2.2.2.2.2.1 hd5) rfl (by omega)
        rw [ep] at J6'
        have F6 : FM (SR g Γ.2.1) σ (ab_I σ5 (g + 8) Γ.2.1 (if false then 1 else 0)) := F5.I (decide_eq_true (by omega))
        have K6 : Kc σ (ab_I σ5 (g + 8) Γ.2.1 (if false then 1 else 0)) g Γ.2.2.2.2 := K5.tr (Kc.fm (lc := Γ.2.2.2.2) (S := fun a i => decide (a = g + 8)) ((FM.rf _ σ5).I (decide_eq_true rfl)) (fun i => decide_eq_false (by omega)) (fun i => decide_eq_false (by omega))) (Nat.le_refl _)
        have e3 : pP3 t n Γ.1 q5 (pho P0 s0) Γ.2.2.2.1 Γ.2.2.2.2 = pP4 t n Γ.1 Γ.2.2.2.1 Γ.2.2.2.2 (pOcs t n Γ.1 3 q5 (pho P0 s0)) := by rw [pP3, if_neg kd]
        have := c_right (E := E) (lc := Γ.2.2.2.2) (Q := fun u25 σ24 => ((u25 = 0) → Q (0 : Int32) σ24) ∧ (¬ (u25 = 0) → wX6_take (123 : Int32) (fun u27 σ26 => ((¬ u27 = 0) → ∃ n, wX1_readProduction_l118 Q E (wX1_readProduction_j150 Q E) n (0 : Int32) σ26) ∧ (¬ (¬ u27 = 0) → Q (0 : Int32) σ26)) E σ24)) σ 3 q5 (pho P0 s0) _ (by rw [hr5]) (by rw [hr5]; exact J6') hO5 F6 K6 (fun σ7 F7 K7 s7 x7 => right _ e3.symm ((pOcs_1 t n Γ.1 3 _ _).trans hr0.2.2) σ7 F7 K7 s7 x7)
        rw [hr5] at this
        exact this
    · have hne := fiI_ne kf (by omega)
      have ep : pPr t n Γ q = rF q (pnew []) Γ.2.2.2.1 Γ.2.2.2.2 := by unfold pPr; rw [if_neg (fun z => kf z.2)]
      rw [ep] at h
      exact no hne.1 (h σ F0 hS (fun z => absurd z Bool.false_ne_true))
  · have ep : pPr t n Γ q = rF q (pnew []) Γ.2.2.2.1 Γ.2.2.2.2 := by unfold pPr; rw [if_neg (fun z => k2 z.1)]
    rw [ep] at h
    exact yes (by simp (disch := omega) only [nI_lit, nI_add, nI_mulE, nI_clampE, nI_eqE, nI_leE, nI_ltE, vp_nIE, true_and, and_true]; exact k2) (h σ F0 hS (fun z => absurd z Bool.false_ne_true))
end CL
