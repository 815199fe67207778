/-! ===== rules, the class's ===== -/
theorem bm_or {f : Nat → Bool} {s : Nat} (hs : s < 32) : bm f 32 ||| ((1 : Int32) <<< (nI s &&& 31)) = bm (uf f s true) 32 := by
  apply b_ext
  intro i hi
  have e1 : bt 1 (i - s) = decide (i - s = 0) := (by decide +kernel : ∀ j, j < 32 → bt 1 j = decide (j = 0)) _ (by omega)
  rw [b_or, bm_bt (by omega) hi, bm_bt (by omega) hi, b_shl s hs _ hi, e1, decide_eq_true hi, Bool.true_and, Bool.true_and]
  by_cases e : i = s
  · subst e; rw [uf_s]; simp
  · rw [uf_o _ _ e]
    have : (decide (s ≤ i) && decide (i - s = 0)) = false := by simp; omega
    rw [this, Bool.or_false]
/-- cells that the reading of production p changes; its code is told on its own -/
def SR (g p : Nat) : Nat → Nat → Bool := fun a i => decide (a = 3 ∨ (a = 7 ∧ (i = 2 ∨ i = 3)) ∨ (a = g ∧ (i = 5 ∨ i = 14)) ∨ ((a = g + 5 ∨ a = g + 6 ∨ a = g + 8 ∨ a = g + 9) ∧ i = p) ∨ (a = g + 7 ∧ p * 4 ≤ i ∧ i < p * 4 + 4) ∨ ((a = g + 10 ∨ a = g + 11 ∨ a = g + 12) ∧ p * 32 ≤ i ∧ i < p * 32 + 32) ∨ a = g + 13 ∨ a = g + 14)
def Kc (σ σ' : ab_S) (g lc : Nat) : Prop := ∀ i, i < lc → σ'.2.1 (g + 13) i = σ.2.1 (g + 13) i ∧ σ'.2.1 (g + 14) i = σ.2.1 (g + 14) i
theorem Kc.rf (σ : ab_S) (g lc : Nat) : Kc σ σ g lc := fun _ _ => ⟨rfl, rfl⟩
theorem Kc.tr {σ τ υ : ab_S} {g a b : Nat} (h : Kc σ τ g a) (k : Kc τ υ g b) (hab : a ≤ b) : Kc σ υ g a := fun i hi => ⟨(k i (by omega)).1.trans (h i hi).1, (k i (by omega)).2.trans (h i hi).2⟩
theorem Kc.fm {S : Nat → Nat → Bool} {σ σ' : ab_S} {g lc : Nat} (f : FM S σ σ') (s3 : ∀ i, S (g + 13) i = false) (s4 : ∀ i, S (g + 14) i = false) : Kc σ σ' g lc := fun i _ => ⟨f.1 _ _ (s3 i), f.1 _ _ (s4 i)⟩
theorem S3_SR {g p : Nat} : ∀ a i, SR g p a i = false → S3 a = false := by
  intro a i h
  have h := of_decide_eq_false h
  simp [S3]; omega
theorem SE_SR {g p : Nat} : ∀ a i, SR g p a i = false → SE g a i = false := by
  intro a i h
  have h := of_decide_eq_false h
  simp [SE]; omega
def RuAt (σ : ab_S) (g at' : Nat) (r : RUL) : Prop := σ.2.1 (g + 11) at' = nI r.2.2.1 ∧ σ.2.1 (g + 12) at' = nI (r.2.2.1 + r.2.2.2.length) ∧ σ.2.1 (g + 10) at' = nmF 0 r.2.2.2 ∧ CodeAt σ g r.2.2.1 r.2.2.2
/-- production p as far as it is read, k of its occurrences -/
def CPo (σ : ab_S) (g p : Nat) (P : PRO) (k : Nat) : Prop := σ.2.2.1 (g + 5) p = pkL P.1 0 ∧ σ.2.1 (g + 6) p = nI P.2.1 ∧ (∀ o, o < k → σ.2.1 (g + 7) (p * 4 + o) = nI (P.2.2.1 o)) ∧ σ.2.1 (g + 8) p = (if P.2.2.2.1 then 1 else 0) ∧ σ.2.1 (g + 9) p = bm P.2.2.2.2.1 32 ∧ ∀ x, x < 32 → (P.2.2.2.2.1 x = true → RuAt σ g (p * 32 + x) (P.2.2.2.2.2 x)) ∧ (P.2.2.2.2.1 x = false → σ.2.1 (g + 10) (p * 32 + x) = 0)
theorem CPo.keep {S : Nat → Nat → Bool} {σ σ' : ab_S} {g p : Nat} {P : PRO} {k lc : Nat} (h : CPo σ g p P k) (f : FM S σ σ') (hk : k ≤ 4) (s5 : S (g + 5) p = false) (s6 : S (g + 6) p = false) (s7 : ∀ o, o < 4 → S (g + 7) (p * 4 + o) = false) (s8 : S (g + 8) p = false) (s9 : S (g + 9) p = false) (s10 : ∀ x, x < 32 → S (g + 10) (p * 32 + x) = false) (s11 : ∀ x, x < 32 → S (g + 11) (p * 32 + x) = false) (s12 : ∀ x, x < 32 → S (g + 12) (p * 32 + x) = false) (hc : Kc σ σ' g lc) (hl : ∀ x, P.2.2.2.2.1 x = true → (P.2.2.2.2.2 x).2.2.1 + (P.2.2.2.2.2 x).2.2.2.length ≤ lc) : CPo σ' g p P k := by
  obtain ⟨h1, h2, h3, h4, h5, h6⟩ := h
  refine ⟨by rw [f.2.1 _ _ s5]; exact h1, by rw [f.1 _ _ s6]; exact h2, fun o ho => by rw [f.1 _ _ (s7 o (by omega))]; exact h3 o ho, by rw [f.1 _ _ s8]; exact h4, by rw [f.1 _ _ s9]; exact h5, fun x hx => ⟨fun hd => ?_, fun hd => by rw [f.1 _ _ (s10 x hx)]; exact (h6 x hx).2 hd⟩⟩
  obtain ⟨a, b, c, d⟩ := (h6 x hx).1 hd
  exact ⟨by rw [f.1 _ _ (s11 x hx)]; exact a, by rw [f.1 _ _ (s12 x hx)]; exact b, by rw [f.1 _ _ (s10 x hx)]; exact c, d.keep (hl x hd) hc⟩
def RI (σ : ab_S) (t : Nat → Nat) (n g p : Nat) (G : SYT) (P : PRO) (lm lc q : Nat) : Prop := CS σ t n q ∧ isG g ∧ σ.2.2.2 7 1 = some g ∧ CSy σ g G ∧ GV G ∧ σ.2.1 7 2 = nI p ∧ p < 30 ∧ CPo σ g p P (P.2.1 + 1) ∧ PV G P lm lc ∧ σ.2.1 g 14 = nI lc ∧ lc ≤ q ∧ σ.2.1 g 5 = nI (p + 1)
section CL
variable {σ : ab_S} {t : Nat → Nat} {n q g p lm lc : Nat} {G : SYT} {P : PRO} {E : String → ab_S → Prop}
theorem RI.xi (h : RI σ t n g p G P lm lc q) : XI σ t n g p (kOf G P) q lc := by
  obtain ⟨h1, h2, h3, h4, h5, h6, h7, h8, h9, h10, h11, h12⟩ := h
  obtain ⟨a1, a2, a3, a4, a5, a6⟩ := h8
  exact ⟨h1, h2, h3, h4, h5, ⟨h6, h7, h9.1, a2, fun o ho => ⟨a3 o (by have : o ≤ P.2.1 := ho; omega), h9.2.1 o ho⟩, a4, a5⟩, h10, h11⟩
/-- a step of the scanner -/
theorem RI.adv {σ' : ab_S} {q' : Nat} (h : RI σ t n g p G P lm lc q) (f : Fr S3 σ σ') (hS : CS σ' t n q') (hq : q ≤ q') : RI σ' t n g p G P lm lc q' := by
  obtain ⟨h1, h2, h3, h4, h5, h6, h7, h8, h9, h10, h11, h12⟩ := h
  have F := FrFM f
  have e : ∀ k, S3 (g + k) = false := fun k => S3_g h2
  refine ⟨hS, h2, refG f rfl h3, h4.adv h2 f, h5, by rw [f.1 7 rfl]; exact h6, h7, h8.keep (lc := lc) F (by have := h9.1; omega) (e 5) (e 6) (fun o _ => e 7) (e 8) (e 9) (fun x _ => e 10) (fun x _ => e 11) (fun x _ => e 12) (Kc.fm F (fun _ => e 13) (fun _ => e 14)) (fun x hx => (h9.2.2 x hx).2.2.2.1), h9, by rw [show σ'.2.1 g = σ.2.1 g from f.1 g (S3_g (k := 0) h2)]; exact h10, by omega, by rw [show σ'.2.1 g = σ.2.1 g from f.1 g (S3_g (k := 0) h2)]; exact h12⟩
theorem c_rule (hn : n ≤ 2400) (hR : RI σ t n g p G P lm lc q) {Q : Int32 → ab_S → Prop} (h : ∀ σ', FM (SR g p) σ σ' → CS σ' t n (pRu t n G P lm lc q).2.1 → ((pRu t n G P lm lc q).1 = true → Kc σ σ' g lc ∧ RI σ' t n g p G (pRu t n G P lm lc q).2.2.1 (pRu t n G P lm lc q).2.2.2.1 (pRu t n G P lm lc q).2.2.2.2 (pRu t n G P lm lc q).2.1) → Q (if (pRu t n G P lm lc q).1 then 1 else 0) σ') : wX1_readRule Q E σ := by
  have hI := hR.xi
  have hR0 := hR
  obtain ⟨h1, hg, h3, h4, h5, h6, h7, h8, h9, h10, h11, h12⟩ := hR
  have hgb := isG_b hg
  unfold wX1_readRule
  refine c_slot true hI (fun σ1 f1 s1 => ?_)
  unfold pRu at h
  have hsl := pSl_t (t := t) (n := n) (q := q) (G := G) (P := P) h5 ⟨h9.1, h9.2.1⟩
  have hsg := pSl_gt (t := t) (n := n) (q := q) (K := kOf G P) (d := true)
  generalize pSl t n (kOf G P) true q = z at h s1 hsl hsg ⊢
  obtain ⟨z1, z2, z3⟩ := z
  have hslb : z1 = true → z3 < 32 ∧ dfn G P z3 = true ∧ P.2.2.2.2.1 z3 = false := hsl
  have hsgb : z1 = true → q < z2 := hsg
  have s1b : CS σ1 t n z2 := s1
  have F1 : FM (SR g p) σ σ1 := (FrFM f1).mono (fun a i y => S3_SR a i y)
  cases z1
  · refine yes rfl ?_
    have e : pRu1 t n G P lm lc (false, z2, z3) = rF z2 P lm lc := by unfold pRu1; rw [if_neg (fun y => absurd y.1 Bool.false_ne_true)]
    rw [e] at h
    exact h σ1 F1 s1b (fun y => absurd y Bool.false_ne_true)
  obtain ⟨b32, bd, bf⟩ := hslb rfl
  have bq := hsgb rfl
  have hne : ¬ (if (true = true) then nI z3 else (-1 : Int32)) = -1 := by
    rw [if_pos rfl]
    exact fun y => nI_pos (n := z3) (by omega) (by rw [y]; decide)
  refine no hne ?_
  refine c_take (w := 61) s1b (by omega) (by omega) (fun kd σ2 f2 s2 => ?_) (fun kd => ?_)
  · refine yes (by decide) ?_
    have hgt := nx_gt (t := t) (n := n) (q := z2) (by omega)
    have R2 := (hR0.adv (f1.tr f2) s2 (by omega))
    have F2 : FM (SR g p) σ σ2 := (FrFM (f1.tr f2)).mono (fun a i y => S3_SR a i y)
    have K2 : Kc σ σ2 g lc := Kc.fm (FrFM (f1.tr f2)) (fun i => S3_g hg) (fun i => S3_g hg)
    obtain ⟨r1, r2, r3, r4, r5, r6, r7, r8, r9, r10, r11, r12⟩ := R2
    have e32 : nI p * 32 + nI z3 = nI (p * 32 + z3) := by show nI p * nI 32 + _ = _; rw [nI_mulE, nI_add]
    have ev : vp_in (nI (p * 32 + z3)) 960 := by simp (disch := omega) only [nI_lit, nI_add, nI_mulE, nI_clampE, nI_eqE, nI_leE, nI_ltE, vp_nIE, true_and, and_true]; omega
    have ec : (nI (p * 32 + z3)).toNatClampNeg = p * 32 + z3 := nI_clampE (by omega)
    have evp : vp_in (nI p) 30 := by simp (disch := omega) only [nI_lit, nI_add, nI_mulE, nI_clampE, nI_eqE, nI_leE, nI_ltE, vp_nIE, true_and, and_true]; omega
    have ecp : (nI p).toNatClampNeg = p := nI_clampE (by omega)
    rw [if_pos rfl, r6, e32, ecp]
    refine fe ⟨g, r3, hg, evp, evp, ?_⟩
    rw [r8.2.2.2.2.1, bm_or b32]
    refine fe ?_
    generalize hσ3 : ab_I σ2 (g + 9) p (bm (uf P.2.2.2.2.1 z3 true) 32) = σ3
    have w3 : σ3.2.2.2 7 1 = some g := by rw [← hσ3]; exact r3
    refine ⟨g, w3, hg, g, w3, hg, ev, ?_⟩
    rw [show σ3.2.1 g 14 = nI lc by rw [← hσ3]; simp [gI_I]; exact r10, ec]
    refine fe (fe ?_)
    generalize hσ4 : ab_I (ab_I σ3 (g + 11) (p * 32 + z3) (nI lc)) 7 3 0 = σ4
    have F4 : FM (fun a i => decide ((a = 7 ∧ i = 3) ∨ (a = g + 9 ∧ i = p) ∨ (a = g + 11 ∧ i = p * 32 + z3))) σ2 σ4 := by
      rw [← hσ4, ← hσ3]
      exact (((FM.rf _ σ2).I (by simp)).I (by simp)).I (by simp)
    have S4 : CS σ4 t n (nx t n z2) := r1.fm F4 (fun i => decide_eq_false (by omega)) (fun i => decide_eq_false (by omega)) (fun i => decide_eq_false (by omega)) (fun i => decide_eq_false (by omega))
    have v9 : σ4.2.1 (g + 9) p = bm (uf P.2.2.2.2.1 z3 true) 32 := by
      rw [← hσ4, ← hσ3, gI_I, if_neg (by omega), gI_I, if_neg (by omega), gI_I, if_pos rfl, if_pos rfl]
    have v11 : σ4.2.1 (g + 11) (p * 32 + z3) = nI lc := by
      rw [← hσ4, gI_I, if_neg (by omega), gI_I, if_pos rfl, if_pos rfl]
    have v3 : σ4.2.1 7 3 = 0 := by rw [← hσ4, gI_I, if_pos rfl, if_pos rfl]
    have sn : ∀ a i, (a ≠ 7 ∧ a ≠ g + 9 ∧ a ≠ g + 11) → (fun a i => decide ((a = 7 ∧ i = 3) ∨ (a = g + 9 ∧ i = p) ∨ (a = g + 11 ∧ i = p * 32 + z3))) a i = false := fun a i y => decide_eq_false (by omega)
    have I4 : XI σ4 t n g p (kOf G (pdf P z3)) (nx t n z2) lc := by
      refine ⟨S4, hg, by rw [F4.2.2 7 1 (decide_eq_false (by omega))]; exact r3, r4.fm F4 (sn _ _ (by omega)) (fun i => sn _ _ (by omega)) (fun i => sn _ _ (by omega)) (fun i => sn _ _ (by omega)) (fun i => sn _ _ (by omega)), r5, ⟨by rw [F4.1 7 2 (decide_eq_false (by omega))]; exact r6, r7, r9.1, by rw [F4.1 _ _ (sn _ _ (by omega))]; exact r8.2.1, fun o ho => ⟨by rw [F4.1 _ _ (sn _ _ (by omega))]; exact r8.2.2.1 o (by have : o ≤ P.2.1 := ho; omega), r9.2.1 o ho⟩, by rw [F4.1 _ _ (sn _ _ (by omega))]; exact r8.2.2.2.1, v9⟩, by rw [F4.1 _ _ (sn _ _ (by omega))]; exact r10, r11⟩
    refine ⟨60, Nat.le_refl _, ?_⟩
    have hrec := c_rec (t := t) (n := n) (g := g) (p := p) (K := kOf G (pdf P z3)) (E := E) hn 60 0 0 (by omega) (by omega) (by decide)
    refine hrec (nx t n z2) lc σ4 _ I4 (fun y => absurd y (by omega)) (fun σ5 x5 => ?_)
    have hcr := pX_CR t n (kOf G (pdf P z3)) r5 r9.2.1 60 0 0 (nx t n z2) (by omega)
    have hln := pX_len t n (kOf G (pdf P z3)) 60 0 0 (nx t n z2) (fun y => absurd y (by omega))
    have e : pRu1 t n G P lm lc (true, z2, z3) = pRu2 t n P lm lc z3 (pX t n (kOf G (pdf P z3)) 60 0 0 (nx t n z2)) := by unfold pRu1; rw [if_pos ⟨rfl, kd⟩]
    rw [e] at h
    generalize pX t n (kOf G (pdf P z3)) 60 0 0 (nx t n z2) = r at h x5 hcr hln ⊢
    obtain ⟨m5, s5, d5⟩ := x5
    have F5 : FM (SR g p) σ σ5 := (F2.tr (F4.mono (fun a i y => by have y := of_decide_eq_false y; exact decide_eq_false (by omega)))).tr (m5.mono (fun a i y => SE_SR a i y))
    have w5 : σ5.2.2.2 7 1 = some g := by rw [m5.2.2 7 1 (by simp [SE] <;> omega)]; exact I4.2.2.1
    cases hr : r.1
    · have e2 : pRu2 t n P lm lc z3 r = rF r.2.1 P lm lc := by unfold pRu2; rw [if_neg (fun y => by rw [hr] at y; exact absurd y.1 Bool.false_ne_true)]
      rw [e2] at h
      exact no (fun y => y rfl) (h σ5 F5 s5 (fun y => absurd y Bool.false_ne_true))
    · obtain ⟨d1, d2, d3, d4⟩ := d5 hr
      obtain ⟨l1, l2, l3⟩ := hln hr
      refine yes (by decide) ⟨g, w5, hg, g, w5, hg, ev, ?_⟩
      rw [d1]
      refine fe ⟨g, w5, hg, ev, ?_⟩
      rw [show (ab_I σ5 (g + 12) (p * 32 + z3) (nI (lc + r.2.2.2.length))).2.1 7 3 = nmF 0 r.2.2.2 by rw [gI_I, if_neg (by omega), d4, v3]]
      refine fe ?_
      generalize hσ6 : ab_I (ab_I σ5 (g + 12) (p * 32 + z3) (nI (lc + r.2.2.2.length))) (g + 10) (p * 32 + z3) (nmF 0 r.2.2.2) = σ6
      have F56 : FM (fun a i => decide ((a = g + 12 ∨ a = g + 10) ∧ i = p * 32 + z3)) σ5 σ6 := by
        rw [← hσ6]; exact ((FM.rf _ σ5).I (by simp)).I (by simp)
      have v12 : σ6.2.1 (g + 12) (p * 32 + z3) = nI (lc + r.2.2.2.length) := by rw [← hσ6, gI_I, if_neg (by omega), gI_I, if_pos rfl, if_pos rfl]
      have v10 : σ6.2.1 (g + 10) (p * 32 + z3) = nmF 0 r.2.2.2 := by rw [← hσ6, gI_I, if_pos rfl, if_pos rfl]
      have v9' : σ6.2.1 (g + 9) p = bm (uf P.2.2.2.2.1 z3 true) 32 := by rw [F56.1 _ _ (decide_eq_false (by omega)), m5.1 _ _ (by simp [SE] <;> omega)]; exact v9
      have v11' : σ6.2.1 (g + 11) (p * 32 + z3) = nI lc := by rw [F56.1 _ _ (decide_eq_false (by omega)), m5.1 _ _ (by simp [SE] <;> omega)]; exact v11
      have S6 : CS σ6 t n r.2.1 := s5.fm F56 (fun i => decide_eq_false (by omega)) (fun i => decide_eq_false (by omega)) (fun i => decide_eq_false (by omega)) (fun i => decide_eq_false (by omega))
      have F26 : FM (fun a i => decide ((a = 7 ∧ i = 3) ∨ (a = g + 9 ∧ i = p) ∨ ((a = g + 10 ∨ a = g + 11 ∨ a = g + 12) ∧ i = p * 32 + z3) ∨ a = 3 ∨ (a = g ∧ i = 14) ∨ a = g + 13 ∨ a = g + 14)) σ2 σ6 := by
        refine ((F4.mono ?_).tr (m5.mono ?_)).tr (F56.mono ?_)
        · intro a i y; have y := of_decide_eq_false y; exact decide_eq_false (by omega)
        · intro a i y; have y := of_decide_eq_false y; simp [SE]; omega
        · intro a i y; have y := of_decide_eq_false y; exact decide_eq_false (by omega)
      have K26 : Kc σ2 σ6 g lc := ((Kc.fm F4 (fun i => decide_eq_false (by omega)) (fun i => decide_eq_false (by omega))).tr d3 (Nat.le_refl _)).tr (Kc.fm (lc := lc) F56 (fun i => decide_eq_false (by omega)) (fun i => decide_eq_false (by omega))) (Nat.le_refl _)
      have F6 : FM (SR g p) σ σ6 := F2.tr (F26.mono (fun a i y => by have y := of_decide_eq_false y; exact decide_eq_false (by omega)))
      have R6 : RI σ6 t n g p G (prl (pdf P z3) z3 (lm, r.2.2.1, lc, r.2.2.2)) (lm + r.2.2.1.length) (lc + r.2.2.2.length) r.2.1 := by
        refine ⟨S6, hg, ?_, r4.fm F26 (decide_eq_false (by omega)) (fun i => decide_eq_false (by omega)) (fun i => decide_eq_false (by omega)) (fun i => decide_eq_false (by omega)) (fun i => decide_eq_false (by omega)), r5, ?_, r7, ⟨?_, ?_, fun o ho => ?_, ?_, v9', fun x hx => ⟨fun hd => ?_, fun hd => ?_⟩⟩, PV_rule r9 b32 bd (by decide) (hcr hr), ?_, by omega, ?_⟩
        · rw [F26.2.2 7 1 (decide_eq_false (by omega))]; exact r3
        · rw [F26.1 7 2 (decide_eq_false (by omega))]; exact r6
        · rw [F26.2.1 _ _ (decide_eq_false (by omega))]; exact r8.1
        · rw [F26.1 _ _ (decide_eq_false (by omega))]; exact r8.2.1
        · rw [F26.1 _ _ (decide_eq_false (by omega))]; exact r8.2.2.1 o ho
        · rw [F26.1 _ _ (decide_eq_false (by omega))]; exact r8.2.2.2.1
        · have hd : uf P.2.2.2.2.1 z3 true x = true := hd
          show RuAt σ6 g (p * 32 + x) (uf P.2.2.2.2.2 z3 (lm, r.2.2.1, lc, r.2.2.2) x)
          by_cases ex : x = z3
          · subst ex
            rw [uf_s]
            exact ⟨v11', v12, v10, fun i hi => by rw [F56.1 _ _ (decide_eq_false (by omega)), F56.1 _ _ (decide_eq_false (by omega))]; exact d2 i hi⟩
          · rw [uf_o _ _ ex] at hd ⊢
            obtain ⟨a, b, c, d⟩ := (r8.2.2.2.2.2 x hx).1 hd
            exact ⟨by rw [F26.1 _ _ (decide_eq_false (by omega))]; exact a, by rw [F26.1 _ _ (decide_eq_false (by omega))]; exact b, by rw [F26.1 _ _ (decide_eq_false (by omega))]; exact c, d.keep (r9.2.2 x hd).2.2.2.1 K26⟩
        · have hd : uf P.2.2.2.2.1 z3 true x = false := hd
          have ex : x ≠ z3 := fun y => by rw [y, uf_s] at hd; exact absurd hd (by decide)
          rw [uf_o _ _ ex] at hd
          rw [F26.1 _ _ (decide_eq_false (by omega))]
          exact (r8.2.2.2.2.2 x hx).2 hd
        · rw [F56.1 _ _ (decide_eq_false (by omega))]; exact d1
        · rw [F26.1 _ _ (decide_eq_false (by omega))]; exact r12
      refine c_take (w := 59) S6 (by omega) (by omega) (fun k59 σ7 f7 s7 => ?_) (fun k59 => ?_)
      · have hgt2 := nx_gt (t := t) (n := n) (q := r.2.1) (by omega)
        have e2 : pRu2 t n P lm lc z3 r = (true, nx t n r.2.1, prl (pdf P z3) z3 (lm, r.2.2.1, lc, r.2.2.2), lm + r.2.2.1.length, lc + r.2.2.2.length) := by unfold pRu2; rw [if_pos ⟨hr, k59⟩]
        rw [e2] at h
        refine ⟨Or.inr rfl, h σ7 (F6.tr ((FrFM f7).mono (fun a i y => S3_SR a i y))) s7 (fun _ => ⟨?_, R6.adv f7 s7 (by show r.2.1 ≤ nx t n r.2.1; omega)⟩)⟩
        exact (K2.tr K26 (Nat.le_refl _)).tr (Kc.fm (lc := lc) (FrFM f7) (fun i => S3_g hg) (fun i => S3_g hg)) (Nat.le_refl _)
      · have e2 : pRu2 t n P lm lc z3 r = rF r.2.1 P lm lc := by unfold pRu2; rw [if_neg (fun y => k59 y.2)]
        rw [e2] at h
        exact ⟨Or.inl rfl, h σ6 F6 S6 (fun y => absurd y Bool.false_ne_true)⟩
  · refine no (fun y => y rfl) ?_
    have e : pRu1 t n G P lm lc (true, z2, z3) = rF z2 P lm lc := by unfold pRu1; rw [if_neg (fun y => kd y.2)]
    rw [e] at h
    exact h σ1 F1 s1b (fun y => absurd y Bool.false_ne_true)
/-- rules -/
theorem c_rules (hn : n ≤ 2400) {Q : Int32 → ab_S → Prop} {K150 : ab_S → Prop} {lc0 : Nat} (σ0 : ab_S) : ∀ f i q P lm lc σ, i + f = 33 → RI σ t n g p G P lm lc q → FM (SR g p) σ0 σ → Kc σ0 σ g lc0 → lc0 ≤ lc → ((pRs t n G f q P lm lc).1 = true → ∀ σ', FM (SR g p) σ0 σ' → Kc σ0 σ' g lc0 → RI σ' t n g p G (pRs t n G f q P lm lc).2.2.1 (pRs t n G f q P lm lc).2.2.2.1 (pRs t n G f q P lm lc).2.2.2.2 (pRs t n G f q P lm lc).2.1 → K150 σ') → ((pRs t n G f q P lm lc).1 = false → ∀ σ', FM (SR g p) σ0 σ' → CS σ' t n (pRs t n G f q P lm lc).2.1 → Q 0 σ') → wX1_readProduction_l118 Q E K150 (f + 1) (nI i) σ := by
  intro f
  induction f with
  | zero =>
    intro i q P lm lc σ hi hR hF hK hl h1 h0
    exact yes (by simp (disch := omega) only [nI_lit, nI_add, nI_mulE, nI_clampE, nI_eqE, nI_leE, nI_ltE, vp_nIE, true_and, and_true]; omega) (h1 rfl σ hF hK hR)
  | succ f ih =>
    intro i q P lm lc σ hi hR hF hK hl h1 h0
    have hk := tkK_lt (t := t) (n := n) (q := q)
    show wX1_readProduction_l118_b Q E K150 (wX1_readProduction_l118 Q E K150 (f + 1)) (nI i) σ
    unfold wX1_readProduction_l118_b
    refine no (by simp (disch := omega) only [nI_lit, nI_add, nI_mulE, nI_clampE, nI_eqE, nI_leE, nI_ltE, vp_nIE, true_and, and_true]; omega) ?_
    rw [hR.1.kind]
    by_cases k3 : tkK t n q = 3
    · refine no (by rw [k3]; exact fun z => z rfl) ?_
      rw [pRs, if_pos k3] at h1 h0
      refine c_rule (lm := lm) (lc := lc) hn hR (fun σ1 f1 s1 x1 => ?_)
      cases hu : (pRu t n G P lm lc q).1
      · rw [if_neg (by rw [hu]; decide)] at h0
        exact no (fun z => z rfl) (h0 rfl σ1 (hF.tr f1) s1)
      · rw [if_pos hu] at h1 h0
        obtain ⟨y1, y2⟩ := x1 hu
        refine yes (by decide) (fe ?_)
        rw [nI_1]
        have hll : lc ≤ (pRu t n G P lm lc q).2.2.2.2 := by
          unfold pRu pRu1 at hu ⊢
          split at hu
          · unfold pRu2 at hu ⊢
            rename_i hz
            rw [if_pos hz]
            split at hu
            · rename_i hy; rw [if_pos hy]; exact Nat.le_add_right _ _
            · exact absurd hu Bool.false_ne_true
          · exact absurd hu Bool.false_ne_true
        exact ih (i + 1) _ _ _ _ σ1 (by omega) y2 (hF.tr f1) (hK.tr y1 hl) (by omega) h1 h0
    · rw [pRs, if_neg k3] at h1
      exact yes (by simp (disch := omega) only [nI_lit, nI_add, nI_mulE, nI_clampE, nI_eqE, nI_leE, nI_ltE, vp_nIE, true_and, and_true]; exact k3) (h1 rfl σ hF hK hR)
end CL
