/-! ===== rules, the model's ===== -/
def MRu (σ : ab_S) (at' : Nat) (r : RUL) : Prop := σ.2.1 105 at' = nI r.1 ∧ σ.2.1 106 at' = nI (r.1 + r.2.1.length) ∧ MCode σ r.1 r.2.1
def MPo (σ : ab_S) (p : Nat) (P : PRO) (k : Nat) : Prop := (∀ j, j < 8 → σ.2.1 101 (8 * p + j) = nI (P.1.getD j 0)) ∧ σ.2.1 103 p = nI P.2.1 ∧ (∀ o, o < k → σ.2.1 104 (4 * p + o) = nI (P.2.2.1 o)) ∧ σ.2.1 102 p = (if P.2.2.2.1 then 1 else 0) ∧ ∀ x, x < 32 → (P.2.2.2.2.1 x = true → MRu σ (32 * p + x) (P.2.2.2.2.2 x)) ∧ (P.2.2.2.2.1 x = false → σ.2.1 105 (32 * p + x) = -1)
theorem MPo.keep {S : Nat → Nat → Bool} {σ σ' : ab_S} {p : Nat} {P : PRO} {k lm : Nat} (h : MPo σ p P k) (f : FM S σ σ') (hk : k ≤ 4) (s1 : ∀ j, j < 8 → S 101 (8 * p + j) = false) (s3 : S 103 p = false) (s4 : ∀ o, o < 4 → S 104 (4 * p + o) = false) (s2 : S 102 p = false) (s5 : ∀ x, x < 32 → S 105 (32 * p + x) = false) (s6 : ∀ x, x < 32 → S 106 (32 * p + x) = false) (s7 : ∀ i, i < lm → S 107 i = false) (s8 : ∀ i, i < lm → S 108 i = false) (hl : ∀ x, P.2.2.2.2.1 x = true → (P.2.2.2.2.2 x).1 + (P.2.2.2.2.2 x).2.1.length ≤ lm) : MPo σ' p P k := by
  obtain ⟨h1, h2, h3, h4, h5⟩ := h
  refine ⟨fun j hj => by rw [f.1 _ _ (s1 j hj)]; exact h1 j hj, by rw [f.1 _ _ s3]; exact h2, fun o ho => by rw [f.1 _ _ (s4 o (by omega))]; exact h3 o ho, by rw [f.1 _ _ s2]; exact h4, fun x hx => ⟨fun hd => ?_, fun hd => by rw [f.1 _ _ (s5 x hx)]; exact (h5 x hx).2 hd⟩⟩
  obtain ⟨a, b, c⟩ := (h5 x hx).1 hd
  have := hl x hd
  exact ⟨by rw [f.1 _ _ (s5 x hx)]; exact a, by rw [f.1 _ _ (s6 x hx)]; exact b, c.keep (fun i hi => ⟨f.1 _ _ (s7 _ (by omega)), f.1 _ _ (s8 _ (by omega))⟩)⟩
def MI (σ : ab_S) (t : Nat → Nat) (n p : Nat) (G : SYT) (P : PRO) (lm lc q : Nat) : Prop := MS σ t n q ∧ MOk σ ∧ MSy σ G ∧ GV G ∧ p < 30 ∧ MPo σ p P (P.2.1 + 1) ∧ PV G P lm lc ∧ σ.2.1 92 21 = nI lm ∧ lm ≤ q ∧ σ.2.1 92 14 = nI p
/-- cells that the reading of production p changes -/
def SRm (p lm : Nat) : Nat → Nat → Bool := fun a i => decide ((a = 92 ∧ (i = 14 ∨ i = 21 ∨ (40 ≤ i ∧ i ≤ 43) ∨ i = 45 ∨ i = 49 ∨ i = 51)) ∨ (a = 101 ∧ 8 * p ≤ i ∧ i < 8 * p + 8) ∨ ((a = 102 ∨ a = 103) ∧ i = p) ∨ (a = 104 ∧ 4 * p ≤ i ∧ i < 4 * p + 4) ∨ ((a = 105 ∨ a = 106) ∧ 32 * p ≤ i ∧ i < 32 * p + 32) ∨ ((a = 107 ∨ a = 108) ∧ lm ≤ i) ∨ (124 ≤ a ∧ a ≤ 127))
theorem SX_f {L a i : Nat} (h : SX L a i = false) : ¬ ((a = 92 ∧ (i = 21 ∨ (40 ≤ i ∧ i ≤ 43) ∨ i = 45 ∨ i = 49 ∨ i = 51)) ∨ (124 ≤ a ∧ a ≤ 127) ∨ ((a = 107 ∨ a = 108) ∧ L ≤ i)) := by
  intro z
  rcases z with ⟨rfl, z⟩ | z | ⟨z1, z2⟩
  · rcases z with rfl | z | rfl | rfl | rfl
    · exact absurd h (by simp [SX])
    · exact absurd h (by simp [SX, z])
    · exact absurd h (by simp [SX])
    · exact absurd h (by simp [SX])
    · exact absurd h (by simp [SX])
  · exact absurd h (by simp [SX, z])
  · rcases z1 with rfl | rfl
    · exact absurd h (by simp [SX, z2])
    · exact absurd h (by simp [SX, z2])
theorem SX_t {L a i : Nat} (h : ¬ ((a = 92 ∧ (i = 21 ∨ (40 ≤ i ∧ i ≤ 43) ∨ i = 45 ∨ i = 49 ∨ i = 51)) ∨ (124 ≤ a ∧ a ≤ 127) ∨ ((a = 107 ∨ a = 108) ∧ L ≤ i))) : SX L a i = false := by
  cases hs : SX L a i
  · rfl
  · simp [SX] at hs; omega
theorem Sadv_t {a i : Nat} (h : ¬ (a = 92 ∧ 40 ≤ i ∧ i ≤ 43)) : Sadv a i = false := by
  cases hs : Sadv a i
  · rfl
  · simp [Sadv] at hs; omega
theorem SMr_f {a i : Nat} (h : SMr a i = false) : ¬ ((a = 92 ∧ (i = 9 ∨ i = 14 ∨ i = 21 ∨ (40 ≤ i ∧ i ≤ 45) ∨ i = 49 ∨ i = 51)) ∨ (97 ≤ a ∧ a ≤ 108) ∨ (124 ≤ a ∧ a ≤ 127)) := by
  simp [SMr] at h; omega
theorem Sadv_SRm {p lm : Nat} : ∀ a i, SRm p lm a i = false → Sadv a i = false := fun a i h => Sadv_t (by have h := of_decide_eq_false h; omega)
theorem SX_SRm {p lm L : Nat} (hL : lm ≤ L) : ∀ a i, SRm p lm a i = false → SX L a i = false := fun a i h => SX_t (by have h := of_decide_eq_false h; omega)
theorem SRm_SMr {p lm : Nat} : ∀ a i, SMr a i = false → SRm p lm a i = false := fun a i h => decide_eq_false (by have h := SMr_f h; omega)
theorem SX_SMr {L : Nat} : ∀ a i, SMr a i = false → SX L a i = false := fun a i h => SX_t (by have h := SMr_f h; omega)
section ML
variable {σ : ab_S} {t : Nat → Nat} {n q p lm lc : Nat} {G : SYT} {P : PRO} {E : String → ab_S → Prop}
theorem MI.ctx (h : MI σ t n p G P lm lc q) : MCtx σ t n p (kOf G P) := by
  obtain ⟨h1, h2, h3, h4, h5, h6, h7, h8, h9, h10⟩ := h
  have hn := h1.1.1
  have hq := h1.2.1
  refine ⟨h2, h3, h4, ⟨h5, h7.1, h6.2.1, fun o ho => ⟨h6.2.2.1 o (by have : o ≤ P.2.1 := ho; omega), h7.2.1 o ho⟩, h6.2.2.2.1, fun x hx => ?_⟩, hn⟩
  show _ ↔ P.2.2.2.2.1 x = true
  cases hd : P.2.2.2.2.1 x
  · rw [(h6.2.2.2.2 x hx).2 hd]
    exact ⟨fun z => absurd z (by decide), fun z => absurd z Bool.false_ne_true⟩
  · rw [((h6.2.2.2.2 x hx).1 hd).1]
    have := (h7.2.2 x hd).2.2.1
    exact ⟨fun _ => rfl, fun _ => by show nI 0 ≤ nI _; simp (disch := omega) only [nI_lit, nI_add, nI_mulE, nI_clampE, nI_eqE, nI_leE, nI_ltE, vp_nIE, true_and, and_true]; omega⟩
theorem MI.adv {σ' : ab_S} {q' : Nat} (h : MI σ t n p G P lm lc q) (f : FM Sadv σ σ') (hS : MS σ' t n q') (hq : q ≤ q') : MI σ' t n p G P lm lc q' := by
  obtain ⟨h1, h2, h3, h4, h5, h6, h7, h8, h9, h10⟩ := h
  exact ⟨hS, h2.fm f rfl, h3.adv f, h4, h5, h6.keep (lm := lm) f (by have := h7.1; omega) (fun _ _ => rfl) rfl (fun _ _ => rfl) rfl (fun _ _ => rfl) (fun _ _ => rfl) (fun _ _ => rfl) (fun _ _ => rfl) (fun x hx => (h7.2.2 x hx).2.2.1), h7, by rw [f.1 92 21 rfl]; exact h8, by omega, by rw [f.1 92 14 rfl]; exact h10⟩
theorem m_rule (hI : MI σ t n p G P lm lc q) (k3 : tkK t n q = 3) {Q : ab_S → Prop} (h1 : (pRu t n G P lm lc q).1 = true → ∀ σ', FM (SRm p lm) σ σ' → MI σ' t n p G (pRu t n G P lm lc q).2.2.1 (pRu t n G P lm lc q).2.2.2.1 (pRu t n G P lm lc q).2.2.2.2 (pRu t n G P lm lc q).2.1 → Q σ') (h0 : (pRu t n G P lm lc q).1 = false → ∀ σ', FM SMr σ σ' → MBad σ' (pRu t n G P lm lc q).2.1 → Q σ') : wX12_rule (nI p) Q E σ := by
  have hI0 := hI
  have hc := hI.ctx
  obtain ⟨i1, i2, i3, i4, i5, i6, i7, i8, i9, i10⟩ := hI
  have hn := i1.1.1
  have hqn := i1.2.1
  have hgt := nx_gt (t := t) (n := n) (q := q) (by omega)
  unfold wX12_rule
  refine yes (i1.nb.mpr k3) ?_
  rw [i1.2.2.1]
  refine fe (m_num i1 k3 (m_next i1 (fun σ1 f1 s1 => ?_)))
  have I1 := hI0.adv f1 s1 (by omega)
  have c1 := I1.ctx
  unfold pRu at h1 h0
  have hsl := pSl_t (t := t) (n := n) (q := q) (G := G) (P := P) i4 ⟨i7.1, i7.2.1⟩
  have hsg := pSl_gt (t := t) (n := n) (q := q) (K := kOf G P) (d := true)
  have hle := pSl_le (t := t) (n := n) (q := q) (K := kOf G P) (d := true) hqn
  have F1 : FM SMr σ σ1 := f1.mono Sadv_SMr
  refine m_attr (K := kOf G P) true s1 hqn I1.2.1 k3 c1.2.1 i4 c1.2.2.2.1 (fun hp σ2 f2 s2 => ?_) (fun hp σ2 f2 => ?_)
  · generalize pSl t n (kOf G P) true q = z at h1 h0 s2 hsl hsg hle hp ⊢
    obtain ⟨z1, z2, z3⟩ := z
    have hpb : z1 = true := hp
    subst hpb
    obtain ⟨b32, bd, bf⟩ := hsl rfl
    have b32 : z3 < 32 := b32
    have bd : dfn G P z3 = true := bd
    have bq : q < z2 := hsg rfl
    have ble : z2 ≤ n := hle
    have s2b : MS σ2 t n z2 := s2
    have f12 := f1.tr f2
    have I2 : MI σ2 t n p G P lm lc z2 := hI0.adv f12 s2b (by omega)
    refine m_need (w := 61) s2b I2.2.1 (by omega) rfl rfl (fun kd σ3 f3 s3 => ?_) (fun kd => ?_)
    · have hgt2 := nx_gt (t := t) (n := n) (q := z2) (by omega)
      have I3 := I2.adv f3 s3 (by omega)
      have f13 := f12.tr f3
      obtain ⟨j1, j2, j3, j4, j5, j6, j7, j8, j9, j10⟩ := I3
      refine m_goodY j2 (yes (by decide) ?_)
      have e32 : (32 : Int32) * nI p + nI z3 = nI (32 * p + z3) := by show nI 32 * nI p + _ = _; rw [nI_mulE, nI_add]
      have ev : vp_in (nI (32 * p + z3)) 992 := by simp (disch := omega) only [nI_lit, nI_add, nI_mulE, nI_clampE, nI_eqE, nI_leE, nI_ltE, vp_nIE, true_and, and_true]; omega
      have ec : (nI (32 * p + z3)).toNatClampNeg = 32 * p + z3 := nI_clampE (by omega)
      show vp_in ((32 : Int32) * nI p + nI z3) 992 ∧ _
      rw [e32, ec, j8]
      refine ⟨ev, fe ?_⟩
      generalize hσ4 : ab_I σ3 105 (32 * p + z3) (nI lm) = σ4
      have F4 : FM (fun a i => decide (a = 105 ∧ i = 32 * p + z3)) σ3 σ4 := by rw [← hσ4]; exact (FM.rf _ σ3).I (by simp)
      have v105 : σ4.2.1 105 (32 * p + z3) = nI lm := by rw [← hσ4, gI_I, if_pos rfl, if_pos rfl]
      have S4 : MS σ4 t n (nx t n z2) := j1.fm F4 rfl (fun _ => rfl) (fun _ => rfl) rfl rfl rfl rfl
      have C4 : MCtx σ4 t n p (kOf G (pdf P z3)) := by
        refine ⟨j2.fm F4 rfl, j3.fm F4 rfl (fun _ => rfl) (fun _ => rfl) (fun _ => rfl) (fun _ => rfl), i4, ⟨i5, j7.1, ?_, fun o ho => ⟨?_, j7.2.1 o ho⟩, ?_, fun x hx => ?_⟩, hn⟩
        · rw [F4.1 103 p rfl]; exact j6.2.1
        · rw [F4.1 104 _ rfl]; exact j6.2.2.1 o (by have : o ≤ P.2.1 := ho; omega)
        · rw [F4.1 102 p rfl]; exact j6.2.2.2.1
        · show _ ↔ uf P.2.2.2.2.1 z3 true x = true
          by_cases ex : x = z3
          · rw [ex, v105, uf_s]
            exact ⟨fun _ => rfl, fun _ => by show nI 0 ≤ nI lm; have := j1.2.1; simp (disch := omega) only [nI_lit, nI_add, nI_mulE, nI_clampE, nI_eqE, nI_leE, nI_ltE, vp_nIE, true_and, and_true]; omega⟩
          · rw [F4.1 105 _ (decide_eq_false (by omega)), uf_o _ _ ex]
            exact ((hI0.adv f13 s3 (by omega)).ctx).2.2.2.1.2.2.2.2.2 x hx
      have e : pRu1 t n G P lm lc (true, z2, z3) = pRu2 t n P lm lc z3 (pX t n (kOf G (pdf P z3)) 60 0 0 (nx t n z2)) := by unfold pRu1; rw [if_pos ⟨rfl, kd⟩]
      rw [e] at h1 h0
      have hcr := pX_CR t n (kOf G (pdf P z3)) i4 i7.2.1 60 0 0 (nx t n z2) (by omega)
      have hln := pX_len t n (kOf G (pdf P z3)) 60 0 0 (nx t n z2) (fun y => absurd y (by omega))
      have F14 : FM SMr σ σ4 := (f13.mono Sadv_SMr).tr (F4.mono (fun a i y => decide_eq_false (by have y := SMr_f y; omega)))
      refine m_expr (L := lm) C4 S4 (by rw [F4.1 92 21 rfl]; exact j8) (by omega) (fun hr σ5 f5 s5 l5 c5 => ?_) (fun hr hv σ5 f5 => ?_)
      · generalize pX t n (kOf G (pdf P z3)) 60 0 0 (nx t n z2) = r at h1 h0 hcr hln hr s5 l5 c5
        obtain ⟨m1, m2, m3⟩ := hln hr
        rw [l5]
        refine ⟨ev, fe ?_⟩
        generalize hσ6 : ab_I σ5 106 (32 * p + z3) (nI (lm + r.2.2.1.length)) = σ6
        have F56 : FM (fun a i => decide (a = 106 ∧ i = 32 * p + z3)) σ5 σ6 := by rw [← hσ6]; exact (FM.rf _ σ5).I (by simp)
        have v106 : σ6.2.1 106 (32 * p + z3) = nI (lm + r.2.2.1.length) := by rw [← hσ6, gI_I, if_pos rfl, if_pos rfl]
        have v105' : σ6.2.1 105 (32 * p + z3) = nI lm := by rw [F56.1 _ _ (decide_eq_false (by omega)), f5.1 _ _ (SX_t (by omega))]; exact v105
        have F36 : FM (fun a i => decide ((a = 105 ∨ a = 106) ∧ i = 32 * p + z3) || SX lm a i) σ3 σ6 := by
          refine ((F4.mono ?_).tr (f5.mono ?_)).tr (F56.mono ?_)
          · intro a i y; have y := of_decide_eq_false (Bool.or_eq_false_iff.mp y).1; exact decide_eq_false (by omega)
          · intro a i y; exact (Bool.or_eq_false_iff.mp y).2
          · intro a i y; have y := of_decide_eq_false (Bool.or_eq_false_iff.mp y).1; exact decide_eq_false (by omega)
        have sF : ∀ a i, ¬ ((a = 105 ∨ a = 106) ∧ i = 32 * p + z3) → ¬ ((a = 92 ∧ (i = 21 ∨ (40 ≤ i ∧ i ≤ 43) ∨ i = 45 ∨ i = 49 ∨ i = 51)) ∨ (124 ≤ a ∧ a ≤ 127) ∨ ((a = 107 ∨ a = 108) ∧ lm ≤ i)) → (fun a i => decide ((a = 105 ∨ a = 106) ∧ i = 32 * p + z3) || SX lm a i) a i = false := fun a i y w => Bool.or_eq_false_iff.mpr ⟨decide_eq_false y, SX_t w⟩
        have S6 : MS σ6 t n r.2.1 := s5.fm F56 rfl (fun _ => rfl) (fun _ => rfl) rfl rfl rfl rfl
        have I6 : MI σ6 t n p G (prl (pdf P z3) z3 (lm, r.2.2.1, lc, r.2.2.2)) (lm + r.2.2.1.length) (lc + r.2.2.2.length) r.2.1 := by
          refine ⟨S6, j2.fm F36 (sF _ _ (by omega) (by omega)), j3.fm F36 (sF _ _ (by omega) (by omega)) (fun i => sF _ _ (by omega) (by omega)) (fun i => sF _ _ (by omega) (by omega)) (fun i => sF _ _ (by omega) (by omega)) (fun i => sF _ _ (by omega) (by omega)), i4, i5, ⟨fun j hj => ?_, ?_, fun o ho => ?_, ?_, fun x hx => ⟨fun hd => ?_, fun hd => ?_⟩⟩, PV_rule j7 b32 bd (by decide) (hcr hr), ?_, by omega, ?_⟩
          · rw [F36.1 _ _ (sF _ _ (by omega) (by omega))]; exact j6.1 j hj
          · rw [F36.1 _ _ (sF _ _ (by omega) (by omega))]; exact j6.2.1
          · rw [F36.1 _ _ (sF _ _ (by omega) (by omega))]; exact j6.2.2.1 o ho
          · rw [F36.1 _ _ (sF _ _ (by omega) (by omega))]; exact j6.2.2.2.1
          · have hd : uf P.2.2.2.2.1 z3 true x = true := hd
            show MRu σ6 (32 * p + x) (uf P.2.2.2.2.2 z3 (lm, r.2.2.1, lc, r.2.2.2) x)
            by_cases ex : x = z3
            · subst ex
              rw [uf_s]
              exact ⟨v105', v106, c5.keep (fun i _ => ⟨F56.1 _ _ rfl, F56.1 _ _ rfl⟩)⟩
            · rw [uf_o _ _ ex] at hd ⊢
              obtain ⟨a, b, c⟩ := (j6.2.2.2.2 x hx).1 hd
              have hlx := (j7.2.2 x hd).2.2.1
              exact ⟨by rw [F36.1 _ _ (sF _ _ (by omega) (by omega))]; exact a, by rw [F36.1 _ _ (sF _ _ (by omega) (by omega))]; exact b, c.keep (fun i hi => ⟨F36.1 _ _ (sF _ _ (by omega) (by omega)), F36.1 _ _ (sF _ _ (by omega) (by omega))⟩)⟩
          · have hd : uf P.2.2.2.2.1 z3 true x = false := hd
            have ex : x ≠ z3 := fun y => by rw [y, uf_s] at hd; exact absurd hd (by decide)
            rw [uf_o _ _ ex] at hd
            rw [F36.1 _ _ (sF _ _ (by omega) (by omega))]
            exact (j6.2.2.2.2 x hx).2 hd
          · rw [F56.1 _ _ rfl]; exact l5
          · rw [F36.1 _ _ (sF _ _ (by omega) (by omega))]; exact j10
        have F6 : FM (SRm p lm) σ σ6 := (f13.mono Sadv_SRm).tr (F36.mono (fun a i y => Bool.or_eq_false_iff.mpr ⟨decide_eq_false (by have y := of_decide_eq_false y; omega), SX_SRm (Nat.le_refl _) a i y⟩))
        refine m_need (w := 59) S6 I6.2.1 (by omega) rfl rfl (fun k59 σ7 f7 s7 => ?_) (fun k59 => ?_)
        · have hgt3 := nx_gt (t := t) (n := n) (q := r.2.1) (by omega)
          have e2 : pRu2 t n P lm lc z3 r = (true, nx t n r.2.1, prl (pdf P z3) z3 (lm, r.2.2.1, lc, r.2.2.2), lm + r.2.2.1.length, lc + r.2.2.2.length) := by unfold pRu2; rw [if_pos ⟨hr, k59⟩]
          rw [e2] at h1
          exact h1 rfl σ7 (F6.tr (f7.mono Sadv_SRm)) (I6.adv f7 s7 (by show r.2.1 ≤ nx t n r.2.1; omega))
        · have e2 : pRu2 t n P lm lc z3 r = rF r.2.1 P lm lc := by unfold pRu2; rw [if_neg (fun y => k59 y.2)]
          rw [e2] at h0
          exact h0 rfl _ ((F6.mono SRm_SMr).I rfl) ⟨by simp [gI_I, rF], by have := S6.2.1; show r.2.1 ≤ 2400; omega⟩
      · generalize pX t n (kOf G (pdf P z3)) 60 0 0 (nx t n z2) = r at h1 h0 hr hv f5
        have e2 : pRu2 t n P lm lc z3 r = rF r.2.1 P lm lc := by unfold pRu2; rw [if_neg (fun y => by rw [hr] at y; exact absurd y.1 Bool.false_ne_true)]
        rw [e2] at h0
        refine ⟨ev, fe ?_⟩
        have F5 : FM SMr σ (ab_I σ5 106 (32 * p + z3) (σ5.2.1 92 21)) := ((F14.I (a := 92) (i := 44) (x := nI r.2.1) rfl).tr (f5.mono SX_SMr)).I rfl
        have B5 : MBad (ab_I σ5 106 (32 * p + z3) (σ5.2.1 92 21)) r.2.1 := ⟨by rw [gI_I, if_neg (by omega), f5.1 92 44 (SX_t (by omega)), gI_I, if_pos rfl, if_pos rfl], hv⟩
        exact m_needB B5 (h0 rfl _ F5 B5)
    · have e : pRu1 t n G P lm lc (true, z2, z3) = rF z2 P lm lc := by unfold pRu1; rw [if_neg (fun y => kd y.2)]
      rw [e] at h0
      have B : MBad (ab_I σ2 92 44 (nI z2)) z2 := ⟨by simp [gI_I], by omega⟩
      exact m_goodN B (no (fun y => y rfl) (h0 rfl _ ((f12.mono Sadv_SMr).I rfl) B))
  · generalize pSl t n (kOf G P) true q = z at h1 h0 hsl hsg hle hp f2
    have e : pRu1 t n G P lm lc z = rF z.2.1 P lm lc := by unfold pRu1; rw [if_neg (fun y => by rw [hp] at y; exact absurd y.1 Bool.false_ne_true)]
    rw [e] at h0
    have F2 : FM SMr σ σ2 := (F1.I (a := 92) (i := 44) (x := nI z.2.1) rfl).tr (f2.mono Sadv_SMr)
    have B : MBad σ2 z.2.1 := ⟨by rw [f2.1 92 44 rfl]; simp [gI_I], by omega⟩
    exact m_needB B (m_goodN B (no (fun y => y rfl) (h0 rfl _ F2 B)))
end ML
