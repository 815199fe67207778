section CL
variable {t : Nat → Nat} {n g p : Nat} {K : PC} {E : String → ab_S → Prop}
/-- what a reader of expressions does -/
def XOK (t : Nat → Nat) (n g p : Nat) (K : PC) (E : String → ab_S → Prop) (W : Int32 → (Int32 → ab_S → Prop) → (String → ab_S → Prop) → ab_S → Prop) (f : Nat → Nat → XR) (nest : Nat) (pre : Nat → Prop) : Prop := ∀ (q L : Nat) (σ : ab_S) (Q : Int32 → ab_S → Prop), XI σ t n g p K q L → pre q → (∀ σ', XP σ σ' t n g L (f nest q) → Q (if (f nest q).1 then 1 else 0) σ') → W (nI nest) Q E σ
theorem L_lt {σ : ab_S} {q L : Nat} (hS : CS σ t n q) (hT : n ≤ 2400) (h : L < q) : L < 2400 := by have := hS.le; omega
theorem XPf {σ σ' : ab_S} {L q : Nat} (f : FM (SE g) σ σ') (hS : CS σ' t n q) : XP σ σ' t n g L (xF q) := ⟨f, hS, fun h => absurd h Bool.false_ne_true⟩
theorem S3FM {σ σ' : ab_S} (f : Fr S3 σ σ') : FM (SE g) σ σ' := (FrFM f).mono (fun a i h => S3_SE a i h)
theorem Sge (hg : isG g) {σ σ' : ab_S} {L : Nat} (f : Fr S3 σ σ') (h : σ.2.1 g 14 = nI L) : σ'.2.1 g 14 = nI L := by rw [show σ'.2.1 g = σ.2.1 g from f.1 g (S3_g (k := 0) hg)]; exact h
theorem c_neg {F : Nat → Int32 → (Int32 → ab_S → Prop) → (String → ab_S → Prop) → ab_S → Prop} {f : Nat → Nat → Nat → XR} {nest : Nat} (hn : n ≤ 2400) (hl : ∀ q, XLn q (f 4 nest q)) (hF : XOK t n g p K E (F 4) (f 4) nest (fun _ => True)) : XOK t n g p K E (wX1_readNegated F) (x5 t n f) nest (fun q => 2 ≤ tkK t n q) := by
  intro q L σ Q hI hk h
  have hI0 := hI
  obtain ⟨hS, hg, hR, hC, hV, hP, hL, hLq⟩ := hI
  have hnx := nx_gt hk
  unfold wX1_readNegated
  refine c_adv hS hk (fun σ1 f1 s1 => ?_)
  refine hF (nx t n q) L σ1 _ (hI0.next (S3FM f1) s1 (Sge hg f1 hL) (by omega)) trivial (fun σ2 x2 => ?_)
  obtain ⟨m2, s2, d2⟩ := x2
  unfold x5 at h
  have ll := hl (nx t n q)
  generalize f 4 nest (nx t n q) = r at h s2 d2 ll ⊢
  cases hb : r.1
  · refine no (by decide) ?_
    rw [if_neg (by rw [hb]; decide)] at h
    exact h σ2 (XPf ((S3FM f1).tr m2) s2)
  · refine yes (by decide) ?_
    rw [if_pos hb] at h
    have dd := d2 hb
    have hll := ll hb
    have hle := s2.le
    have hR2 : σ2.2.2.2 7 1 = some g := by rw [((S3FM (g := g) f1).tr m2).2.2 7 1 (by simp [SE] <;> have := isG_b hg <;> omega)]; exact hR
    refine ⟨g, hR2, hg, ?_⟩
    refine c_emit (k := 6) (v := 0) hg dd.1 (by omega) (fun σ3 m3 r3 e1 e2 e3 e4 => ?_)
    refine h σ3 ⟨((S3FM f1).tr m2).tr m3, CSg hg s2 r3, fun _ => ?_⟩
    have d0 : XD σ σ2 g L r.2.2.2 := (((XD.nil hL).adv hg f1).tr (by simpa using dd))
    exact d0.tr (XD.emit (by omega) m3 hg r3 e1 e2 e3 e4)
theorem c_br {F : Nat → Int32 → (Int32 → ab_S → Prop) → (String → ab_S → Prop) → ab_S → Prop} {f : Nat → Nat → Nat → XR} {nest : Nat} (hF : XOK t n g p K E (F 0) (f 0) nest (fun _ => True)) : XOK t n g p K E (wX1_readBracket F) (x6 t n f) nest (fun q => 2 ≤ tkK t n q) := by
  intro q L σ Q hI hk h
  have hI0 := hI
  obtain ⟨hS, hg, hR, hC, hV, hP, hL, hLq⟩ := hI
  have hnx := nx_gt hk
  unfold wX1_readBracket
  refine c_adv hS hk (fun σ1 f1 s1 => ?_)
  refine hF (nx t n q) L σ1 _ (hI0.next (S3FM f1) s1 (Sge hg f1 hL) (by omega)) trivial (fun σ2 x2 => ?_)
  obtain ⟨m2, s2, d2⟩ := x2
  unfold x6 at h
  generalize f 0 nest (nx t n q) = r at h s2 d2 ⊢
  cases hb : r.1
  · refine yes rfl ?_
    rw [if_neg (by rw [hb]; simp)] at h
    exact h σ2 (XPf ((S3FM f1).tr m2) s2)
  · refine no (by decide) ?_
    have d0 : XD σ σ2 g L r.2.2.2 := (((XD.nil hL).adv hg f1).tr (by simpa using d2 hb))
    refine c_take (w := 41) s2 (by omega) (by omega) (fun kk σ3 f3 s3 => ?_) (fun kk => ?_)
    · refine no (by decide) ?_
      rw [if_pos ⟨hb, kk⟩] at h
      exact h σ3 ⟨((S3FM f1).tr m2).tr (S3FM f3), s3, fun _ => d0.adv hg f3⟩
    · refine yes rfl ?_
      rw [if_neg (fun z => kk z.2)] at h
      exact h σ2 (XPf ((S3FM f1).tr m2) s2)
theorem c_leaf {σ : ab_S} {q L k v : Nat} (hn : n ≤ 2400) (hI : XI σ t n g p K q L) (hk : 2 ≤ tkK t n q) (hkk : k ≠ 13 ∧ k ≠ 14 ∧ k ≠ 2) {Q : Int32 → ab_S → Prop} (h : ∀ σ' m, XP σ σ' t n g L (true, nx t n q, m, [(k, v)]) → Q 1 σ') : wX1_readLeaf (nI k) (nI v) Q E σ := by
  obtain ⟨hS, hg, hR, hC, hV, hP, hL, hLq⟩ := hI
  have hnx := nx_gt hk
  unfold wX1_readLeaf
  refine ⟨g, hR, hg, c_emit hg hL (by omega) (fun σ1 m1 r1 e1 e2 e3 e4 => ?_)⟩
  refine c_adv (CSg hg hS r1) hk (fun σ2 f2 s2 => ?_)
  exact h σ2 [] ⟨m1.tr (S3FM f2), s2, fun _ => (XD.emit hkk m1 hg r1 e1 e2 e3 e4).adv hg f2⟩
theorem c_fac {F : Nat → Int32 → (Int32 → ab_S → Prop) → (String → ab_S → Prop) → ab_S → Prop} {f : Nat → Nat → Nat → XR} {nest : Nat} (hn : n ≤ 2400) (hn10 : nest ≤ 10) (h6 : nest < 10 → XOK t n g p K E (F 6) (f 6) (nest + 1) (fun q => 2 ≤ tkK t n q)) (h5 : nest < 10 → XOK t n g p K E (F 5) (f 5) (nest + 1) (fun q => 2 ≤ tkK t n q)) : XOK t n g p K E (wX1_readFactor F) (x4 t n K f) nest (fun _ => True) := by
  intro q L σ Q hI _ h
  have hI0 := hI
  obtain ⟨hS, hg, hR, hC, hV, hP, hL, hLq⟩ := hI
  have hk := tkK_lt (t := t) (n := n) (q := q)
  unfold wX1_readFactor
  rw [hS.kind]
  have e1 : nI nest + 1 = nI (nest + 1) := nI_1 nest
  by_cases k3 : tkK t n q = 3
  · refine no (by rw [k3]; exact fun z => z rfl) ?_
    refine c_dot hS (by omega) ?_
    by_cases kd : tkK t n (nx t n q) = 46
    · rw [if_pos kd]
      refine no (by decide) ?_
      refine c_slot false hI0 (fun σ1 f1 s1 => ?_)
      have hx : x4 t n K f nest q = if (pSl t n K false q).1 then (true, (pSl t n K false q).2.1, [(50, (pSl t n K false q).2.2)], [(2, (pSl t n K false q).2.2)]) else xF (pSl t n K false q).2.1 := by unfold x4; rw [if_pos k3, if_pos kd]
      rw [hx] at h
      cases hb : (pSl t n K false q).1
      · rw [if_neg (by rw [hb]; decide)] at h
        exact no (fun z => z rfl) (h σ1 (XPf (S3FM f1) s1))
      · rw [if_pos hb] at h
        have o := pSl_ok hb
        have hsl : (pSl t n K false q).2.2 < 32 := by
          rw [o.2.2.2.2.2.2]
          have a1 := hP.2.2.1
          have a2 := (hV.2.2 _ (hP.2.2.2.2.1 _ o.2.1).2).2.1
          have a3 := o.2.1
          have a4 := o.2.2.2.2.2.1
          show 8 * nv t n q + slA t n K q < 32
          omega
        generalize hsv : (pSl t n K false q).2.2 = sl at h hsl ⊢
        refine yes (fun z => ?_) (fe ?_)
        · have := nI_pos (n := sl) (by omega)
          simp only [if_true] at z
          rw [z] at this
          exact this (by decide)
        · simp only [if_true]
          have hR1 : σ1.2.2.2 7 1 = some g := refG f1 rfl hR
          have hL1 : σ1.2.1 g 14 = nI L := Sge hg f1 hL
          have hnx := nx_gt (t := t) (n := n) (q := q) (by omega)
          have hgb := isG_b hg
          refine ⟨g, hR1, hg, ?_⟩
          have hL2 : (ab_I σ1 7 3 (σ1.2.1 7 3 ||| 1 <<< (nI sl &&& 31))).2.1 g 14 = nI L := by rw [gI_I, if_neg (by omega)]; exact hL1
          refine c_emit (k := 2) (v := sl) hg hL2 (by omega) (fun σ2 m2 r2 e1 e2 e3 e4 => ?_)
          have m1 : FM (SE g) σ1 (ab_I σ1 7 3 (σ1.2.1 7 3 ||| 1 <<< (nI sl &&& 31))) := (FM.rf _ _).I (by simp [SE])
          have s2 : CS (ab_I σ1 7 3 (σ1.2.1 7 3 ||| 1 <<< (nI sl &&& 31))) t n (pSl t n K false q).2.1 := s1.fr (S := fun a => a == 7) ((Fr.rf _ _).I rfl) rfl rfl rfl rfl
          refine h σ2 ⟨((S3FM f1).tr m1).tr m2, CSg hg s2 r2, fun _ => ⟨e1, fun i hi => ?_, fun i hi => ?_, ?_⟩⟩
          · have : i = 0 := by simp at hi; omega
            subst this
            simp [abn, e2, e3]
          · have := e4 i (by omega)
            rw [this.1, this.2, gI_I, gI_I, if_neg (by omega), if_neg (by omega), f1.1 _ (S3_g hg), f1.1 _ (S3_g hg)]
            exact ⟨rfl, rfl⟩
          · rw [r2.1 7 (Sg_out hg (by omega)), gI_I, if_pos rfl, if_pos rfl, f1.1 7 rfl]
            simp [nmF]
    · rw [if_neg kd]
      refine yes rfl ?_
      unfold wX1_readFactor_j58
      rw [hS.kind]
      refine yes (by rw [k3]; rfl) ?_
      rw [hS.num k3, (num_v k3).1]
      refine c_leaf (k := 0) (v := nv t n q) hn hI0 (by omega) (by omega) (fun σ1 m x1 => ⟨Or.inr rfl, ?_⟩)
      have hx : x4 t n K f nest q = (true, nx t n q, [(40, nv t n q)], [(0, nv t n q)]) := by unfold x4; rw [if_pos k3, if_neg kd]
      rw [hx] at h
      exact h σ1 x1
  · refine yes (by simp (disch := omega) only [nI_lit, nI_add, nI_mulE, nI_clampE, nI_eqE, nI_leE, nI_ltE, vp_nIE, true_and, and_true]; exact k3) ?_
    unfold wX1_readFactor_j58
    rw [hS.kind]
    refine no (by show ¬ nI (tkK t n q) = nI 3; simp (disch := omega) only [nI_lit, nI_add, nI_mulE, nI_clampE, nI_eqE, nI_leE, nI_ltE, vp_nIE, true_and, and_true]; exact k3) ?_
    by_cases k35 : tkK t n q = 35
    · have hx : x4 t n K f nest q = if K.2.2.2.1 then (true, nx t n q, [(41, 0)], [(1, 0)]) else xF q := by unfold x4; rw [if_neg k3, if_pos k35]
      rw [hx] at h
      have ecp : (nI p).toNatClampNeg = p := nI_clampE (by have := hP.2.1; omega)
      refine yes (by rw [k35]; rfl) ⟨g, hR, hg, by rw [hP.1]; have := hP.2.1; simp (disch := omega) only [nI_lit, nI_add, nI_mulE, nI_clampE, nI_eqE, nI_leE, nI_ltE, vp_nIE, true_and, and_true]; omega, ?_⟩
      rw [hP.1, ecp, hP.2.2.2.2.2.1]
      cases hb : K.2.2.2.1
      · rw [if_neg (by rw [hb]; decide)] at h
        exact yes rfl (h σ (XPf (FM.rf _ _) hS))
      · rw [if_pos hb] at h
        refine no (by decide) ?_
        refine c_leaf (k := 1) (v := 0) hn hI0 (by omega) (by omega) (fun σ1 m x1 => no (by decide) ?_)
        exact h σ1 x1
    · refine no (by show ¬ nI (tkK t n q) = nI 35; simp (disch := omega) only [nI_lit, nI_add, nI_mulE, nI_clampE, nI_eqE, nI_leE, nI_ltE, vp_nIE, true_and, and_true]; exact k35) ?_
      by_cases k40 : tkK t n q = 40
      · have hx : x4 t n K f nest q = if nest < 10 then f 6 (nest + 1) q else xF q := by unfold x4; rw [if_neg k3, if_neg k35, if_pos k40]
        rw [hx] at h
        refine yes (by rw [k40]; rfl) ?_
        by_cases h10 : nest < 10
        · rw [if_pos h10] at h
          refine no (by simp (disch := omega) only [nI_lit, nI_add, nI_mulE, nI_clampE, nI_eqE, nI_leE, nI_ltE, vp_nIE, true_and, and_true]; omega) ?_
          rw [e1]
          refine h6 h10 q L σ _ hI0 (by omega) (fun σ1 x1 => ?_)
          have := h σ1 x1
          cases hb : (f 6 (nest + 1) q).1
          · rw [hb] at this; exact yes rfl this
          · rw [hb] at this; exact no (by decide) this
        · rw [if_neg h10] at h
          exact yes (by simp (disch := omega) only [nI_lit, nI_add, nI_mulE, nI_clampE, nI_eqE, nI_leE, nI_ltE, vp_nIE, true_and, and_true]; omega) (h σ (XPf (FM.rf _ _) hS))
      · refine no (by show ¬ nI (tkK t n q) = nI 40; simp (disch := omega) only [nI_lit, nI_add, nI_mulE, nI_clampE, nI_eqE, nI_leE, nI_ltE, vp_nIE, true_and, and_true]; exact k40) ?_
        by_cases k45 : tkK t n q = 45
        · have hx : x4 t n K f nest q = if nest < 10 then f 5 (nest + 1) q else xF q := by unfold x4; rw [if_neg k3, if_neg k35, if_neg k40, if_pos k45]
          rw [hx] at h
          refine yes (by rw [k45]; rfl) ?_
          by_cases h10 : nest < 10
          · rw [if_pos h10] at h
            refine no (by simp (disch := omega) only [nI_lit, nI_add, nI_mulE, nI_clampE, nI_eqE, nI_leE, nI_ltE, vp_nIE, true_and, and_true]; omega) ?_
            rw [e1]
            refine h5 h10 q L σ _ hI0 (by omega) (fun σ1 x1 => ?_)
            have := h σ1 x1
            cases hb : (f 5 (nest + 1) q).1
            · rw [hb] at this; exact yes rfl this
            · rw [hb] at this; exact no (by decide) this
          · rw [if_neg h10] at h
            exact yes (by simp (disch := omega) only [nI_lit, nI_add, nI_mulE, nI_clampE, nI_eqE, nI_leE, nI_ltE, vp_nIE, true_and, and_true]; omega) (h σ (XPf (FM.rf _ _) hS))
        · have hx : x4 t n K f nest q = xF q := by unfold x4; rw [if_neg k3, if_neg k35, if_neg k40, if_neg k45]
          rw [hx] at h
          exact no (by show ¬ nI (tkK t n q) = nI 45; simp (disch := omega) only [nI_lit, nI_add, nI_mulE, nI_clampE, nI_eqE, nI_leE, nI_ltE, vp_nIE, true_and, and_true]; exact k45) (h σ (XPf (FM.rf _ _) hS))
end CL
