section CL
variable {t : Nat → Nat} {n g p : Nat} {K : PC} {E : String → ab_S → Prop}
theorem c_pl {F : Nat → Int32 → (Int32 → ab_S → Prop) → (String → ab_S → Prop) → ab_S → Prop} {f : Nat → Nat → Nat → XR} {nest : Nat} (hn : n ≤ 2400) (hl : ∀ q, XLn q (f 4 nest q)) (hF : XOK t n g p K E (F 4) (f 4) nest (fun _ => True)) {q0 L : Nat} {σ0 : ab_S} (hI0 : XI σ0 t n g p K q0 L) {Q : Int32 → ab_S → Prop} : ∀ (m : Nat) (r : XR) (σ : ab_S), m ≤ 2400 → r.1 = true → XLn q0 r → XP σ0 σ t n g L r → (∀ σ', XP σ0 σ' t n g L (xLp t n f nest 4 42 47 15 16 9 10 m r) → Q (if (xLp t n f nest 4 42 47 15 16 9 10 m r).1 then 1 else 0) σ') → wX1_readProduct_l12 F (nI nest) Q E (m + 1) (nI (2400 - m)) σ := by
  have hg := hI0.2.1
  have hR := hI0.2.2.1
  have hgb := isG_b hg
  have hLq := hI0.2.2.2.2.2.2.2
  intro m
  induction m with
  | zero =>
    intro r σ _ hr _ hx h
    refine yes (by simp (disch := omega) only [nI_lit, nI_add, nI_mulE, nI_clampE, nI_eqE, nI_leE, nI_ltE, vp_nIE, true_and, and_true]; omega) ?_
    have := h σ hx
    rw [show xLp t n f nest 4 42 47 15 16 9 10 0 r = r from rfl, if_pos hr] at this
    exact this
  | succ m ih =>
    intro r σ hm hr hlr hx h
    obtain ⟨mx, sx, dx⟩ := hx
    have ddx := dx hr
    have hlr2 := hlr hr
    have hk := tkK_lt (t := t) (n := n) (q := r.2.1)
    show wX1_readProduct_l12_b F (nI nest) Q E (wX1_readProduct_l12 F (nI nest) Q E (m + 1)) (nI (2400 - (m + 1))) σ
    unfold wX1_readProduct_l12_b
    rw [sx.kind]
    refine no (by simp (disch := omega) only [nI_lit, nI_add, nI_mulE, nI_clampE, nI_eqE, nI_leE, nI_ltE, vp_nIE, true_and, and_true]; omega) ?_
    have go : (tkK t n r.2.1 = 42 ∨ tkK t n r.2.1 = 47) → wX1_readProduct_j43 F (nI nest) Q E (wX1_readProduct_l12 F (nI nest) Q E (m + 1)) (nI (2400 - (m + 1))) σ := by
      intro hab
      unfold wX1_readProduct_j43
      rw [sx.kind]
      refine fe ?_
      have hk2 : 2 ≤ tkK t n r.2.1 := by omega
      have hnx := nx_gt hk2
      refine c_adv sx hk2 (fun σ1 f1 s1 => ?_)
      have m1 := mx.tr (S3FM (g := g) f1)
      have d1 := ddx.adv hg f1
      refine hF (nx t n r.2.1) (L + r.2.2.2.length) σ1 _ (hI0.next m1 s1 d1.1 (by omega)) trivial (fun σ2 x2 => ?_)
      obtain ⟨m2, s2, d2⟩ := x2
      have ll := hl (nx t n r.2.1)
      have hx : xLp t n f nest 4 42 47 15 16 9 10 (m + 1) r = if (f 4 nest (nx t n r.2.1)).1 then xLp t n f nest 4 42 47 15 16 9 10 m (xBin (if tkK t n r.2.1 = 42 then 15 else 16) (if tkK t n r.2.1 = 42 then 9 else 10) r (f 4 nest (nx t n r.2.1))) else xF (f 4 nest (nx t n r.2.1)).2.1 := by rw [xLp, if_pos hab]
      rw [hx] at h
      have hbn := XLn_bin (mo := if tkK t n r.2.1 = 42 then 15 else 16) (co := if tkK t n r.2.1 = 42 then 9 else 10) hr hlr ll hk2
      generalize f 4 nest (nx t n r.2.1) = r2 at h s2 d2 ll hbn ⊢
      cases hb : r2.1
      · rw [if_neg (by rw [hb]; decide)] at h
        exact no (by decide) (h σ2 (XPf (m1.tr m2) s2))
      · rw [if_pos hb] at h
        have dd2 := d2 hb
        have d02 := d1.tr dd2
        have hl2 := ll hb
        have hle := s2.le
        have hR2 : σ2.2.2.2 7 1 = some g := by rw [(m1.tr m2).2.2 7 1 (by simp [SE] <;> omega)]; exact hR
        have last : ∀ co : Nat, co = (if tkK t n r.2.1 = 42 then 9 else 10) → (co ≠ 13 ∧ co ≠ 14 ∧ co ≠ 2) → wX1_readProduct_j85 F (nI nest) Q E (wX1_readProduct_l12 F (nI nest) Q E (m + 1)) (nI (2400 - (m + 1))) (nI co) g σ2 := by
          intro co hco hc3
          unfold wX1_readProduct_j85
          refine c_emit (k := co) (v := 0) hg dd2.1 (by omega) (fun σ3 m3 r3 e1 e2 e3 e4 => ?_)
          refine fe ?_
          rw [nI_1, show 2400 - (m + 1) + 1 = 2400 - m by omega]
          have hlen : L + (r.2.2.2 ++ r2.2.2.2).length = L + r.2.2.2.length + r2.2.2.2.length := by rw [List.length_append]; omega
          have d3 := d02.tr (XD.emit hc3 m3 hg r3 (by rw [hlen]; exact e1) (by rw [hlen]; exact e2) (by rw [hlen]; exact e3) (fun i hi => e4 i (by rw [hlen] at hi; exact hi)))
          refine ih _ σ3 (by omega) ?_ hbn ⟨(m1.tr m2).tr m3, ?_, fun _ => ?_⟩ h
          · unfold xBin; rw [if_pos hb]
          · have : (xBin (if tkK t n r.2.1 = 42 then 15 else 16) (if tkK t n r.2.1 = 42 then 9 else 10) r r2).2.1 = r2.2.1 := by unfold xBin; rw [if_pos hb]
            rw [this]; exact CSg hg s2 r3
          · have : (xBin (if tkK t n r.2.1 = 42 then 15 else 16) (if tkK t n r.2.1 = 42 then 9 else 10) r r2).2.2.2 = r.2.2.2 ++ r2.2.2.2 ++ [(co, 0)] := by unfold xBin; rw [if_pos hb, hco]
            rw [this]; exact d3
        refine yes (by decide) ⟨g, hR2, hg, ?_⟩
        by_cases ka : tkK t n r.2.1 = 42
        · exact no (by rw [ka]; exact fun z => z rfl) (last 9 (by rw [if_pos ka]) (by omega))
        · exact yes (by simp (disch := omega) only [nI_lit, nI_add, nI_mulE, nI_clampE, nI_eqE, nI_leE, nI_ltE, vp_nIE, true_and, and_true]; exact ka) (last 10 (by rw [if_neg ka]) (by omega))
    by_cases ka : tkK t n r.2.1 = 42
    · exact yes (by rw [ka]; rfl) (go (Or.inl ka))
    · refine no (by simp (disch := omega) only [nI_lit, nI_add, nI_mulE, nI_clampE, nI_eqE, nI_leE, nI_ltE, vp_nIE, true_and, and_true]; exact ka) ?_
      by_cases kb : tkK t n r.2.1 = 47
      · exact no (by rw [kb]; exact fun z => z rfl) (go (Or.inr kb))
      · refine yes (by simp (disch := omega) only [nI_lit, nI_add, nI_mulE, nI_clampE, nI_eqE, nI_leE, nI_ltE, vp_nIE, true_and, and_true]; exact kb) ?_
        have hx : xLp t n f nest 4 42 47 15 16 9 10 (m + 1) r = r := by rw [xLp, if_neg (by omega)]
        rw [hx, if_pos hr] at h
        exact h σ ⟨mx, sx, dx⟩
theorem c_prod {F : Nat → Int32 → (Int32 → ab_S → Prop) → (String → ab_S → Prop) → ab_S → Prop} {f : Nat → Nat → Nat → XR} {nest : Nat} (hn : n ≤ 2400) (hl : ∀ q, XLn q (f 4 nest q)) (hF : XOK t n g p K E (F 4) (f 4) nest (fun _ => True)) : XOK t n g p K E (wX1_readProduct F) (x3 t n f) nest (fun _ => True) := by
  intro q L σ Q hI _ h
  unfold wX1_readProduct
  refine hF q L σ _ hI trivial (fun σ1 x1 => ?_)
  unfold x3 at h
  have ll := hl q
  cases hb : (f 4 nest q).1
  · rw [if_neg (by rw [hb]; decide)] at h
    exact no (by decide) (h σ1 (XPf x1.1 x1.2.1))
  · rw [if_pos hb] at h
    exact yes (by decide) ⟨2401, c_pl hn hl hF hI 2400 _ σ1 (Nat.le_refl _) hb ll x1 h⟩
theorem c_sl {F : Nat → Int32 → (Int32 → ab_S → Prop) → (String → ab_S → Prop) → ab_S → Prop} {f : Nat → Nat → Nat → XR} {nest : Nat} (hn : n ≤ 2400) (hl : ∀ q, XLn q (f 3 nest q)) (hF : XOK t n g p K E (F 3) (f 3) nest (fun _ => True)) {q0 L : Nat} {σ0 : ab_S} (hI0 : XI σ0 t n g p K q0 L) {Q : Int32 → ab_S → Prop} : ∀ (m : Nat) (r : XR) (σ : ab_S), m ≤ 2400 → r.1 = true → XLn q0 r → XP σ0 σ t n g L r → (∀ σ', XP σ0 σ' t n g L (xLp t n f nest 3 43 45 13 14 7 8 m r) → Q (if (xLp t n f nest 3 43 45 13 14 7 8 m r).1 then 1 else 0) σ') → wX1_readSum_l12 F (nI nest) Q E (m + 1) (nI (2400 - m)) σ := by
  have hg := hI0.2.1
  have hR := hI0.2.2.1
  have hgb := isG_b hg
  have hLq := hI0.2.2.2.2.2.2.2
  intro m
  induction m with
  | zero =>
    intro r σ _ hr _ hx h
    refine yes (by simp (disch := omega) only [nI_lit, nI_add, nI_mulE, nI_clampE, nI_eqE, nI_leE, nI_ltE, vp_nIE, true_and, and_true]; omega) ?_
    have := h σ hx
    rw [show xLp t n f nest 3 43 45 13 14 7 8 0 r = r from rfl, if_pos hr] at this
    exact this
  | succ m ih =>
    intro r σ hm hr hlr hx h
    obtain ⟨mx, sx, dx⟩ := hx
    have ddx := dx hr
    have hlr2 := hlr hr
    have hk := tkK_lt (t := t) (n := n) (q := r.2.1)
    show wX1_readSum_l12_b F (nI nest) Q E (wX1_readSum_l12 F (nI nest) Q E (m + 1)) (nI (2400 - (m + 1))) σ
    unfold wX1_readSum_l12_b
    rw [sx.kind]
    refine no (by simp (disch := omega) only [nI_lit, nI_add, nI_mulE, nI_clampE, nI_eqE, nI_leE, nI_ltE, vp_nIE, true_and, and_true]; omega) ?_
    have go : (tkK t n r.2.1 = 43 ∨ tkK t n r.2.1 = 45) → wX1_readSum_j43 F (nI nest) Q E (wX1_readSum_l12 F (nI nest) Q E (m + 1)) (nI (2400 - (m + 1))) σ := by
      intro hab
      unfold wX1_readSum_j43
      rw [sx.kind]
      refine fe ?_
      have hk2 : 2 ≤ tkK t n r.2.1 := by omega
      have hnx := nx_gt hk2
      refine c_adv sx hk2 (fun σ1 f1 s1 => ?_)
      have m1 := mx.tr (S3FM (g := g) f1)
      have d1 := ddx.adv hg f1
      refine hF (nx t n r.2.1) (L + r.2.2.2.length) σ1 _ (hI0.next m1 s1 d1.1 (by omega)) trivial (fun σ2 x2 => ?_)
      obtain ⟨m2, s2, d2⟩ := x2
      have ll := hl (nx t n r.2.1)
      have hx : xLp t n f nest 3 43 45 13 14 7 8 (m + 1) r = if (f 3 nest (nx t n r.2.1)).1 then xLp t n f nest 3 43 45 13 14 7 8 m (xBin (if tkK t n r.2.1 = 43 then 13 else 14) (if tkK t n r.2.1 = 43 then 7 else 8) r (f 3 nest (nx t n r.2.1))) else xF (f 3 nest (nx t n r.2.1)).2.1 := by rw [xLp, if_pos hab]
      rw [hx] at h
      have hbn := XLn_bin (mo := if tkK t n r.2.1 = 43 then 13 else 14) (co := if tkK t n r.2.1 = 43 then 7 else 8) hr hlr ll hk2
      generalize f 3 nest (nx t n r.2.1) = r2 at h s2 d2 ll hbn ⊢
      cases hb : r2.1
      · rw [if_neg (by rw [hb]; decide)] at h
        exact no (by decide) (h σ2 (XPf (m1.tr m2) s2))
      · rw [if_pos hb] at h
        have dd2 := d2 hb
        have d02 := d1.tr dd2
        have hl2 := ll hb
        have hle := s2.le
        have hR2 : σ2.2.2.2 7 1 = some g := by rw [(m1.tr m2).2.2 7 1 (by simp [SE] <;> omega)]; exact hR
        have last : ∀ co : Nat, co = (if tkK t n r.2.1 = 43 then 7 else 8) → (co ≠ 13 ∧ co ≠ 14 ∧ co ≠ 2) → wX1_readSum_j85 F (nI nest) Q E (wX1_readSum_l12 F (nI nest) Q E (m + 1)) (nI (2400 - (m + 1))) (nI co) g σ2 := by
          intro co hco hc3
          unfold wX1_readSum_j85
          refine c_emit (k := co) (v := 0) hg dd2.1 (by omega) (fun σ3 m3 r3 e1 e2 e3 e4 => ?_)
          refine fe ?_
          rw [nI_1, show 2400 - (m + 1) + 1 = 2400 - m by omega]
          have hlen : L + (r.2.2.2 ++ r2.2.2.2).length = L + r.2.2.2.length + r2.2.2.2.length := by rw [List.length_append]; omega
          have d3 := d02.tr (XD.emit hc3 m3 hg r3 (by rw [hlen]; exact e1) (by rw [hlen]; exact e2) (by rw [hlen]; exact e3) (fun i hi => e4 i (by rw [hlen] at hi; exact hi)))
          refine ih _ σ3 (by omega) ?_ hbn ⟨(m1.tr m2).tr m3, ?_, fun _ => ?_⟩ h
          · unfold xBin; rw [if_pos hb]
          · have : (xBin (if tkK t n r.2.1 = 43 then 13 else 14) (if tkK t n r.2.1 = 43 then 7 else 8) r r2).2.1 = r2.2.1 := by unfold xBin; rw [if_pos hb]
            rw [this]; exact CSg hg s2 r3
          · have : (xBin (if tkK t n r.2.1 = 43 then 13 else 14) (if tkK t n r.2.1 = 43 then 7 else 8) r r2).2.2.2 = r.2.2.2 ++ r2.2.2.2 ++ [(co, 0)] := by unfold xBin; rw [if_pos hb, hco]
            rw [this]; exact d3
        refine yes (by decide) ⟨g, hR2, hg, ?_⟩
        by_cases ka : tkK t n r.2.1 = 43
        · exact no (by rw [ka]; exact fun z => z rfl) (last 7 (by rw [if_pos ka]) (by omega))
        · exact yes (by simp (disch := omega) only [nI_lit, nI_add, nI_mulE, nI_clampE, nI_eqE, nI_leE, nI_ltE, vp_nIE, true_and, and_true]; exact ka) (last 8 (by rw [if_neg ka]) (by omega))
    by_cases ka : tkK t n r.2.1 = 43
    · exact yes (by rw [ka]; rfl) (go (Or.inl ka))
    · refine no (by simp (disch := omega) only [nI_lit, nI_add, nI_mulE, nI_clampE, nI_eqE, nI_leE, nI_ltE, vp_nIE, true_and, and_true]; exact ka) ?_
      by_cases kb : tkK t n r.2.1 = 45
      · exact no (by rw [kb]; exact fun z => z rfl) (go (Or.inr kb))
      · refine yes (by simp (disch := omega) only [nI_lit, nI_add, nI_mulE, nI_clampE, nI_eqE, nI_leE, nI_ltE, vp_nIE, true_and, and_true]; exact kb) ?_
        have hx : xLp t n f nest 3 43 45 13 14 7 8 (m + 1) r = r := by rw [xLp, if_neg (by omega)]
        rw [hx, if_pos hr] at h
        exact h σ ⟨mx, sx, dx⟩
theorem c_sum {F : Nat → Int32 → (Int32 → ab_S → Prop) → (String → ab_S → Prop) → ab_S → Prop} {f : Nat → Nat → Nat → XR} {nest : Nat} (hn : n ≤ 2400) (hl : ∀ q, XLn q (f 3 nest q)) (hF : XOK t n g p K E (F 3) (f 3) nest (fun _ => True)) : XOK t n g p K E (wX1_readSum F) (x2 t n f) nest (fun _ => True) := by
  intro q L σ Q hI _ h
  unfold wX1_readSum
  refine hF q L σ _ hI trivial (fun σ1 x1 => ?_)
  unfold x2 at h
  have ll := hl q
  cases hb : (f 3 nest q).1
  · rw [if_neg (by rw [hb]; decide)] at h
    exact no (by decide) (h σ1 (XPf x1.1 x1.2.1))
  · rw [if_pos hb] at h
    exact yes (by decide) ⟨2401, c_sl hn hl hF hI 2400 _ σ1 (Nat.le_refl _) hb ll x1 h⟩
theorem c_expr {F : Nat → Int32 → (Int32 → ab_S → Prop) → (String → ab_S → Prop) → ab_S → Prop} {f : Nat → Nat → Nat → XR} {nest : Nat} (hn : n ≤ 2400) (hl : ∀ q, XLn q (f 2 nest q)) (h1 : XOK t n g p K E (F 1) (f 1) nest (fun q => 2 ≤ tkK t n q)) (h2 : XOK t n g p K E (F 2) (f 2) nest (fun _ => True)) : XOK t n g p K E (wX1_readExpression F) (x0 t n f) nest (fun _ => True) := by
  intro q L σ Q hI _ h
  have hI0 := hI
  obtain ⟨hS, hg, hR, hC, hV, hP, hL, hLq⟩ := hI
  have hgb := isG_b hg
  have hk := tkK_lt (t := t) (n := n) (q := q)
  unfold wX1_readExpression
  rw [hS.kind]
  by_cases k7 : tkK t n q = 7
  · refine no (by rw [k7]; exact fun z => z rfl) ?_
    rw [show x0 t n f nest q = f 1 nest q by unfold x0; rw [if_pos k7]] at h
    refine h1 q L σ _ hI0 (by omega) (fun σ1 x1 => ⟨?_, h σ1 x1⟩)
    cases (f 1 nest q).1
    · exact Or.inl rfl
    · exact Or.inr rfl
  · refine yes (by simp (disch := omega) only [nI_lit, nI_add, nI_mulE, nI_clampE, nI_eqE, nI_leE, nI_ltE, vp_nIE, true_and, and_true]; exact k7) ?_
    refine h2 q L σ _ hI0 trivial (fun σ1 x1 => ?_)
    obtain ⟨m1, s1, d1⟩ := x1
    have hx : x0 t n f nest q = if (f 2 nest q).1 then (if tkK t n (f 2 nest q).2.1 = 60 ∨ tkK t n (f 2 nest q).2.1 = 61 then xBin (if tkK t n (f 2 nest q).2.1 = 60 then 17 else 4) (if tkK t n (f 2 nest q).2.1 = 60 then 11 else 12) (f 2 nest q) (f 2 nest (nx t n (f 2 nest q).2.1)) else f 2 nest q) else xF (f 2 nest q).2.1 := by unfold x0; rw [if_neg k7]
    rw [hx] at h
    have ll := hl q
    generalize f 2 nest q = r at h s1 d1 ll ⊢
    cases hb : r.1
    · rw [if_neg (by rw [hb]; decide)] at h
      exact no (by decide) (h σ1 (XPf m1 s1))
    · rw [if_pos hb] at h
      refine yes (by decide) ?_
      rw [s1.kind]
      have hk1 := tkK_lt (t := t) (n := n) (q := r.2.1)
      have go : (tkK t n r.2.1 = 60 ∨ tkK t n r.2.1 = 61) → wX1_readExpression_j50 F (nI nest) Q E (nI (tkK t n r.2.1)) σ1 := by
        intro hab
        rw [if_pos hab] at h
        have hk2 : 2 ≤ tkK t n r.2.1 := by omega
        have hnx := nx_gt hk2
        have hl1 := ll hb
        unfold wX1_readExpression_j50
        refine c_adv s1 hk2 (fun σ2 f2 s2 => ?_)
        have m2 := m1.tr (S3FM (g := g) f2)
        have d2 := (d1 hb).adv hg f2
        refine h2 (nx t n r.2.1) (L + r.2.2.2.length) σ2 _ (hI0.next m2 s2 d2.1 (by omega)) trivial (fun σ3 x3 => ?_)
        obtain ⟨m3, s3, d3⟩ := x3
        have ll3 := hl (nx t n r.2.1)
        generalize f 2 nest (nx t n r.2.1) = r2 at h s3 d3 ll3 ⊢
        cases hb2 : r2.1
        · unfold xBin at h
          rw [if_neg (by rw [hb2]; decide)] at h
          exact no (by decide) (h σ3 (XPf (m2.tr m3) s3))
        · have dd3 := d3 hb2
          have d03 := d2.tr dd3
          have hl3 := ll3 hb2
          have hle := s3.le
          have hR3 : σ3.2.2.2 7 1 = some g := by rw [(m2.tr m3).2.2 7 1 (by simp [SE] <;> omega)]; exact hR
          have last : ∀ co : Nat, co = (if tkK t n r.2.1 = 60 then 11 else 12) → (co ≠ 13 ∧ co ≠ 14 ∧ co ≠ 2) → wX1_readExpression_j84 F (nI nest) Q E (nI co) g σ3 := by
            intro co hco hc3
            unfold wX1_readExpression_j84
            refine c_emit (k := co) (v := 0) hg dd3.1 (by omega) (fun σ4 m4 r4 e1 e2 e3 e4 => ?_)
            have hlen : L + (r.2.2.2 ++ r2.2.2.2).length = L + r.2.2.2.length + r2.2.2.2.length := by rw [List.length_append]; omega
            have d4 := d03.tr (XD.emit hc3 m4 hg r4 (by rw [hlen]; exact e1) (by rw [hlen]; exact e2) (by rw [hlen]; exact e3) (fun i hi => e4 i (by rw [hlen] at hi; exact hi)))
            unfold xBin at h
            rw [if_pos hb2, ← hco] at h
            exact h σ4 ⟨(m2.tr m3).tr m4, CSg hg s3 r4, fun _ => d4⟩
          refine yes (by decide) ⟨g, hR3, hg, ?_⟩
          by_cases ka : tkK t n r.2.1 = 60
          · exact no (by rw [ka]; exact fun z => z rfl) (last 11 (by rw [if_pos ka]) (by omega))
          · exact yes (by simp (disch := omega) only [nI_lit, nI_add, nI_mulE, nI_clampE, nI_eqE, nI_leE, nI_ltE, vp_nIE, true_and, and_true]; exact ka) (last 12 (by rw [if_neg ka]) (by omega))
      refine fe ?_
      by_cases ka : tkK t n r.2.1 = 60
      · exact yes (by rw [ka]; rfl) (go (Or.inl ka))
      · refine no (by simp (disch := omega) only [nI_lit, nI_add, nI_mulE, nI_clampE, nI_eqE, nI_leE, nI_ltE, vp_nIE, true_and, and_true]; exact ka) ?_
        by_cases kb : tkK t n r.2.1 = 61
        · exact yes (by rw [kb]; rfl) (go (Or.inr kb))
        · refine no (by simp (disch := omega) only [nI_lit, nI_add, nI_mulE, nI_clampE, nI_eqE, nI_leE, nI_ltE, vp_nIE, true_and, and_true]; exact kb) ?_
          rw [if_neg (by omega), if_pos hb] at h
          exact h σ1 ⟨m1, s1, d1⟩
/-- a TEST or JUMP, its number still wanting -/
theorem XD.hole {σ σ' : ab_S} {L k : Nat} (hk : k = 13 ∨ k = 14) (hg : isG g) (fr : Fr (fun a => decide (g ≤ a ∧ a ≤ g + 17)) σ σ') (h1 : σ'.2.1 g 14 = nI (L + 1)) (h4 : ∀ i, i ≠ L → σ'.2.1 (g + 13) i = σ.2.1 (g + 13) i ∧ σ'.2.1 (g + 14) i = σ.2.1 (g + 14) i) : σ'.2.1 7 3 = σ.2.1 7 3 := by rw [fr.1 7 (Sg_out hg (by omega))]
theorem c_choice {F : Nat → Int32 → (Int32 → ab_S → Prop) → (String → ab_S → Prop) → ab_S → Prop} {f : Nat → Nat → Nat → XR} {nest : Nat} (hn : n ≤ 2400) (hn10 : nest ≤ 10) (hl : ∀ q, XLn q (f 0 (nest + 1) q)) (h0 : nest < 10 → XOK t n g p K E (F 0) (f 0) (nest + 1) (fun _ => True)) : XOK t n g p K E (wX1_readChoice F) (x1 t n f) nest (fun q => 2 ≤ tkK t n q) := by
  intro q L σ Q hI hk h
  have hI0 := hI
  obtain ⟨hS, hg, hR, hC, hV, hP, hL, hLq⟩ := hI
  have hgb := isG_b hg
  have rk : ∀ {τ : ab_S}, FM (SE g) σ τ → τ.2.2.2 7 1 = some g := fun {τ} m => by rw [m.2.2 7 1 (by simp [SE] <;> omega)]; exact hR
  unfold wX1_readChoice
  by_cases h10 : nest < 10
  · have hF := h0 h10
    rw [show x1 t n f nest q = x1b t n f nest (f 0 (nest + 1) (nx t n q)) by unfold x1; rw [if_pos h10]] at h
    refine yes (by simp (disch := omega) only [nI_lit, nI_add, nI_mulE, nI_clampE, nI_eqE, nI_leE, nI_ltE, vp_nIE, true_and, and_true]; exact h10) ?_
    rw [nI_1]
    have hnx := nx_gt hk
    refine c_adv hS hk (fun σ1 f1 s1 => ?_)
    refine hF (nx t n q) L σ1 _ (hI0.next (S3FM f1) s1 (Sge hg f1 hL) (by omega)) trivial (fun σ2 x2 => ?_)
    obtain ⟨m2, s2, d2⟩ := x2
    have ll1 := hl (nx t n q)
    generalize f 0 (nest + 1) (nx t n q) = r1 at h s2 d2 ll1 ⊢
    have m02 := (S3FM (g := g) f1).tr m2
    cases hb1 : r1.1
    · rw [show x1b t n f nest r1 = xF r1.2.1 by unfold x1b; rw [if_neg (fun z => by rw [hb1] at z; exact absurd z.1 Bool.false_ne_true)]] at h
      exact yes rfl (h σ2 (XPf m02 s2))
    · refine no (by decide) ?_
      have D2 : XD σ σ2 g L r1.2.2.2 := ((XD.nil hL).adv hg f1).tr (by simpa using d2 hb1)
      have l1 := ll1 hb1
      refine c_take (w := 8) s2 (by omega) (by omega) (fun k8 σ3 f3 s3 => ?_) (fun k8 => ?_)
      · rw [show x1b t n f nest r1 = x1c t n f nest r1 (f 0 (nest + 1) (nx t n r1.2.1)) by unfold x1b; rw [if_pos ⟨hb1, k8⟩]] at h
        have hnx1 := nx_gt (t := t) (n := n) (q := r1.2.1) (by omega)
        have m03 := m02.tr (S3FM (g := g) f3)
        have D3 := D2.adv hg f3
        refine yes (by decide) ⟨g, rk m03, hg, ?_⟩
        refine c_emit (k := 13) (v := 0) hg D3.1 (by omega) (fun σ4 m4 fr4 a1 a2 a3 a4 => ?_)
        have m04 := m03.tr m4
        have s4 := CSg hg s3 fr4
        refine hF (nx t n r1.2.1) (L + r1.2.2.2.length + 1) σ4 _ (hI0.next m04 s4 a1 (by omega)) trivial (fun σ5 x5 => ?_)
        obtain ⟨m5, s5, d5⟩ := x5
        have ll2 := hl (nx t n r1.2.1)
        generalize f 0 (nest + 1) (nx t n r1.2.1) = r2 at h s5 d5 ll2 ⊢
        have m05 := m04.tr m5
        cases hb2 : r2.1
        · rw [show x1c t n f nest r1 r2 = xF r2.2.1 by unfold x1c; rw [if_neg (fun z => by rw [hb2] at z; exact absurd z.1 Bool.false_ne_true)]] at h
          exact yes rfl (h σ5 (XPf m05 s5))
        · refine no (by decide) ?_
          have D5 := d5 hb2
          have l2 := ll2 hb2
          refine c_take (w := 9) s5 (by omega) (by omega) (fun k9 σ6 f6 s6 => ?_) (fun k9 => ?_)
          · rw [show x1c t n f nest r1 r2 = x1d r1 r2 (f 0 (nest + 1) (nx t n r2.2.1)) by unfold x1c; rw [if_pos ⟨hb2, k9⟩]] at h
            have hnx2 := nx_gt (t := t) (n := n) (q := r2.2.1) (by omega)
            have m06 := m05.tr (S3FM (g := g) f6)
            have D6 := D5.adv hg f6
            refine yes (by decide) ⟨g, rk m06, hg, ?_⟩
            refine c_emit (k := 14) (v := 0) hg D6.1 (by omega) (fun σ7 m7 fr7 b1 b2 b3 b4 => ?_)
            have m07 := m06.tr m7
            have s7 := CSg hg s6 fr7
            have ecT : (nI (L + r1.2.2.2.length)).toNatClampNeg = L + r1.2.2.2.length := nI_clampE (by omega)
            refine ⟨g, rk m07, hg, g, rk m07, hg, by simp (disch := omega) only [nI_lit, nI_add, nI_mulE, nI_clampE, nI_eqE, nI_leE, nI_ltE, vp_nIE, true_and, and_true]; omega, ?_⟩
            rw [ecT, b1]
            refine fe ?_
            generalize hτ : ab_I σ7 (g + 14) (L + r1.2.2.2.length) (nI (L + r1.2.2.2.length + 1 + r2.2.2.2.length + 1)) = σ8
            have m8 : FM (SE g) σ7 σ8 := by rw [← hτ]; exact (FM.rf _ _).I (by simp [SE])
            have fr8 : Fr (fun a => decide (g ≤ a ∧ a ≤ g + 17)) σ7 σ8 := by rw [← hτ]; exact (Fr.rf _ _).I (by simp)
            have m08 := m07.tr m8
            have s8 := CSg hg s7 fr8
            have v8 : ∀ i, σ8.2.1 (g + 14) i = if i = L + r1.2.2.2.length then nI (L + r1.2.2.2.length + 1 + r2.2.2.2.length + 1) else σ7.2.1 (g + 14) i := fun i => by rw [← hτ]; simp [gI_I]
            have w8 : σ8.2.1 (g + 13) = σ7.2.1 (g + 13) := by rw [← hτ]; funext i; simp [gI_I]
            have l8 : σ8.2.1 g 14 = nI (L + r1.2.2.2.length + 1 + r2.2.2.2.length + 1) := by rw [← hτ]; simp [gI_I, b1]
            refine hF (nx t n r2.2.1) (L + r1.2.2.2.length + 1 + r2.2.2.2.length + 1) σ8 _ (hI0.next m08 s8 l8 (by omega)) trivial (fun σ9 x9 => ?_)
            obtain ⟨m9, s9, d9⟩ := x9
            have ll3 := hl (nx t n r2.2.1)
            generalize f 0 (nest + 1) (nx t n r2.2.1) = r3 at h s9 d9 ll3 ⊢
            have m09 := m08.tr m9
            cases hb3 : r3.1
            · rw [show x1d r1 r2 r3 = xF r3.2.1 by unfold x1d; rw [if_neg (by rw [hb3]; decide)]] at h
              exact no (by decide) (h σ9 (XPf m09 s9))
            · have D9 := d9 hb3
              have l3 := ll3 hb3
              have hle9 := s9.le
              have ecJ : (nI (L + r1.2.2.2.length + 1 + r2.2.2.2.length)).toNatClampNeg = L + r1.2.2.2.length + 1 + r2.2.2.2.length := nI_clampE (by omega)
              refine yes (by decide) ⟨g, rk m09, hg, g, rk m09, hg, by simp (disch := omega) only [nI_lit, nI_add, nI_mulE, nI_clampE, nI_eqE, nI_leE, nI_ltE, vp_nIE, true_and, and_true]; omega, ?_⟩
              rw [ecJ, D9.1]
              refine fe ?_
              rw [show x1d r1 r2 r3 = (true, r3.2.1, r1.2.2.1 ++ r2.2.2.1 ++ r3.2.2.1 ++ [(31, 0)], r1.2.2.2 ++ [(13, r2.2.2.2.length + 2)] ++ r2.2.2.2 ++ [(14, r3.2.2.2.length + 1)] ++ r3.2.2.2) by unfold x1d; rw [if_pos hb3]] at h
              generalize hυ : ab_I σ9 (g + 14) (L + r1.2.2.2.length + 1 + r2.2.2.2.length) (nI (L + r1.2.2.2.length + 1 + r2.2.2.2.length + 1 + r3.2.2.2.length)) = σ10
              have m10 : FM (SE g) σ9 σ10 := by rw [← hυ]; exact (FM.rf _ _).I (by simp [SE])
              have fr10 : Fr (fun a => decide (g ≤ a ∧ a ≤ g + 17)) σ9 σ10 := by rw [← hυ]; exact (Fr.rf _ _).I (by simp)
              have v10 : ∀ i, σ10.2.1 (g + 14) i = if i = L + r1.2.2.2.length + 1 + r2.2.2.2.length then nI (L + r1.2.2.2.length + 1 + r2.2.2.2.length + 1 + r3.2.2.2.length) else σ9.2.1 (g + 14) i := fun i => by rw [← hυ]; simp [gI_I]
              have w10 : σ10.2.1 (g + 13) = σ9.2.1 (g + 13) := by rw [← hυ]; funext i; simp [gI_I]
              have l10 : σ10.2.1 g 14 = nI (L + r1.2.2.2.length + 1 + r2.2.2.2.length + 1 + r3.2.2.2.length) := by rw [← hυ]; simp [gI_I, D9.1]
              -- what lies where at the end
              have e6 : ∀ k, σ6.2.1 (g + k) = σ5.2.1 (g + k) := fun k => f6.1 _ (S3_g hg)
              have e3 : ∀ k, σ3.2.1 (g + k) = σ2.2.1 (g + k) := fun k => f3.1 _ (S3_g hg)
              have K13 : ∀ i, i < L + r1.2.2.2.length + 1 + r2.2.2.2.length → σ10.2.1 (g + 13) i = σ5.2.1 (g + 13) i := fun i hi => by
                rw [w10, (D9.2.2.1 i (by omega)).1, w8, (b4 i (by omega)).1, e6]
              have K14 : ∀ i, i < L + r1.2.2.2.length + 1 + r2.2.2.2.length → i ≠ L + r1.2.2.2.length → σ10.2.1 (g + 14) i = σ5.2.1 (g + 14) i := fun i hi hi2 => by
                rw [v10, if_neg (by omega), (D9.2.2.1 i (by omega)).2, v8, if_neg hi2, (b4 i (by omega)).2, e6]
              have J13 : ∀ i, i < L + r1.2.2.2.length → σ5.2.1 (g + 13) i = σ2.2.1 (g + 13) i := fun i hi => by rw [(D5.2.2.1 i (by omega)).1, (a4 i (by omega)).1, e3]
              have J14 : ∀ i, i < L + r1.2.2.2.length → σ5.2.1 (g + 14) i = σ2.2.1 (g + 14) i := fun i hi => by rw [(D5.2.2.1 i (by omega)).2, (a4 i (by omega)).2, e3]
              refine h σ10 ⟨m09.tr m10, CSg hg s9 fr10, fun _ => ⟨?_, ?_, ?_, ?_⟩⟩
              · rw [l10]; congr 1; simp only [List.length_append, List.length_cons, List.length_nil]; omega
              · have A1 : CodeAt σ10 g L r1.2.2.2 := D2.2.1.keep (Nat.le_refl _) (fun i hi => ⟨by rw [K13 i (by omega), J13 i hi], by rw [K14 i (by omega) (by omega), J14 i hi]⟩)
                have A2 : CodeAt σ10 g (L + r1.2.2.2.length) [(13, r2.2.2.2.length + 2)] := by
                  intro i hi
                  have : i = 0 := by simp at hi; omega
                  subst this
                  refine ⟨?_, ?_⟩
                  · simp only [Nat.add_zero]; rw [K13 _ (by omega), (D5.2.2.1 _ (by omega)).1, a2]; rfl
                  · simp only [Nat.add_zero]; rw [v10, if_neg (by omega), (D9.2.2.1 _ (by omega)).2, v8, if_pos rfl]
                    show _ = nI (abn _ (13, r2.2.2.2.length + 2))
                    congr 1; simp [abn]; omega
                have A3 : CodeAt σ10 g (L + r1.2.2.2.length + 1) r2.2.2.2 := by
                  intro i hi
                  rw [K13 _ (by omega), K14 _ (by omega) (by omega)]
                  exact D5.2.1 i hi
                have A4 : CodeAt σ10 g (L + r1.2.2.2.length + 1 + r2.2.2.2.length) [(14, r3.2.2.2.length + 1)] := by
                  intro i hi
                  have : i = 0 := by simp at hi; omega
                  subst this
                  refine ⟨?_, ?_⟩
                  · simp only [Nat.add_zero]; rw [w10, (D9.2.2.1 _ (by omega)).1, w8, b2]; rfl
                  · simp only [Nat.add_zero]; rw [v10, if_pos rfl]
                    show _ = nI (abn _ (14, r3.2.2.2.length + 1))
                    congr 1; simp [abn]; omega
                have A5 : CodeAt σ10 g (L + r1.2.2.2.length + 1 + r2.2.2.2.length + 1) r3.2.2.2 := by
                  intro i hi
                  rw [w10, v10, if_neg (by omega)]
                  exact D9.2.1 i hi
                refine (((A1.app A2).app ?_).app ?_).app ?_
                · simp only [List.length_append, List.length_cons, List.length_nil]; rw [← Nat.add_assoc]; exact A3
                · simp only [List.length_append, List.length_cons, List.length_nil]; rw [← Nat.add_assoc, ← Nat.add_assoc]; exact A4
                · simp only [List.length_append, List.length_cons, List.length_nil]; rw [← Nat.add_assoc, ← Nat.add_assoc, ← Nat.add_assoc]; exact A5
              · intro i hi
                have := D2.2.2.1 i hi
                exact ⟨by rw [K13 i (by omega), J13 i (by omega)]; exact this.1, by rw [K14 i (by omega) (by omega), J14 i (by omega)]; exact this.2⟩
              · rw [fr10.1 7 (Sg_out hg (by omega)), D9.2.2.2, fr8.1 7 (Sg_out hg (by omega)), fr7.1 7 (Sg_out hg (by omega)), f6.1 7 rfl, D5.2.2.2, fr4.1 7 (Sg_out hg (by omega)), D3.2.2.2]
                simp only [nmF_app]
                rfl
          · rw [show x1c t n f nest r1 r2 = xF r2.2.1 by unfold x1c; rw [if_neg (fun z => k9 z.2)]] at h
            exact no (by decide) (h σ5 (XPf m05 s5))
      · rw [show x1b t n f nest r1 = xF r1.2.1 by unfold x1b; rw [if_neg (fun z => k8 z.2)]] at h
        exact no (by decide) (h σ2 (XPf m02 s2))
  · rw [show x1 t n f nest q = xF q by unfold x1; rw [if_neg h10]] at h
    exact no (by simp (disch := omega) only [nI_lit, nI_add, nI_mulE, nI_clampE, nI_eqE, nI_leE, nI_ltE, vp_nIE, true_and, and_true]; exact h10) (h σ (XPf (FM.rf _ _) hS))
/-- how deep the readers call each other -/
def xD (ix nest : Nat) : Nat := 5 * (10 - nest) + (if ix = 0 then 4 else if ix = 1 then 1 else if ix = 2 then 3 else if ix = 3 then 2 else if ix = 4 then 1 else if ix = 5 then 2 else 5)
theorem c_rec (hn : n ≤ 2400) : ∀ (d ix nest : Nat), ix < 7 → nest ≤ 10 → xD ix nest ≤ d → XOK t n g p K E (wRec d ix) (pX t n K d ix) nest (fun q => (ix = 1 ∨ ix = 5 ∨ ix = 6) → 2 ≤ tkK t n q) := by
  intro d
  induction d with
  | zero =>
    intro ix nest h1 h2 h3
    have : 1 ≤ xD ix nest := by unfold xD; (repeat' split) <;> omega
    omega
  | succ d ih =>
    have len : ∀ ix nest, ¬ (ix = 1 ∨ ix = 5 ∨ ix = 6) → ∀ q, XLn q (pX t n K d ix nest q) := fun ix nest hx q => pX_len t n K d ix nest q (fun z => absurd z hx)
    intro ix nest hix hnest hd
    match ix, hix with
    | 0, _ =>
      have hd : 5 * (10 - nest) + 4 ≤ d + 1 := hd
      intro q L σ Q hI _ h
      refine c_expr (F := wRec d) (f := pX t n K d) hn (len 2 nest (by omega)) ?_ ?_ q L σ Q hI trivial h
      · intro q L σ Q hI hk h; exact ih 1 nest (by omega) hnest (by show 5 * (10 - nest) + 1 ≤ d; omega) q L σ Q hI (fun _ => hk) h
      · intro q L σ Q hI hk h; exact ih 2 nest (by omega) hnest (by show 5 * (10 - nest) + 3 ≤ d; omega) q L σ Q hI (fun z => absurd z (by omega)) h
    | 1, _ =>
      have hd : 5 * (10 - nest) + 1 ≤ d + 1 := hd
      intro q L σ Q hI hk h
      refine c_choice (F := wRec d) (f := pX t n K d) hn hnest (len 0 (nest + 1) (by omega)) ?_ q L σ Q hI (hk (Or.inl rfl)) h
      intro h10 q L σ Q hI hk h; exact ih 0 (nest + 1) (by omega) (by omega) (by show 5 * (10 - (nest + 1)) + 4 ≤ d; omega) q L σ Q hI (fun z => absurd z (by omega)) h
    | 2, _ =>
      have hd : 5 * (10 - nest) + 3 ≤ d + 1 := hd
      intro q L σ Q hI _ h
      refine c_sum (F := wRec d) (f := pX t n K d) hn (len 3 nest (by omega)) ?_ q L σ Q hI trivial h
      intro q L σ Q hI hk h; exact ih 3 nest (by omega) hnest (by show 5 * (10 - nest) + 2 ≤ d; omega) q L σ Q hI (fun z => absurd z (by omega)) h
    | 3, _ =>
      have hd : 5 * (10 - nest) + 2 ≤ d + 1 := hd
      intro q L σ Q hI _ h
      refine c_prod (F := wRec d) (f := pX t n K d) hn (len 4 nest (by omega)) ?_ q L σ Q hI trivial h
      intro q L σ Q hI hk h; exact ih 4 nest (by omega) hnest (by show 5 * (10 - nest) + 1 ≤ d; omega) q L σ Q hI (fun z => absurd z (by omega)) h
    | 4, _ =>
      have hd : 5 * (10 - nest) + 1 ≤ d + 1 := hd
      intro q L σ Q hI _ h
      refine c_fac (F := wRec d) (f := pX t n K d) hn hnest ?_ ?_ q L σ Q hI trivial h
      · intro h10 q L σ Q hI hk h; exact ih 6 (nest + 1) (by omega) (by omega) (by show 5 * (10 - (nest + 1)) + 5 ≤ d; omega) q L σ Q hI (fun _ => hk) h
      · intro h10 q L σ Q hI hk h; exact ih 5 (nest + 1) (by omega) (by omega) (by show 5 * (10 - (nest + 1)) + 2 ≤ d; omega) q L σ Q hI (fun _ => hk) h
    | 5, _ =>
      have hd : 5 * (10 - nest) + 2 ≤ d + 1 := hd
      intro q L σ Q hI hk h
      refine c_neg (F := wRec d) (f := pX t n K d) hn (len 4 nest (by omega)) ?_ q L σ Q hI (hk (Or.inr (Or.inl rfl))) h
      intro q L σ Q hI hk h; exact ih 4 nest (by omega) hnest (by show 5 * (10 - nest) + 1 ≤ d; omega) q L σ Q hI (fun z => absurd z (by omega)) h
    | 6, _ =>
      have hd : 5 * (10 - nest) + 5 ≤ d + 1 := hd
      intro q L σ Q hI hk h
      refine c_br (F := wRec d) (f := pX t n K d) ?_ q L σ Q hI (hk (Or.inr (Or.inr rfl))) h
      intro q L σ Q hI hk h; exact ih 0 nest (by omega) hnest (by show 5 * (10 - nest) + 4 ≤ d; omega) q L σ Q hI (fun z => absurd z (by omega)) h
    | ix + 7, h => omega
end CL
