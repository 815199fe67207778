/-! ===== a fault's place lies in the text ===== -/
theorem nx_le {t : Nat → Nat} {n q : Nat} (h : q ≤ n) : nx t n q ≤ n := by
  unfold nx
  by_cases e : q < n
  · exact (sp_ge (p := bl) (t := t) (tkE_gt (t := t) e).2).2
  · have : tkE t n q = q := by unfold tkE; rw [if_pos (by omega)]
    rw [this]
    exact (sp_ge (p := bl) (t := t) h).2
theorem pSl_lf {t : Nat → Nat} {n : Nat} {K : PC} {d : Bool} {q : Nat} (h : q ≤ n) : (pSl t n K d q).2.1 ≤ n := by
  unfold pSl
  split
  · split
    · split
      · exact nx_le (nx_le (nx_le h))
      · exact nx_le (nx_le h)
    · exact nx_le h
  · exact h
theorem xBin_p {mo co : Nat} {r r2 : XR} : (xBin mo co r r2).2.1 = r2.2.1 := by unfold xBin; split <;> rfl
theorem xLp_le {t : Nat → Nat} {n : Nat} {F : Nat → Nat → Nat → XR} {nest ix a b m1 m2 c1 c2 : Nat} (hF : ∀ ix nest q, q ≤ n → (F ix nest q).2.1 ≤ n) : ∀ f r, r.2.1 ≤ n → (xLp t n F nest ix a b m1 m2 c1 c2 f r).2.1 ≤ n
  | 0, r, h => h
  | f + 1, r, h => by
    rw [xLp]
    split
    · split
      · refine xLp_le hF f _ ?_
        rw [xBin_p]; exact hF _ _ _ (nx_le h)
      · exact hF _ _ _ (nx_le h)
    · exact h
theorem pX_lf (t : Nat → Nat) (n : Nat) (K : PC) : ∀ d ix nest q, q ≤ n → (pX t n K d ix nest q).2.1 ≤ n
  | 0, _, _, q, h => by rw [pX]; exact h
  | d + 1, 0, nest, q, h => by
    have hF := pX_lf t n K d
    rw [pX, x0]
    split
    · exact hF _ _ _ h
    · split
      · split
        · rw [xBin_p]; exact hF _ _ _ (nx_le (hF _ _ _ h))
        · exact hF _ _ _ h
      · exact hF _ _ _ h
  | d + 1, 1, nest, q, h => by
    have hF := pX_lf t n K d
    rw [pX, x1]
    split
    · have a := hF 0 (nest + 1) _ (nx_le (t := t) h)
      rw [x1b]
      split
      · have b := hF 0 (nest + 1) _ (nx_le (t := t) a)
        rw [x1c]
        split
        · have c := hF 0 (nest + 1) _ (nx_le (t := t) b)
          rw [x1d]
          split
          · exact c
          · exact c
        · exact b
      · exact a
    · exact h
  | d + 1, 2, nest, q, h => by
    have hF := pX_lf t n K d
    rw [pX, x2]
    split
    · exact xLp_le hF _ _ (hF _ _ _ h)
    · exact hF _ _ _ h
  | d + 1, 3, nest, q, h => by
    have hF := pX_lf t n K d
    rw [pX, x3]
    split
    · exact xLp_le hF _ _ (hF _ _ _ h)
    · exact hF _ _ _ h
  | d + 1, 4, nest, q, h => by
    have hF := pX_lf t n K d
    rw [pX, x4]
    split
    · split
      · split
        · exact pSl_lf h
        · exact pSl_lf h
      · exact nx_le h
    · split
      · split
        · exact nx_le h
        · exact h
      · split
        · split
          · exact hF _ _ _ h
          · exact h
        · split
          · split
            · exact hF _ _ _ h
            · exact h
          · exact h
  | d + 1, 5, nest, q, h => by
    have hF := pX_lf t n K d
    rw [pX, x5]
    split
    · exact hF _ _ _ (nx_le h)
    · exact hF _ _ _ (nx_le h)
  | d + 1, 6, nest, q, h => by
    have hF := pX_lf t n K d
    rw [pX, x6]
    split
    · exact nx_le (hF _ _ _ (nx_le h))
    · exact hF _ _ _ (nx_le h)
  | d + 1, k + 7, nest, q, h => by
    have e : pX t n K (d + 1) (k + 7) nest q = xF q := by rw [pX] <;> omega
    rw [e]; exact h
theorem pRu_lf {t : Nat → Nat} {n q lm lc : Nat} {G : SYT} {P : PRO} (h : q ≤ n) : (pRu t n G P lm lc q).2.1 ≤ n := by
  unfold pRu pRu1
  have a := pSl_lf (t := t) (K := kOf G P) (d := true) h
  split
  · have b := pX_lf t n (kOf G (pdf P (pSl t n (kOf G P) true q).2.2)) 60 0 0 _ (nx_le (t := t) a)
    unfold pRu2
    split
    · exact nx_le b
    · exact b
  · exact a
theorem pRs_lf {t : Nat → Nat} {n : Nat} {G : SYT} : ∀ f q P lm lc, q ≤ n → (pRs t n G f q P lm lc).2.1 ≤ n
  | 0, q, P, lm, lc, h => h
  | f + 1, q, P, lm, lc, h => by
    rw [pRs]
    split
    · split
      · exact pRs_lf f _ _ _ _ (pRu_lf h)
      · exact pRu_lf h
    · exact h
theorem pOcs_lf {t : Nat → Nat} {n : Nat} {G : SYT} : ∀ f q P, q ≤ n → (pOcs t n G f q P).2.1 ≤ n
  | 0, q, P, h => h
  | f + 1, q, P, h => by
    rw [pOcs]
    split
    · split
      · exact pOcs_lf f _ _ (nx_le h)
      · exact h
    · exact h
theorem pP4_le {t : Nat → Nat} {n lm lc : Nat} {G : SYT} {u : Bool × Nat × PRO} (h : u.2.1 ≤ n) : (pP4 t n G lm lc u).2.1 ≤ n := by
  unfold pP4
  split
  · unfold pP5
    split
    · have a := pRs_lf (t := t) (G := G) 33 _ u.2.2 lm lc (nx_le (t := t) h)
      unfold pP6
      split
      · exact nx_le a
      · exact a
    · exact h
  · exact h
theorem pPr_lf {t : Nat → Nat} {n q : Nat} {Γ : GRT} (h : q ≤ n) : (pPr t n Γ q).2.1 ≤ n := by
  unfold pPr
  split
  · unfold pP0
    split
    · unfold pP1
      split
      · unfold pP2
        split
        · unfold pP3
          split
          · exact pP4_le (pOcs_lf _ _ _ (nx_le (nx_le (nx_le (nx_le (nx_le h))))))
          · exact pP4_le (pOcs_lf _ _ _ (nx_le (nx_le (nx_le (nx_le h)))))
        · exact nx_le (nx_le (nx_le h))
      · exact nx_le (nx_le h)
    · exact nx_le h
  · exact h
theorem pRr_le {t : Nat → Nat} {n : Nat} : ∀ f q Γ, q ≤ n → (pRr t n f q Γ).2.1 ≤ n
  | 0, q, Γ, h => h
  | f + 1, q, Γ, h => by
    rw [pRr]
    split
    · split
      · exact pPr_lf h
      · exact pRr_le f _ _ (pPr_lf h)
    · exact pPr_lf h
theorem pAt_lf {t : Nat → Nat} {n s : Nat} {d : Bool} : ∀ f q G, q ≤ n → (pAt t n s d f q G).2.1 ≤ n
  | 0, q, G, h => h
  | f + 1, q, G, h => by
    rw [pAt]
    split
    · split
      · exact pAt_lf f _ _ (nx_le (nx_le h))
      · exact nx_le h
    · exact h
theorem pS3_le {t : Nat → Nat} {n q : Nat} {G : SYT} (h : q ≤ n) : (pS3 t n q G).2.1 ≤ n := by
  unfold pS3
  split
  · exact nx_le h
  · exact h
theorem pSy_lf {t : Nat → Nat} {n q : Nat} {G : SYT} (h : q ≤ n) : (pSy t n q G).2.1 ≤ n := by
  have s2 : ∀ s q G, q ≤ n → (pS2 t n s q G).2.1 ≤ n := by
    intro s q G h
    unfold pS2
    split
    · have a := pAt_lf (t := t) (s := s) (d := false) 9 _ G (nx_le (t := t) h)
      split
      · exact pS3_le a
      · exact a
    · exact pS3_le h
  have s1 : ∀ s q G, q ≤ n → (pS1 t n s q G).2.1 ≤ n := by
    intro s q G h
    unfold pS1
    split
    · have a := pAt_lf (t := t) (s := s) (d := true) 9 _ G (nx_le (t := t) h)
      split
      · exact h
      · split
        · exact s2 _ _ _ a
        · exact a
    · exact s2 _ _ _ h
  unfold pSy
  split
  · split
    · exact s1 _ _ _ (nx_le (nx_le h))
    · exact nx_le h
  · exact h
theorem pSys_le {t : Nat → Nat} {n : Nat} : ∀ f q G, q ≤ n → (pSys t n f q G).2.1 ≤ n
  | 0, q, G, h => h
  | f + 1, q, G, h => by
    rw [pSys]
    split
    · split
      · exact pSys_le f _ _ (pSy_lf h)
      · exact pSy_lf h
    · exact h
theorem pGr_le (t : Nat → Nat) (n : Nat) : (pGr t n).2.1 ≤ n := by
  have a := pSy_lf (t := t) (G := sy0) (sp_ge (p := bl) (t := t) (Nat.zero_le n)).2
  unfold pGr pG1
  split
  · have b := pSys_le (t := t) 11 _ (pSy t n (sp bl t n 0) sy0).2.2 a
    unfold pG2
    split
    · exact pRr_le _ _ _ b
    · exact b
  · exact a
