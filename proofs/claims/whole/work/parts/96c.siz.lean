/-! ===== how much code there can be ===== -/
def wP (D : (Nat → Bool) × (Nat → RUL)) : Nat → Nat
  | 0 => 0
  | k + 1 => wP D k + (if D.1 k then (D.2 k).2.2.2.length + 1 else 0)
def wGs (Γ : GRT) : Nat → Nat
  | 0 => 0
  | p + 1 => wGs Γ p + wP (Γ.2.2.1 p).2.2.2.2 32
theorem wP_rl {P : PRO} {s : Nat} {r : RUL} : ∀ k, wP (prl (pdf P s) s r).2.2.2.2 k ≤ wP P.2.2.2.2 k + (if s < k then r.2.2.2.length + 1 else 0)
  | 0 => Nat.zero_le _
  | k + 1 => by
    have ih := wP_rl (P := P) (s := s) (r := r) k
    show wP (prl (pdf P s) s r).2.2.2.2 k + (if uf P.2.2.2.2.1 s true k then (uf P.2.2.2.2.2 s r k).2.2.2.length + 1 else 0) ≤ wP P.2.2.2.2 k + (if P.2.2.2.2.1 k then (P.2.2.2.2.2 k).2.2.2.length + 1 else 0) + _
    by_cases e : k = s
    · subst e
      rw [uf_s, uf_s, if_pos rfl, if_pos (show k < k + 1 by omega)]
      rw [if_neg (show ¬ k < k by omega)] at ih
      omega
    · rw [uf_o _ _ e, uf_o _ _ e]
      have : (if s < k then r.2.2.2.length + 1 else 0) = (if s < k + 1 then r.2.2.2.length + 1 else 0) := by
        by_cases h : s < k
        · rw [if_pos h, if_pos (by omega)]
        · rw [if_neg h, if_neg (by omega)]
      rw [← this]
      omega
theorem pRu_w {t : Nat → Nat} {n q lm lc : Nat} {G : SYT} {P : PRO} (h : (pRu t n G P lm lc q).1 = true) : wP (pRu t n G P lm lc q).2.2.1.2.2.2.2 32 + q ≤ wP P.2.2.2.2 32 + (pRu t n G P lm lc q).2.1 ∧ (pRu t n G P lm lc q).2.2.2.1 + q ≤ lm + (pRu t n G P lm lc q).2.1 ∧ (pRu t n G P lm lc q).2.2.2.2 + q ≤ lc + (pRu t n G P lm lc q).2.1 := by
  unfold pRu pRu1 at h ⊢
  by_cases k : (pSl t n (kOf G P) true q).1 = true ∧ tkK t n (pSl t n (kOf G P) true q).2.1 = 61
  · rw [if_pos k] at h ⊢
    obtain ⟨p1, p2, p3, p4, p5, p6, p7⟩ := pSl_ok k.1
    have g1 := (nx_gt (t := t) (n := n) (q := q) (by omega)).1
    have g2 := (nx_gt (t := t) (n := n) (q := nx t n q) (by omega)).1
    have g3 := (nx_gt (t := t) (n := n) (q := nx t n (nx t n q)) (by omega)).1
    have g4 := (nx_gt (t := t) (n := n) (q := (pSl t n (kOf G P) true q).2.1) (by omega)).1
    have e1 : (pSl t n (kOf G P) true q).2.1 = nx t n (nx t n (nx t n q)) := by rw [p7]
    have hx := pX_len t n (kOf G (pdf P (pSl t n (kOf G P) true q).2.2)) 60 0 0 (nx t n (pSl t n (kOf G P) true q).2.1) (fun z => by omega)
    generalize pX t n (kOf G (pdf P (pSl t n (kOf G P) true q).2.2)) 60 0 0 (nx t n (pSl t n (kOf G P) true q).2.1) = r at h hx ⊢
    generalize (pSl t n (kOf G P) true q).2.2 = s at *
    generalize (pSl t n (kOf G P) true q).2.1 = q1 at *
    unfold pRu2 at h ⊢
    by_cases k2 : r.1 = true ∧ tkK t n r.2.1 = 59
    · rw [if_pos k2] at h ⊢
      have hx := hx k2.1
      have g5 := (nx_gt (t := t) (n := n) (q := r.2.1) (by omega)).1
      have := wP_rl (P := P) (s := s) (r := (lm, r.2.2.1, lc, r.2.2.2)) 32
      show wP (prl (pdf P s) s (lm, r.2.2.1, lc, r.2.2.2)).2.2.2.2 32 + q ≤ wP P.2.2.2.2 32 + nx t n r.2.1 ∧ lm + r.2.2.1.length + q ≤ lm + nx t n r.2.1 ∧ lc + r.2.2.2.length + q ≤ lc + nx t n r.2.1
      have h2 : (if s < 32 then r.2.2.2.length + 1 else 0) ≤ r.2.2.2.length + 1 := by split <;> omega
      have h3 : (if s < 32 then (lm, r.2.2.1, lc, r.2.2.2).2.2.2.length + 1 else 0) = (if s < 32 then r.2.2.2.length + 1 else 0) := rfl
      rw [h3] at this
      omega
    · rw [if_neg k2] at h; exact absurd h Bool.false_ne_true
  · rw [if_neg k] at h; exact absurd h Bool.false_ne_true
theorem pRs_w {t : Nat → Nat} {n : Nat} {G : SYT} : ∀ f q P lm lc, (pRs t n G f q P lm lc).1 = true → wP (pRs t n G f q P lm lc).2.2.1.2.2.2.2 32 + q ≤ wP P.2.2.2.2 32 + (pRs t n G f q P lm lc).2.1 ∧ (pRs t n G f q P lm lc).2.2.2.1 + q ≤ lm + (pRs t n G f q P lm lc).2.1 ∧ (pRs t n G f q P lm lc).2.2.2.2 + q ≤ lc + (pRs t n G f q P lm lc).2.1
  | 0, q, P, lm, lc, _ => ⟨Nat.le_refl _, Nat.le_refl _, Nat.le_refl _⟩
  | f + 1, q, P, lm, lc, h => by
    rw [pRs] at h ⊢
    by_cases k : tkK t n q = 3
    · rw [if_pos k] at h ⊢
      by_cases k2 : (pRu t n G P lm lc q).1 = true
      · rw [if_pos k2] at h ⊢
        have a := pRu_w k2
        have b := pRs_w f _ _ _ _ h
        omega
      · rw [if_neg k2] at h; exact absurd h Bool.false_ne_true
    · rw [if_neg k] at h ⊢; exact ⟨Nat.le_refl _, Nat.le_refl _, Nat.le_refl _⟩
theorem pOcs_w {t : Nat → Nat} {n : Nat} {G : SYT} : ∀ f q P, q ≤ (pOcs t n G f q P).2.1 ∧ (pOcs t n G f q P).2.2.2.2.2.2 = P.2.2.2.2
  | 0, q, P => ⟨Nat.le_refl _, rfl⟩
  | f + 1, q, P => by
    rw [pOcs]
    split
    · rename_i k
      split
      · have ih := pOcs_w (t := t) (n := n) (G := G) f (nx t n q) (pao P (fi G.2.1 G.1 (nml t n q)))
        have := (nx_gt (t := t) (n := n) (q := q) (by omega)).1
        exact ⟨by omega, ih.2⟩
      · exact ⟨Nat.le_refl _, rfl⟩
    · exact ⟨Nat.le_refl _, rfl⟩
theorem wP_0 (f : Nat → RUL) : ∀ k, wP (fun _ => false, f) k = 0
  | 0 => rfl
  | k + 1 => by show wP (fun _ => false, f) k + 0 = 0; rw [wP_0 f k]
theorem pPr_w (t : Nat → Nat) (n : Nat) (Γ : GRT) (q : Nat) (h : (pPr t n Γ q).1 = true) : wP (pPr t n Γ q).2.2.1.2.2.2.2 32 + q ≤ (pPr t n Γ q).2.1 ∧ (pPr t n Γ q).2.1 ≤ n ∧ (pPr t n Γ q).2.2.2.1 + q ≤ Γ.2.2.2.1 + (pPr t n Γ q).2.1 ∧ (pPr t n Γ q).2.2.2.2 + q ≤ Γ.2.2.2.2 + (pPr t n Γ q).2.1 := by
  unfold pPr at h ⊢
  by_cases k : tkK t n q = 2 ∧ fi (fun i => (Γ.2.2.1 i).1) Γ.2.1 (nml t n q) = Γ.2.1
  · rw [if_pos k] at h ⊢
    have g1 := (nx_gt (t := t) (n := n) (q := q) (by omega)).1
    unfold pP0 at h ⊢
    split at h
    · rename_i k58
      rw [if_pos k58]
      have g2 := (nx_gt (t := t) (n := n) (q := nx t n q) (by omega)).1
      unfold pP1 at h ⊢
      split at h
      · rename_i k2
        rw [if_pos k2]
        have g3 := (nx_gt (t := t) (n := n) (q := nx t n (nx t n q)) (by omega)).1
        unfold pP2 at h ⊢
        split at h
        · rename_i k61
          rw [if_pos k61]
          have g4 := (nx_gt (t := t) (n := n) (q := nx t n (nx t n (nx t n q))) (by omega)).1
          have fin : ∀ q' (P' : PRO), q ≤ q' → wP P'.2.2.2.2 32 = 0 → (pP4 t n Γ.1 Γ.2.2.2.1 Γ.2.2.2.2 (pOcs t n Γ.1 3 q' P')).1 = true → wP (pP4 t n Γ.1 Γ.2.2.2.1 Γ.2.2.2.2 (pOcs t n Γ.1 3 q' P')).2.2.1.2.2.2.2 32 + q ≤ (pP4 t n Γ.1 Γ.2.2.2.1 Γ.2.2.2.2 (pOcs t n Γ.1 3 q' P')).2.1 ∧ (pP4 t n Γ.1 Γ.2.2.2.1 Γ.2.2.2.2 (pOcs t n Γ.1 3 q' P')).2.1 ≤ n ∧ (pP4 t n Γ.1 Γ.2.2.2.1 Γ.2.2.2.2 (pOcs t n Γ.1 3 q' P')).2.2.2.1 + q ≤ Γ.2.2.2.1 + (pP4 t n Γ.1 Γ.2.2.2.1 Γ.2.2.2.2 (pOcs t n Γ.1 3 q' P')).2.1 ∧ (pP4 t n Γ.1 Γ.2.2.2.1 Γ.2.2.2.2 (pOcs t n Γ.1 3 q' P')).2.2.2.2 + q ≤ Γ.2.2.2.2 + (pP4 t n Γ.1 Γ.2.2.2.1 Γ.2.2.2.2 (pOcs t n Γ.1 3 q' P')).2.1 := by
            intro q' P' hq' hP' hy
            have h1 := pOcs_w (t := t) (n := n) (G := Γ.1) 3 q' P'
            rw [← h1.2] at hP'
            generalize pOcs t n Γ.1 3 q' P' = y at hy h1 hP' ⊢
            unfold pP4 at hy ⊢
            split at hy
            · rename_i hy1
              rw [if_pos hy1]
              unfold pP5 at hy ⊢
              split at hy
              · rename_i k123
                rw [if_pos k123]
                have g5 := (nx_gt (t := t) (n := n) (q := y.2.1) (by omega)).1
                have hge := pRs_w (t := t) (n := n) (G := Γ.1) 33 (nx t n y.2.1) y.2.2 Γ.2.2.2.1 Γ.2.2.2.2
                generalize pRs t n Γ.1 33 (nx t n y.2.1) y.2.2 Γ.2.2.2.1 Γ.2.2.2.2 = w at hy hge ⊢
                unfold pP6 at hy ⊢
                split at hy
                · rename_i hw
                  rw [if_pos hw]
                  have g6 := nx_gt (t := t) (n := n) (q := w.2.1) (by have := hw.2.2; omega)
                  have hge := hge hw.1
                  have h11 := h1.1
                  refine ⟨?_, g6.2, ?_, ?_⟩
                  · show wP w.2.2.1.2.2.2.2 32 + q ≤ nx t n w.2.1
                    omega
                  · show w.2.2.2.1 + q ≤ Γ.2.2.2.1 + nx t n w.2.1
                    omega
                  · show w.2.2.2.2 + q ≤ Γ.2.2.2.2 + nx t n w.2.1
                    omega
                · exact absurd hy Bool.false_ne_true
              · exact absurd hy Bool.false_ne_true
            · exact absurd hy Bool.false_ne_true
          unfold pP3 at h ⊢
          split at h
          · rename_i k35
            rw [if_pos k35]
            have g5 := (nx_gt (t := t) (n := n) (q := nx t n (nx t n (nx t n (nx t n q)))) (by omega)).1
            exact fin _ _ (by omega) (wP_0 _ 32) h
          · rename_i k35
            rw [if_neg k35]
            exact fin _ _ (by omega) (wP_0 _ 32) h
        · exact absurd h Bool.false_ne_true
      · exact absurd h Bool.false_ne_true
    · exact absurd h Bool.false_ne_true
  · rw [if_neg k] at h; exact absurd h Bool.false_ne_true
theorem wGs_gP {Γ : GRT} {u : RRs} : ∀ k, k ≤ Γ.2.1 → wGs (gP Γ u) k = wGs Γ k
  | 0, _ => rfl
  | k + 1, h => by
    show wGs (gP Γ u) k + wP (uf Γ.2.2.1 Γ.2.1 u.2.2.1 k).2.2.2.2 32 = _
    rw [wGs_gP k (by omega), uf_o _ _ (by omega)]; rfl
theorem pRr_w {t : Nat → Nat} {n : Nat} : ∀ f q Γ, wGs Γ Γ.2.1 ≤ q → Γ.2.2.2.1 ≤ q → Γ.2.2.2.2 ≤ q → (pRr t n f q Γ).1 = true → wGs (pRr t n f q Γ).2.2 (pRr t n f q Γ).2.2.2.1 ≤ n ∧ (pRr t n f q Γ).2.2.2.2.2.1 ≤ n ∧ (pRr t n f q Γ).2.2.2.2.2.2 ≤ n
  | 0, q, Γ, _, _, _, h => absurd h Bool.false_ne_true
  | f + 1, q, Γ, hq, hq1, hq2, h => by
    rw [pRr] at h ⊢
    by_cases k : (pPr t n Γ q).1 = true
    · rw [if_pos k] at h ⊢
      obtain ⟨a1, a2, a3, a4⟩ := pPr_w t n Γ q k
      have e : wGs (gP Γ (pPr t n Γ q)) (gP Γ (pPr t n Γ q)).2.1 = wGs Γ Γ.2.1 + wP (pPr t n Γ q).2.2.1.2.2.2.2 32 := by
        show wGs (gP Γ (pPr t n Γ q)) Γ.2.1 + wP (uf Γ.2.2.1 Γ.2.1 (pPr t n Γ q).2.2.1 Γ.2.1).2.2.2.2 32 = _
        rw [wGs_gP _ (Nat.le_refl _), uf_s]
      by_cases k2 : tkK t n (pPr t n Γ q).2.1 = 0
      · rw [if_pos k2] at h ⊢
        show wGs (gP Γ (pPr t n Γ q)) (gP Γ (pPr t n Γ q)).2.1 ≤ n ∧ (pPr t n Γ q).2.2.2.1 ≤ n ∧ (pPr t n Γ q).2.2.2.2 ≤ n
        omega
      · rw [if_neg k2] at h ⊢
        exact pRr_w f _ _ (by omega) (by show (pPr t n Γ q).2.2.2.1 ≤ _; omega) (by show (pPr t n Γ q).2.2.2.2 ≤ _; omega) h
    · rw [if_neg k] at h; exact absurd h Bool.false_ne_true
theorem pGr_w {t : Nat → Nat} {n : Nat} (h : (pGr t n).1 = true) : wGs (pGr t n).2.2 (pGr t n).2.2.2.1 ≤ n ∧ (pGr t n).2.2.2.2.2.1 ≤ n ∧ (pGr t n).2.2.2.2.2.2 ≤ n := by
  unfold pGr pG1 at h ⊢
  split at h
  · rename_i k
    rw [if_pos k]
    unfold pG2 at h ⊢
    split at h
    · rename_i k2
      rw [if_pos k2]
      exact pRr_w 30 _ _ (Nat.zero_le _) (Nat.zero_le _) (Nat.zero_le _) h
    · exact absurd h Bool.false_ne_true
  · exact absurd h Bool.false_ne_true
