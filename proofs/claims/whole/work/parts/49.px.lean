/-! ===== expressions: their picture ===== -/
def nvF (t : Nat → Nat) : Nat → Nat → Nat → Nat
  | 0, _, a => a
  | m + 1, i, a => nvF t m (i + 1) (a * 10 + (t i - 48))
/-- the number at a token -/
def nv (t : Nat → Nat) (n q : Nat) : Nat := nvF t (tkE t n q - q) q 0
theorem nvF_lt (t : Nat → Nat) : ∀ m i a k, (∀ j, i ≤ j → j < i + m → 48 ≤ t j ∧ t j ≤ 57) → a < 10 ^ k → nvF t m i a < 10 ^ (k + m)
  | 0, _, _, _, _, h => h
  | m + 1, i, a, k, hd, h => by
    rw [nvF, show k + (m + 1) = (k + 1) + m by omega]
    refine nvF_lt t m (i + 1) _ (k + 1) (fun j x y => hd j (by omega) (by omega)) ?_
    have := hd i (by omega) (by omega)
    rw [Nat.pow_succ]; omega
theorem dcI_n (t : Nat → Nat) : ∀ m i a k, (∀ j, i ≤ j → j < i + m → 48 ≤ t j ∧ t j ≤ 57) → a < 10 ^ k → k + m ≤ 9 → dcI t m i (lN a) = lN (nvF t m i a)
  | 0, _, _, _, _, _, _ => rfl
  | m + 1, i, a, k, hd, ha, hk => by
    have hc := hd i (by omega) (by omega)
    have hp : 10 ^ (k + 1) ≤ 10 ^ 9 := Nat.pow_le_pow_right (by omega) (by omega)
    have hp2 : a * 10 + (t i - 48) < 10 ^ (k + 1) := by rw [Nat.pow_succ]; omega
    have e : lN a * (10 : Int64) + (nI (t i)).toInt64 - (48 : Int64) = lN (a * 10 + (t i - 48)) := by
      rw [nI_l (by omega)]
      apply Int64.toBitVec_inj.mp
      apply BitVec.eq_of_toNat_eq
      have h64 : (10 : Nat) ^ 9 < 2 ^ 62 := by decide
      rw [Int64.toBitVec_sub, Int64.toBitVec_add, Int64.toBitVec_mul, wb_tb, wb_tb, wb_tb]
      show (BitVec.ofNat 64 a * BitVec.ofNat 64 10 + BitVec.ofNat 64 (t i) - BitVec.ofNat 64 48).toNat = _
      rw [← BitVec.ofNat_mul, ← BitVec.ofNat_add, BitVec.toNat_sub, BitVec.toNat_ofNat, BitVec.toNat_ofNat, BitVec.toNat_ofNat]
      rw [Nat.mod_eq_of_lt (a := a * 10 + t i) (by omega), Nat.mod_eq_of_lt (a := 48) (by omega), Nat.mod_eq_of_lt (a := a * 10 + (t i - 48)) (by omega)]
      omega
    rw [dcI, nvF, e]
    exact dcI_n t m (i + 1) _ (k + 1) (fun j x y => hd j (by omega) (by omega)) hp2 (by omega)
theorem num_v {t : Nat → Nat} {n q : Nat} (h : tkK t n q = 3) : (ctn t n q).toInt32 = nI (nv t n q) ∧ nv t n q < 1000000 ∧ tkE t n q - q ≤ 6 ∧ ∀ j, q ≤ j → j < tkE t n q → 48 ≤ t j ∧ t j ≤ 57 := by
  have hq := tkK_end (t := t) (n := n) (q := q) (by omega)
  have hg := tkE_gt (t := t) hq
  unfold tkK at h
  rw [if_neg (by omega)] at h
  cases hb : ltr (t q)
  · rw [hb] at h
    simp only [Bool.false_eq_true, if_false] at h
    cases hd : dgt (t q)
    · rw [hd] at h
      simp only [Bool.false_eq_true, if_false] at h
      split at h
      · rename_i hs; have := sgn_ge hs; omega
      · omega
    · rw [hd] at h
      simp only [if_true] at h
      have he : tkE t n q = sp dgt t n q := by unfold tkE; rw [if_neg (by omega), hb, hd]; simp
      split at h
      · omega
      · have hin : ∀ j, q ≤ j → j < tkE t n q → 48 ≤ t j ∧ t j ≤ 57 := fun j a b => by
          have := sp_in (p := dgt) (t := t) (n := n) (i := q) (by omega) j a (by omega)
          simpa [dgt] using this
        have hlen : tkE t n q - q ≤ 6 := by omega
        have hlt : nv t n q < 10 ^ (0 + (tkE t n q - q)) := nvF_lt t _ q 0 0 (fun j a b => hin j a (by omega)) (by decide)
        have hp : 10 ^ (0 + (tkE t n q - q)) ≤ 10 ^ 6 := Nat.pow_le_pow_right (by omega) (by omega)
        refine ⟨?_, by omega, hlen, hin⟩
        unfold ctn
        rw [hb, if_neg (by decide), ← he, show (0 : Int64) = lN 0 from rfl, dcI_n t _ q 0 0 (fun j a b => hin j a (by omega)) (by decide) (by omega)]
        show (lN (nv t n q)).toInt32 = _
        apply Int32.toBitVec_inj.mp
        rw [Int64.toBitVec_toInt32, wb_tb, BitVec.signExtend_eq_setWidth_of_le _ (by decide)]
        show _ = BitVec.ofNat 32 _
        apply BitVec.eq_of_toNat_eq
        simp
  · rw [hb] at h
    simp only [if_true] at h
    have := kw_b t q (sp ltr t n q)
    split at h <;> omega
theorem nx_gt {t : Nat → Nat} {n q : Nat} (h : 2 ≤ tkK t n q) : q < nx t n q ∧ nx t n q ≤ n := by
  have h1 := tkK_end (t := t) (n := n) (q := q) (by omega)
  have h2 := tkE_gt (t := t) h1
  have h3 := sp_ge (p := bl) (t := t) h2.2
  unfold nx; omega
abbrev XR : Type := Bool × Nat × List (Nat × Nat) × List (Nat × Nat)
def xF (q : Nat) : XR := (false, q, [], [])
/-- what a production's rules stand in: symbols, how many on the right, occurrences, a literal, what is defined -/
abbrev PC : Type := SYT × Nat × (Nat → Nat) × Bool × (Nat → Bool)
def slA (t : Nat → Nat) (n : Nat) (K : PC) (q : Nat) : Nat := fi (K.1.2.2.2.2 (K.2.2.1 (nv t n q))) (K.1.2.2.1 (K.2.2.1 (nv t n q))) (nml t n (nx t n (nx t n q)))
/-- whether OCCURRENCE . ATTRIBUTE, from q on, is one that may be here -/
def slC (t : Nat → Nat) (n : Nat) (K : PC) (d : Bool) (q : Nat) : Bool := decide (tkK t n (nx t n (nx t n q)) = 2) && (decide (slA t n K q < K.1.2.2.1 (K.2.2.1 (nv t n q))) && ((K.1.2.2.2.1 (K.2.2.1 (nv t n q)) (slA t n K q) == (d == decide (0 < nv t n q))) && !(d && K.2.2.2.2 (8 * nv t n q + slA t n K q))))
def pSl (t : Nat → Nat) (n : Nat) (K : PC) (d : Bool) (q : Nat) : Bool × Nat × Nat :=
  if tkK t n q = 3 ∧ nv t n q ≤ K.2.1 then
    (if tkK t n (nx t n q) = 46 then (if slC t n K d q then (true, nx t n (nx t n (nx t n q)), 8 * nv t n q + slA t n K q) else (false, nx t n (nx t n q), 0))
    else (false, nx t n q, 0))
  else (false, q, 0)
theorem pSl_ok {t : Nat → Nat} {n : Nat} {K : PC} {d : Bool} {q : Nat} (h : (pSl t n K d q).1 = true) : tkK t n q = 3 ∧ nv t n q ≤ K.2.1 ∧ tkK t n (nx t n q) = 46 ∧ slC t n K d q = true ∧ tkK t n (nx t n (nx t n q)) = 2 ∧ slA t n K q < K.1.2.2.1 (K.2.2.1 (nv t n q)) ∧ pSl t n K d q = (true, nx t n (nx t n (nx t n q)), 8 * nv t n q + slA t n K q) := by
  unfold pSl at h ⊢
  by_cases a : tkK t n q = 3 ∧ nv t n q ≤ K.2.1
  · rw [if_pos a] at h ⊢
    by_cases b : tkK t n (nx t n q) = 46
    · rw [if_pos b] at h ⊢
      by_cases c : slC t n K d q = true
      · have c2 := c
        rw [if_pos c]
        simp only [slC, Bool.and_eq_true, decide_eq_true_eq] at c2
        exact ⟨a.1, a.2, b, c, c2.1, c2.2.1, rfl⟩
      · rw [if_neg c] at h; exact absurd h Bool.false_ne_true
    · rw [if_neg b] at h; exact absurd h Bool.false_ne_true
  · rw [if_neg a] at h; exact absurd h Bool.false_ne_true
def xBin (mo co : Nat) (r r2 : XR) : XR := if r2.1 then (true, r2.2.1, r.2.2.1 ++ r2.2.2.1 ++ [(mo, 0)], r.2.2.2 ++ r2.2.2.2 ++ [(co, 0)]) else xF r2.2.1
def xLp (t : Nat → Nat) (n : Nat) (F : Nat → Nat → Nat → XR) (nest ix a b m1 m2 c1 c2 : Nat) : Nat → XR → XR
  | 0, r => r
  | f + 1, r => if tkK t n r.2.1 = a ∨ tkK t n r.2.1 = b then
      (if (F ix nest (nx t n r.2.1)).1 then xLp t n F nest ix a b m1 m2 c1 c2 f (xBin (if tkK t n r.2.1 = a then m1 else m2) (if tkK t n r.2.1 = a then c1 else c2) r (F ix nest (nx t n r.2.1))) else xF (F ix nest (nx t n r.2.1)).2.1)
    else r
def x0 (t : Nat → Nat) (n : Nat) (F : Nat → Nat → Nat → XR) (nest q : Nat) : XR := if tkK t n q = 7 then F 1 nest q else
  if (F 2 nest q).1 then (if tkK t n (F 2 nest q).2.1 = 60 ∨ tkK t n (F 2 nest q).2.1 = 61 then xBin (if tkK t n (F 2 nest q).2.1 = 60 then 17 else 4) (if tkK t n (F 2 nest q).2.1 = 60 then 11 else 12) (F 2 nest q) (F 2 nest (nx t n (F 2 nest q).2.1)) else F 2 nest q) else xF (F 2 nest q).2.1
def x1d (r1 r2 r3 : XR) : XR := if r3.1 then (true, r3.2.1, r1.2.2.1 ++ r2.2.2.1 ++ r3.2.2.1 ++ [(31, 0)], r1.2.2.2 ++ [(13, r2.2.2.2.length + 2)] ++ r2.2.2.2 ++ [(14, r3.2.2.2.length + 1)] ++ r3.2.2.2) else xF r3.2.1
def x1c (t : Nat → Nat) (n : Nat) (F : Nat → Nat → Nat → XR) (nest : Nat) (r1 r2 : XR) : XR := if r2.1 = true ∧ tkK t n r2.2.1 = 9 then x1d r1 r2 (F 0 (nest + 1) (nx t n r2.2.1)) else xF r2.2.1
def x1b (t : Nat → Nat) (n : Nat) (F : Nat → Nat → Nat → XR) (nest : Nat) (r1 : XR) : XR := if r1.1 = true ∧ tkK t n r1.2.1 = 8 then x1c t n F nest r1 (F 0 (nest + 1) (nx t n r1.2.1)) else xF r1.2.1
def x1 (t : Nat → Nat) (n : Nat) (F : Nat → Nat → Nat → XR) (nest q : Nat) : XR := if nest < 10 then x1b t n F nest (F 0 (nest + 1) (nx t n q)) else xF q
def x2 (t : Nat → Nat) (n : Nat) (F : Nat → Nat → Nat → XR) (nest q : Nat) : XR := if (F 3 nest q).1 then xLp t n F nest 3 43 45 13 14 7 8 2400 (F 3 nest q) else xF (F 3 nest q).2.1
def x3 (t : Nat → Nat) (n : Nat) (F : Nat → Nat → Nat → XR) (nest q : Nat) : XR := if (F 4 nest q).1 then xLp t n F nest 4 42 47 15 16 9 10 2400 (F 4 nest q) else xF (F 4 nest q).2.1
def x5 (t : Nat → Nat) (n : Nat) (F : Nat → Nat → Nat → XR) (nest q : Nat) : XR := if (F 4 nest (nx t n q)).1 then (true, (F 4 nest (nx t n q)).2.1, (F 4 nest (nx t n q)).2.2.1 ++ [(30, 0)], (F 4 nest (nx t n q)).2.2.2 ++ [(6, 0)]) else xF (F 4 nest (nx t n q)).2.1
def x6 (t : Nat → Nat) (n : Nat) (F : Nat → Nat → Nat → XR) (nest q : Nat) : XR := if (F 0 nest (nx t n q)).1 = true ∧ tkK t n (F 0 nest (nx t n q)).2.1 = 41 then (true, nx t n (F 0 nest (nx t n q)).2.1, (F 0 nest (nx t n q)).2.2.1, (F 0 nest (nx t n q)).2.2.2) else xF (F 0 nest (nx t n q)).2.1
def x4 (t : Nat → Nat) (n : Nat) (K : PC) (F : Nat → Nat → Nat → XR) (nest q : Nat) : XR :=
  if tkK t n q = 3 then
    (if tkK t n (nx t n q) = 46 then (if (pSl t n K false q).1 then (true, (pSl t n K false q).2.1, [(50, (pSl t n K false q).2.2)], [(2, (pSl t n K false q).2.2)]) else xF (pSl t n K false q).2.1) else (true, nx t n q, [(40, nv t n q)], [(0, nv t n q)]))
  else if tkK t n q = 35 then (if K.2.2.2.1 then (true, nx t n q, [(41, 0)], [(1, 0)]) else xF q)
  else if tkK t n q = 40 then (if nest < 10 then F 6 (nest + 1) q else xF q)
  else if tkK t n q = 45 then (if nest < 10 then F 5 (nest + 1) q else xF q)
  else xF q
def pX (t : Nat → Nat) (n : Nat) (K : PC) : Nat → Nat → Nat → Nat → XR
  | 0, _, _, q => xF q
  | d + 1, 0, nest, q => x0 t n (pX t n K d) nest q
  | d + 1, 1, nest, q => x1 t n (pX t n K d) nest q
  | d + 1, 2, nest, q => x2 t n (pX t n K d) nest q
  | d + 1, 3, nest, q => x3 t n (pX t n K d) nest q
  | d + 1, 4, nest, q => x4 t n K (pX t n K d) nest q
  | d + 1, 5, nest, q => x5 t n (pX t n K d) nest q
  | d + 1, 6, nest, q => x6 t n (pX t n K d) nest q
  | _ + 1, _, _, q => xF q
/-- what is read is no longer than the text that it is read from -/
def XLn (q : Nat) (r : XR) : Prop := r.1 = true → q + r.2.2.2.length ≤ r.2.1 ∧ q + r.2.2.1.length ≤ r.2.1 ∧ q < r.2.1
theorem XLn_F (q q' : Nat) : XLn q (xF q') := fun h => absurd h Bool.false_ne_true
theorem XLn_bin {t : Nat → Nat} {n q mo co : Nat} {r r2 : XR} (hr1 : r.1 = true) (h1 : XLn q r) (h2 : XLn (nx t n r.2.1) r2) (hk : 2 ≤ tkK t n r.2.1) : XLn q (xBin mo co r r2) := by
  unfold xBin
  by_cases h : r2.1 = true
  · rw [if_pos h]
    intro _
    have a := h1 hr1
    have b := h2 h
    have c := nx_gt hk
    simp only [List.length_append, List.length_cons, List.length_nil]
    omega
  · rw [if_neg h]; exact XLn_F _ _
theorem XLn_lp {t : Nat → Nat} {n : Nat} {F : Nat → Nat → Nat → XR} {nest ix a b m1 m2 c1 c2 q : Nat} (ha : 2 ≤ a) (hb : 2 ≤ b) (hF : ∀ q, XLn q (F ix nest q)) : ∀ f r, r.1 = true → XLn q r → XLn q (xLp t n F nest ix a b m1 m2 c1 c2 f r)
  | 0, r, _, h => h
  | f + 1, r, hr, h => by
    rw [xLp]
    split
    · rename_i hk
      have hk2 : 2 ≤ tkK t n r.2.1 := by omega
      split
      · rename_i hf
        refine XLn_lp ha hb hF f _ ?_ (XLn_bin hr h (hF _) hk2)
        unfold xBin; rw [if_pos hf]
      · exact XLn_F _ _
    · exact h
theorem pX_len (t : Nat → Nat) (n : Nat) (K : PC) : ∀ d ix nest q, (ix = 1 ∨ ix = 5 ∨ ix = 6 → 2 ≤ tkK t n q) → XLn q (pX t n K d ix nest q)
  | 0, _, _, q, _ => by rw [pX]; exact XLn_F _ _
  | d + 1, 0, nest, q, _ => by
    have ih := pX_len t n K d
    rw [pX, x0]
    split
    · rename_i h; exact ih 1 nest q (fun _ => by omega)
    · split
      · rename_i h
        split
        · rename_i hk
          exact XLn_bin h (ih 2 nest q (fun z => by omega)) (ih 2 nest _ (fun z => by omega)) (by omega)
        · exact ih 2 nest q (fun z => by omega)
      · exact XLn_F _ _
  | d + 1, 1, nest, q, h0 => by
    have ih := pX_len t n K d
    have hk := h0 (Or.inl rfl)
    rw [pX, x1]
    split
    · rw [x1b]
      split
      · rename_i h1
        rw [x1c]
        split
        · rename_i h2
          rw [x1d]
          split
          · rename_i h3
            intro _
            have a := ih 0 (nest + 1) (nx t n q) (fun z => by omega) h1.1
            have b := ih 0 (nest + 1) _ (fun z => by omega) h2.1
            have c := ih 0 (nest + 1) _ (fun z => by omega) h3
            have e1 := nx_gt hk
            have e2 := nx_gt (t := t) (n := n) (q := (pX t n K d 0 (nest + 1) (nx t n q)).2.1) (by omega)
            have e3 := nx_gt (t := t) (n := n) (q := (pX t n K d 0 (nest + 1) (nx t n (pX t n K d 0 (nest + 1) (nx t n q)).2.1)).2.1) (by omega)
            simp only [List.length_append, List.length_cons, List.length_nil]
            omega
          · exact XLn_F _ _
        · exact XLn_F _ _
      · exact XLn_F _ _
    · exact XLn_F _ _
  | d + 1, 2, nest, q, _ => by
    have ih := pX_len t n K d
    rw [pX, x2]
    split
    · rename_i h
      exact XLn_lp (by omega) (by omega) (fun q => ih 3 nest q (fun z => by omega)) _ _ h (ih 3 nest q (fun z => by omega))
    · exact XLn_F _ _
  | d + 1, 3, nest, q, _ => by
    have ih := pX_len t n K d
    rw [pX, x3]
    split
    · rename_i h
      exact XLn_lp (by omega) (by omega) (fun q => ih 4 nest q (fun z => by omega)) _ _ h (ih 4 nest q (fun z => by omega))
    · exact XLn_F _ _
  | d + 1, 4, nest, q, _ => by
    have ih := pX_len t n K d
    rw [pX, x4]
    split
    · rename_i hk
      have e1 := nx_gt (t := t) (n := n) (q := q) (by omega)
      split
      · rename_i hk2
        have e2 := nx_gt (t := t) (n := n) (q := nx t n q) (by omega)
        split
        · rename_i hs
          intro _
          have : nx t n (nx t n q) < (pSl t n K false q).2.1 := by
            have o := pSl_ok hs
            rw [o.2.2.2.2.2.2]
            exact (nx_gt (by omega)).1
          simp only [List.length_cons, List.length_nil]
          omega
        · exact XLn_F _ _
      · intro _
        simp only [List.length_cons, List.length_nil]
        omega
    · split
      · rename_i hk
        have e1 := nx_gt (t := t) (n := n) (q := q) (by omega)
        split
        · intro _
          simp only [List.length_cons, List.length_nil]
          omega
        · exact XLn_F _ _
      · split
        · split
          · exact ih 6 (nest + 1) q (fun _ => by omega)
          · exact XLn_F _ _
        · split
          · split
            · exact ih 5 (nest + 1) q (fun _ => by omega)
            · exact XLn_F _ _
          · exact XLn_F _ _
  | d + 1, 5, nest, q, h0 => by
    have ih := pX_len t n K d
    have e1 := nx_gt (h0 (Or.inr (Or.inl rfl)))
    rw [pX, x5]
    split
    · rename_i h
      intro _
      have := ih 4 nest (nx t n q) (fun z => by omega) h
      simp only [List.length_append, List.length_cons, List.length_nil]
      omega
    · exact XLn_F _ _
  | d + 1, 6, nest, q, h0 => by
    have ih := pX_len t n K d
    have e1 := nx_gt (h0 (Or.inr (Or.inr rfl)))
    rw [pX, x6]
    split
    · rename_i h
      intro _
      have := ih 0 nest (nx t n q) (fun z => by omega) h.1
      have e2 := nx_gt (t := t) (n := n) (q := (pX t n K d 0 nest (nx t n q)).2.1) (by omega)
      show q + (pX t n K d 0 nest (nx t n q)).2.2.2.length ≤ nx t n (pX t n K d 0 nest (nx t n q)).2.1 ∧ q + (pX t n K d 0 nest (nx t n q)).2.2.1.length ≤ nx t n (pX t n K d 0 nest (nx t n q)).2.1 ∧ q < nx t n (pX t n K d 0 nest (nx t n q)).2.1
      omega
    · exact XLn_F _ _
  | d + 1, ix + 7, nest, q, _ => by
    rw [pX]
    · exact XLn_F _ _
    all_goals omega
