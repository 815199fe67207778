/-! ===== names ===== -/
def tkn (t : Nat → Nat) : Nat → Nat → List Nat
  | 0, _ => []
  | m + 1, i => t i :: tkn t m (i + 1)
theorem tkn_len (t : Nat → Nat) : ∀ m i, (tkn t m i).length = m
  | 0, _ => rfl
  | m + 1, i => by rw [tkn, List.length_cons, tkn_len t m]
theorem tkn_get (t : Nat → Nat) : ∀ m i k, (tkn t m i).getD k 0 = if k < m then t (i + k) else 0
  | 0, _, k => by simp [tkn]
  | m + 1, i, 0 => by simp [tkn]
  | m + 1, i, k + 1 => by
    rw [tkn, List.getD_cons_succ, tkn_get t m]
    by_cases h : k < m
    · rw [if_pos h, if_pos (by omega)]; congr 1; omega
    · rw [if_neg h, if_neg (by omega)]
theorem tkn_mem (t : Nat → Nat) {P : Nat → Prop} : ∀ m i, (∀ k, i ≤ k → k < i + m → P (t k)) → ∀ c ∈ tkn t m i, P c
  | 0, _, _, c, h => by simp [tkn] at h
  | m + 1, i, g, c, h => by
    rw [tkn] at h
    rcases List.mem_cons.mp h with rfl | h
    · exact g i (by omega) (by omega)
    · exact tkn_mem t m (i + 1) (fun k a b => g k (by omega) (by omega)) c h
def pkL : List Nat → Int64 → Int64
  | [], a => a
  | c :: r, a => pkL r ((a <<< ((5 : Int32).toInt64 &&& 63)) ||| ((nI c - (97 : Int32) + (1 : Int32)).toInt64))
theorem pkI_L (t : Nat → Nat) : ∀ m i a, pkI t m i a = pkL (tkn t m i) a
  | 0, _, _ => rfl
  | m + 1, i, a => by rw [pkI, tkn, pkL, pkI_L t m]
def pkn : List Nat → Nat → Nat
  | [], a => a
  | c :: r, a => pkn r (a * 32 + (c - 96))
theorem pkn_snoc : ∀ (l : List Nat) (c a : Nat), pkn (l ++ [c]) a = pkn l a * 32 + (c - 96)
  | [], _, _ => rfl
  | x :: r, c, a => by rw [List.cons_append, pkn, pkn, pkn_snoc r]
def VL (l : List Nat) : Prop := 1 ≤ l.length ∧ l.length ≤ 8 ∧ ∀ c ∈ l, 97 ≤ c ∧ c ≤ 122
theorem pkn_lt : ∀ (l : List Nat) (a k : Nat), (∀ c ∈ l, 97 ≤ c ∧ c ≤ 122) → a < 32 ^ k → pkn l a < 32 ^ (k + l.length)
  | [], a, k, _, h => h
  | c :: r, a, k, hl, h => by
    rw [pkn, List.length_cons, show k + (r.length + 1) = (k + 1) + r.length by omega]
    refine pkn_lt r _ (k + 1) (fun x hx => hl x (List.mem_cons_of_mem _ hx)) ?_
    have := hl c List.mem_cons_self
    rw [Nat.pow_succ]
    omega
theorem let_c {c : Nat} (h : 97 ≤ c ∧ c ≤ 122) : ((nI c - (97 : Int32) + (1 : Int32)).toInt64) = lN (c - 96) := by
  have e : nI c - (97 : Int32) + (1 : Int32) = nI (c - 96) := by
    show nI c - nI 97 + nI 1 = _
    rw [nI_subE (by omega), nI_add]; congr 1; omega
  rw [e, nI_l (by omega)]
theorem pkL_n : ∀ (l : List Nat) (a k : Nat), (∀ c ∈ l, 97 ≤ c ∧ c ≤ 122) → a < 32 ^ k → k + l.length ≤ 11 → pkL l (lN a) = lN (pkn l a)
  | [], _, _, _, _, _ => rfl
  | c :: r, a, k, hl, ha, hk => by
    have hc := hl c List.mem_cons_self
    rw [List.length_cons] at hk
    have hp : 32 ^ (k + 1) ≤ 32 ^ 11 := Nat.pow_le_pow_right (by omega) (by omega)
    have hp2 : a * 32 + (c - 96) < 32 ^ (k + 1) := by rw [Nat.pow_succ]; omega
    have h11 : 32 ^ 11 < 2 ^ 64 := by decide
    rw [pkL, pkn, let_c hc, show ((5 : Int32).toInt64 &&& 63) = ((nI 5).toInt64 &&& 63) from rfl, wb_shl a (by omega)]
    have e := g_or (k := 5) (p := 32) (a := c - 96) (b := a) rfl (by omega) (by omega)
    rw [show (2 : Nat) ^ 5 = 32 from rfl, e]
    exact pkL_n r _ (k + 1) (fun x hx => hl x (List.mem_cons_of_mem _ hx)) hp2 (by omega)
theorem pkn_pos (l : List Nat) (h : ∀ c ∈ l, 97 ≤ c ∧ c ≤ 122) (h0 : l ≠ []) : 0 < pkn l 0 := by
  obtain ⟨r, c, rfl⟩ : ∃ r c, l = r ++ [c] := ⟨l.dropLast, l.getLast h0, (List.dropLast_concat_getLast h0).symm⟩
  rw [pkn_snoc]
  have := h c (by simp)
  omega
theorem pkn_inj : ∀ (m : Nat) (l l' : List Nat), l.length ≤ m → (∀ c ∈ l, 97 ≤ c ∧ c ≤ 122) → (∀ c ∈ l', 97 ≤ c ∧ c ≤ 122) → pkn l 0 = pkn l' 0 → l = l' := by
  intro m
  induction m with
  | zero =>
    intro l l' hm h h' e
    have : l = [] := List.length_eq_zero_iff.mp (by omega)
    subst this
    by_cases h0 : l' = []
    · exact h0.symm
    · have := pkn_pos l' h' h0
      rw [← e] at this
      exact absurd this (by decide)
  | succ m ih =>
    intro l l' hm h h' e
    by_cases h0 : l = []
    · subst h0
      by_cases h1 : l' = []
      · exact h1.symm
      · have := pkn_pos l' h' h1
        rw [← e] at this
        exact absurd this (by decide)
    · by_cases h1 : l' = []
      · subst h1
        have := pkn_pos l h h0
        rw [e] at this
        exact absurd this (by decide)
      · obtain ⟨r, c, rfl⟩ : ∃ r c, l = r ++ [c] := ⟨l.dropLast, l.getLast h0, (List.dropLast_concat_getLast h0).symm⟩
        obtain ⟨r', c', rfl⟩ : ∃ r c, l' = r ++ [c] := ⟨l'.dropLast, l'.getLast h1, (List.dropLast_concat_getLast h1).symm⟩
        rw [pkn_snoc, pkn_snoc] at e
        have a := h c (by simp)
        have a' := h' c' (by simp)
        have hr := ih r r' (by simp at hm; omega) (fun x hx => h x (by simp [hx])) (fun x hx => h' x (by simp [hx])) (by omega)
        have hc : c = c' := by omega
        rw [hr, hc]
theorem pkL_inj {l l' : List Nat} (h : VL l) (h' : VL l') : (pkL l 0 = pkL l' 0) ↔ l = l' := by
  refine ⟨fun e => ?_, fun e => by rw [e]⟩
  have h0 : (0 : Int64) = lN 0 := rfl
  rw [h0, pkL_n l 0 0 h.2.2 (by decide) (by have := h.2.1; omega), pkL_n l' 0 0 h'.2.2 (by decide) (by have := h'.2.1; omega)] at e
  have b1 := pkn_lt l 0 0 h.2.2 (by decide)
  have b2 := pkn_lt l' 0 0 h'.2.2 (by decide)
  have p1 : 32 ^ (0 + l.length) ≤ 32 ^ 8 := Nat.pow_le_pow_right (by omega) (by have := h.2.1; omega)
  have p2 : 32 ^ (0 + l'.length) ≤ 32 ^ 8 := Nat.pow_le_pow_right (by omega) (by have := h'.2.1; omega)
  have p8 : (32 : Nat) ^ 8 < 2 ^ 64 := by decide
  have e2 := congrArg (fun z => z.toBitVec.toNat) e
  rw [wb_tn (by omega), wb_tn (by omega)] at e2
  exact pkn_inj l.length l l' (Nat.le_refl _) h.2.2 h'.2.2 e2
theorem lgc0 (x y : Int64) : lg_cmp x y = 0 ↔ x = y := by
  unfold lg_cmp
  by_cases h : x = y
  · subst h; simp
  · simp only [h, if_false]
    split <;> simp
/-- the name at a token -/
def nml (t : Nat → Nat) (n q : Nat) : List Nat := tkn t (tkE t n q - q) q
theorem nml_v {t : Nat → Nat} {n q : Nat} (h : tkK t n q = 2) : VL (nml t n q) ∧ ctn t n q = pkL (nml t n q) 0 ∧ ∀ k, q + k < tkE t n q → tkE t n q ≤ n := by
  have hq := tkK_end (t := t) (n := n) (q := q) (by omega)
  have hg := tkE_gt (t := t) hq
  unfold tkK at h
  rw [if_neg (by omega)] at h
  cases hb : ltr (t q)
  · rw [hb] at h
    simp only [Bool.false_eq_true, if_false] at h
    split at h
    · split at h <;> omega
    · split at h
      · rename_i hs; have := sgn_ge hs; omega
      · omega
  · rw [hb] at h
    simp only [if_true] at h
    have he : tkE t n q = sp ltr t n q := by unfold tkE; rw [if_neg (by omega), hb]; simp
    split at h
    · omega
    · refine ⟨⟨?_, ?_, ?_⟩, ?_, fun _ _ => hg.2⟩
      · unfold nml; rw [tkn_len]; omega
      · unfold nml; rw [tkn_len]; omega
      · unfold nml
        refine tkn_mem t _ _ (fun k a b => ?_)
        have := sp_in (p := ltr) (t := t) (n := n) (i := q) (by omega) k a (by omega)
        simpa [ltr] using this
      · unfold ctn nml
        rw [hb, if_pos rfl, pkI_L, he]
theorem gd_in {l : List Nat} {k : Nat} (h : k < l.length) : l.getD k 0 = l[k] := by simp [List.getD_eq_getElem?_getD, h]
theorem gd_out {l : List Nat} {k : Nat} (h : l.length ≤ k) : l.getD k 0 = 0 := by simp [List.getD_eq_getElem?_getD, h]
theorem getD_inj {l l' : List Nat} (h : VL l) (h' : VL l') : (∀ k, k < 8 → l.getD k 0 = l'.getD k 0) ↔ l = l' := by
  refine ⟨fun g => ?_, fun e _ _ => by rw [e]⟩
  have out : ∀ (x y : List Nat), VL x → VL y → (∀ k, k < 8 → x.getD k 0 = y.getD k 0) → x.length ≤ y.length := by
    intro x y hx hy g
    rcases Nat.lt_or_ge y.length x.length with z | z
    · have a := g y.length (by have := hx.2.1; omega)
      rw [gd_in z, gd_out (Nat.le_refl _)] at a
      have := hx.2.2 _ (List.getElem_mem z)
      omega
    · exact z
  have hl : l.length = l'.length := Nat.le_antisymm (out l l' h h' g) (out l' l h' h (fun k hk => (g k hk).symm))
  apply List.ext_getElem hl
  intro k h1 h2
  have := g k (by have := h.2.1; omega)
  rw [gd_in h1, gd_in h2] at this
  exact this
/-- the first place of a name -/
def fiF (nm : Nat → List Nat) (l : List Nat) : Nat → Nat → Nat
  | 0, i => i
  | f + 1, i => if nm i = l then i else fiF nm l f (i + 1)
def fi (nm : Nat → List Nat) (N : Nat) (l : List Nat) : Nat := fiF nm l N 0
theorem fiF_p (nm : Nat → List Nat) (l : List Nat) : ∀ f i, i ≤ fiF nm l f i ∧ fiF nm l f i ≤ i + f ∧ (fiF nm l f i < i + f → nm (fiF nm l f i) = l) ∧ ∀ k, i ≤ k → k < fiF nm l f i → nm k ≠ l
  | 0, i => by simp [fiF]; omega
  | f + 1, i => by
    rw [fiF]
    split
    · rename_i h; exact ⟨Nat.le_refl _, by omega, fun _ => h, fun k a b => by omega⟩
    · rename_i h
      obtain ⟨a, b, c, d⟩ := fiF_p nm l f (i + 1)
      refine ⟨by omega, by omega, fun z => c (by omega), fun k x y => ?_⟩
      by_cases e : k = i
      · rw [e]; exact h
      · exact d k (by omega) y
theorem fi_le (nm : Nat → List Nat) (N : Nat) (l : List Nat) : fi nm N l ≤ N := by have := (fiF_p nm l N 0).2.1; unfold fi; omega
theorem fi_hit {nm : Nat → List Nat} {N : Nat} {l : List Nat} (h : fi nm N l < N) : nm (fi nm N l) = l := (fiF_p nm l N 0).2.2.1 (by unfold fi at h; omega)
theorem fi_no {nm : Nat → List Nat} {N : Nat} {l : List Nat} {k : Nat} (h : k < fi nm N l) : nm k ≠ l := (fiF_p nm l N 0).2.2.2 k (by omega) h
def fiI (nm : Nat → List Nat) (N : Nat) (l : List Nat) : Int32 := if fi nm N l < N then nI (fi nm N l) else -1
section CL
variable {σ : ab_S} {E : String → ab_S → Prop}
theorem c_findS {g N : Nat} {nm : Nat → List Nat} {l : List Nat} (hN : N ≤ 12) (h0 : σ.2.1 g 0 = nI N) (h1 : ∀ s, s < N → σ.2.2.1 (g + 1) s = pkL (nm s) 0 ∧ VL (nm s)) (hl : VL l) {Q : Int32 → ab_S → Prop} (h : Q (fiI nm N l) σ) : wX0_findSymbol g (pkL l 0) Q E σ := by
  refine ⟨N + 1, ?_⟩
  suffices H : ∀ f i, N - i = f → i ≤ N → fiF nm l f i = fi nm N l → wX0_findSymbol_l2 g (pkL l 0) Q E (f + 1) (nI i) σ from H N 0 rfl (by omega) rfl
  intro f
  induction f with
  | zero =>
    intro i hf hi hq
    have : i = N := by omega
    refine yes (by rw [h0]; simp (disch := omega) only [nI_lit, nI_add, nI_mulE, nI_clampE, nI_eqE, nI_leE, nI_ltE, vp_nIE, true_and, and_true]; omega) ?_
    unfold fiI at h
    rw [← hq, fiF, if_neg (by omega)] at h
    exact h
  | succ f ih =>
    intro i hf hi hq
    refine no (by rw [h0]; simp (disch := omega) only [nI_lit, nI_add, nI_mulE, nI_clampE, nI_eqE, nI_leE, nI_ltE, vp_nIE, true_and, and_true]; omega) ⟨by simp (disch := omega) only [nI_lit, nI_add, nI_mulE, nI_clampE, nI_eqE, nI_leE, nI_ltE, vp_nIE, true_and, and_true]; omega, ?_⟩
    simp (disch := omega) only [nI_clampE]
    obtain ⟨a, b⟩ := h1 i (by omega)
    rw [a, lgc0, pkL_inj b hl]
    rw [fiF] at hq
    by_cases hc : nm i = l
    · rw [if_pos hc] at hq
      refine no (by simp [hc]) ?_
      unfold fiI at h
      rw [← hq, if_pos (by omega)] at h
      exact h
    · rw [if_neg hc] at hq
      refine yes hc (fe ?_)
      rw [nI_1]
      exact ih (i + 1) (by omega) (by omega) hq
theorem c_findP {g N : Nat} {nm : Nat → List Nat} {l : List Nat} (hN : N ≤ 30) (h0 : σ.2.1 g 5 = nI N) (h1 : ∀ s, s < N → σ.2.2.1 (g + 5) s = pkL (nm s) 0 ∧ VL (nm s)) (hl : VL l) {Q : Int32 → ab_S → Prop} (h : Q (fiI nm N l) σ) : wX0_findProduction g (pkL l 0) Q E σ := by
  refine ⟨N + 1, ?_⟩
  suffices H : ∀ f i, N - i = f → i ≤ N → fiF nm l f i = fi nm N l → wX0_findProduction_l2 g (pkL l 0) Q E (f + 1) (nI i) σ from H N 0 rfl (by omega) rfl
  intro f
  induction f with
  | zero =>
    intro i hf hi hq
    have : i = N := by omega
    refine yes (by rw [h0]; simp (disch := omega) only [nI_lit, nI_add, nI_mulE, nI_clampE, nI_eqE, nI_leE, nI_ltE, vp_nIE, true_and, and_true]; omega) ?_
    unfold fiI at h
    rw [← hq, fiF, if_neg (by omega)] at h
    exact h
  | succ f ih =>
    intro i hf hi hq
    refine no (by rw [h0]; simp (disch := omega) only [nI_lit, nI_add, nI_mulE, nI_clampE, nI_eqE, nI_leE, nI_ltE, vp_nIE, true_and, and_true]; omega) ⟨by simp (disch := omega) only [nI_lit, nI_add, nI_mulE, nI_clampE, nI_eqE, nI_leE, nI_ltE, vp_nIE, true_and, and_true]; omega, ?_⟩
    simp (disch := omega) only [nI_clampE]
    obtain ⟨a, b⟩ := h1 i (by omega)
    rw [a, lgc0, pkL_inj b hl]
    rw [fiF] at hq
    by_cases hc : nm i = l
    · rw [if_pos hc] at hq
      refine no (by simp [hc]) ?_
      unfold fiI at h
      rw [← hq, if_pos (by omega)] at h
      exact h
    · rw [if_neg hc] at hq
      refine yes hc (fe ?_)
      rw [nI_1]
      exact ih (i + 1) (by omega) (by omega) hq
theorem c_findA {g s N : Nat} {nm : Nat → List Nat} {l : List Nat} (hs : s < 12) (hN : N ≤ 8) (h0 : σ.2.1 (g + 2) s = nI N) (h1 : ∀ a, a < N → σ.2.2.1 (g + 4) (s * 8 + a) = pkL (nm a) 0 ∧ VL (nm a)) (hl : VL l) {Q : Int32 → ab_S → Prop} (h : Q (fiI nm N l) σ) : wX0_findAttribute g (nI s) (pkL l 0) Q E σ := by
  refine ⟨N + 1, ?_⟩
  suffices H : ∀ f i, N - i = f → i ≤ N → fiF nm l f i = fi nm N l → wX0_findAttribute_l3 g (nI s) (pkL l 0) Q E (f + 1) (nI i) σ from H N 0 rfl (by omega) rfl
  have e8 : ∀ i, nI s * 8 + nI i = nI (s * 8 + i) := by intro i; show nI s * nI 8 + nI i = _; rw [nI_mulE, nI_add]
  have es : (nI s).toNatClampNeg = s := nI_clampE (by omega)
  intro f
  induction f with
  | zero =>
    intro i hf hi hq
    have : i = N := by omega
    refine ⟨by simp (disch := omega) only [nI_lit, nI_add, nI_mulE, nI_clampE, nI_eqE, nI_leE, nI_ltE, vp_nIE, true_and, and_true]; omega, ?_⟩
    rw [es]
    refine yes (by rw [h0]; simp (disch := omega) only [nI_lit, nI_add, nI_mulE, nI_clampE, nI_eqE, nI_leE, nI_ltE, vp_nIE, true_and, and_true]; omega) ?_
    unfold fiI at h
    rw [← hq, fiF, if_neg (by omega)] at h
    exact h
  | succ f ih =>
    intro i hf hi hq
    refine ⟨by simp (disch := omega) only [nI_lit, nI_add, nI_mulE, nI_clampE, nI_eqE, nI_leE, nI_ltE, vp_nIE, true_and, and_true]; omega, ?_⟩
    rw [es, e8]
    refine no (by rw [h0]; simp (disch := omega) only [nI_lit, nI_add, nI_mulE, nI_clampE, nI_eqE, nI_leE, nI_ltE, vp_nIE, true_and, and_true]; omega) ⟨by simp (disch := omega) only [nI_lit, nI_add, nI_mulE, nI_clampE, nI_eqE, nI_leE, nI_ltE, vp_nIE, true_and, and_true]; omega, ?_⟩
    simp (disch := omega) only [nI_clampE]
    obtain ⟨a, b⟩ := h1 i (by omega)
    rw [a, lgc0, pkL_inj b hl]
    rw [fiF] at hq
    by_cases hc : nm i = l
    · rw [if_pos hc] at hq
      refine no (by simp [hc]) ?_
      unfold fiI at h
      rw [← hq, if_pos (by omega)] at h
      exact h
    · rw [if_neg hc] at hq
      refine yes hc (fe ?_)
      rw [nI_1]
      exact ih (i + 1) (by omega) (by omega) hq
end CL
