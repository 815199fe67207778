/-! ===== symbols: the picture, its reading, the class's ===== -/
def uf {α : Type} (f : Nat → α) (i : Nat) (v : α) : Nat → α := fun j => if j = i then v else f j
theorem uf_s {α : Type} (f : Nat → α) (i : Nat) (v : α) : uf f i v i = v := if_pos rfl
theorem uf_o {α : Type} (f : Nat → α) {i j : Nat} (v : α) (h : j ≠ i) : uf f i v j = f j := if_neg h
/-- bits below k -/
def bm (f : Nat → Bool) : Nat → Int32
  | 0 => 0
  | k + 1 => if f k then bm f k ||| ((1 : Int32) <<< (nI k &&& 31)) else bm f k
theorem bm_congr {f g : Nat → Bool} : ∀ {k : Nat}, (∀ i, i < k → f i = g i) → bm f k = bm g k
  | 0, _ => rfl
  | k + 1, h => by rw [bm, bm, h k (by omega), bm_congr (fun i hi => h i (by omega))]
theorem bm_bt {f : Nat → Bool} : ∀ {k : Nat}, k ≤ 32 → ∀ {i : Nat}, i < 32 → bt (bm f k) i = (decide (i < k) && f i)
  | 0, _, i, _ => by rw [bm, b_0]; simp
  | k + 1, hk, i, hi => by
    rw [bm]
    have ih := bm_bt (f := f) (k := k) (by omega) hi
    have e1 : bt 1 (i - k) = decide (i - k = 0) := by
      have : ∀ j, j < 32 → bt 1 j = decide (j = 0) := by decide +kernel
      exact this _ (by omega)
    by_cases hf : f k = true
    · rw [if_pos hf, b_or, ih, b_shl k (by omega) _ hi, e1]
      by_cases hik : i = k
      · subst hik; simp [hf]
      · have : (decide (k ≤ i) && decide (i - k = 0)) = false := by simp; omega
        rw [this, Bool.or_false]
        congr 1
        rw [decide_eq_decide]; omega
    · rw [if_neg hf, ih]
      by_cases hik : i = k
      · subst hik; simp [hf]
      · congr 1
        rw [decide_eq_decide]; omega
abbrev SYT : Type := Nat × (Nat → List Nat) × (Nat → Nat) × (Nat → Nat → Bool) × (Nat → Nat → List Nat)
abbrev SYT.ns (G : SYT) : Nat := G.1
abbrev SYT.sn (G : SYT) : Nat → List Nat := G.2.1
abbrev SYT.cn (G : SYT) : Nat → Nat := G.2.2.1
abbrev SYT.dn (G : SYT) : Nat → Nat → Bool := G.2.2.2.1
abbrev SYT.an (G : SYT) : Nat → Nat → List Nat := G.2.2.2.2
def gS (G : SYT) (l : List Nat) : SYT := (G.1 + 1, uf G.2.1 G.1 l, uf G.2.2.1 G.1 0, uf G.2.2.2.1 G.1 (fun _ => false), G.2.2.2.2)
def gA (G : SYT) (s : Nat) (l : List Nat) (d : Bool) : SYT := (G.1, G.2.1, uf G.2.2.1 s (G.2.2.1 s + 1), uf G.2.2.2.1 s (uf (G.2.2.2.1 s) (G.2.2.1 s) d), uf G.2.2.2.2 s (uf (G.2.2.2.2 s) (G.2.2.1 s) l))
def GV (G : SYT) : Prop := G.1 ≤ 12 ∧ UQ G.2.1 G.1 ∧ ∀ s, s < G.1 → VL (G.2.1 s) ∧ G.2.2.1 s ≤ 8 ∧ UQ (G.2.2.2.2 s) (G.2.2.1 s) ∧ ∀ a, a < G.2.2.1 s → VL (G.2.2.2.2 s a)
theorem UQ_add {nm : Nat → List Nat} {N : Nat} {l : List Nat} (h : UQ nm N) (hn : fi nm N l = N) : UQ (uf nm N l) (N + 1) := by
  intro i j hi hj e
  have no : ∀ k, k < N → nm k ≠ l := fun k hk => fi_no (nm := nm) (N := N) (l := l) (by omega)
  by_cases hi2 : i = N
  · by_cases hj2 : j = N
    · omega
    · rw [hi2, uf_s, uf_o _ _ hj2] at e
      exact absurd e.symm (no j (by omega))
  · by_cases hj2 : j = N
    · rw [hj2, uf_s, uf_o _ _ hi2] at e
      exact absurd e (no i (by omega))
    · rw [uf_o _ _ hi2, uf_o _ _ hj2] at e
      exact h i j (by omega) (by omega) e
theorem GV_S {G : SYT} {l : List Nat} (h : GV G) (hl : VL l) (h12 : G.1 < 12) (hn : fi G.2.1 G.1 l = G.1) : GV (gS G l) := by
  obtain ⟨h1, h2, h3⟩ := h
  refine ⟨h12, UQ_add h2 hn, fun s hs => ?_⟩
  by_cases e : s = G.1
  · subst e
    refine ⟨?_, ?_, ?_, ?_⟩
    · show VL (uf G.2.1 G.1 l G.1); rw [uf_s]; exact hl
    · show uf G.2.2.1 G.1 0 G.1 ≤ 8; rw [uf_s]; omega
    · show UQ _ (uf G.2.2.1 G.1 0 G.1); rw [uf_s]; intro i j hi; omega
    · intro a ha; have ha : a < uf G.2.2.1 G.1 0 G.1 := ha; rw [uf_s] at ha; omega
  · have := h3 s (by have : s < G.1 + 1 := hs; omega)
    show VL (uf G.2.1 G.1 l s) ∧ uf G.2.2.1 G.1 0 s ≤ 8 ∧ UQ (G.2.2.2.2 s) (uf G.2.2.1 G.1 0 s) ∧ ∀ a, a < uf G.2.2.1 G.1 0 s → _
    rw [uf_o _ _ e, uf_o _ _ e]; exact this
theorem GV_A {G : SYT} {s : Nat} {l : List Nat} {d : Bool} (h : GV G) (hs : s < G.1) (hl : VL l) (h8 : G.2.2.1 s < 8) (hn : fi (G.2.2.2.2 s) (G.2.2.1 s) l = G.2.2.1 s) : GV (gA G s l d) := by
  obtain ⟨h1, h2, h3⟩ := h
  refine ⟨h1, h2, fun s' hs' => ?_⟩
  have hq := h3 s' hs'
  show VL (G.2.1 s') ∧ uf G.2.2.1 s (G.2.2.1 s + 1) s' ≤ 8 ∧ UQ (uf G.2.2.2.2 s (uf (G.2.2.2.2 s) (G.2.2.1 s) l) s') (uf G.2.2.1 s (G.2.2.1 s + 1) s') ∧ ∀ a, a < uf G.2.2.1 s (G.2.2.1 s + 1) s' → VL (uf G.2.2.2.2 s (uf (G.2.2.2.2 s) (G.2.2.1 s) l) s' a)
  by_cases e : s' = s
  · subst e
    rw [uf_s, uf_s]
    refine ⟨hq.1, by omega, UQ_add hq.2.2.1 hn, fun a ha => ?_⟩
    by_cases ea : a = G.2.2.1 s'
    · rw [ea, uf_s]; exact hl
    · rw [uf_o _ _ ea]; exact hq.2.2.2 a (by omega)
  · rw [uf_o _ _ e, uf_o _ _ e]; exact hq
/-- attributes from q on: whether they are right, the place, the picture -/
def pAt (t : Nat → Nat) (n s : Nat) (d : Bool) : Nat → Nat → SYT → Bool × Nat × SYT
  | 0, q, G => (false, q, G)
  | f + 1, q, G => if tkK t n q = 2 ∧ G.2.2.1 s ≠ 8 ∧ fi (G.2.2.2.2 s) (G.2.2.1 s) (nml t n q) = G.2.2.1 s then
      (if tkK t n (nx t n q) = 44 then pAt t n s d f (nx t n (nx t n q)) (gA G s (nml t n q) d) else (true, nx t n q, gA G s (nml t n q) d))
    else (false, q, G)
/-- perhaps up .., ; -/
def pS3 (t : Nat → Nat) (n q : Nat) (G : SYT) : Bool × Nat × SYT := if tkK t n q = 59 then (true, nx t n q, G) else (false, q, G)
def pS2 (t : Nat → Nat) (n s q : Nat) (G : SYT) : Bool × Nat × SYT := if tkK t n q = 6 then
    (if (pAt t n s false 9 (nx t n q) G).1 then pS3 t n (pAt t n s false 9 (nx t n q) G).2.1 (pAt t n s false 9 (nx t n q) G).2.2 else pAt t n s false 9 (nx t n q) G)
  else pS3 t n q G
def pS1 (t : Nat → Nat) (n s q : Nat) (G : SYT) : Bool × Nat × SYT := if tkK t n q = 5 then
    (if s = 0 then (false, q, G) else if (pAt t n s true 9 (nx t n q) G).1 then pS2 t n s (pAt t n s true 9 (nx t n q) G).2.1 (pAt t n s true 9 (nx t n q) G).2.2 else pAt t n s true 9 (nx t n q) G)
  else pS2 t n s q G
/-- symbol NAME .. ; -/
def pSy (t : Nat → Nat) (n q : Nat) (G : SYT) : Bool × Nat × SYT := if tkK t n q = 4 then
    (if tkK t n (nx t n q) = 2 ∧ fi G.2.1 G.1 (nml t n (nx t n q)) = G.1 then pS1 t n G.1 (nx t n (nx t n q)) (gS G (nml t n (nx t n q))) else (false, nx t n q, G))
  else (false, q, G)
/-- the class's symbols -/
def CSy (σ : ab_S) (g : Nat) (G : SYT) : Prop := σ.2.1 g 0 = nI G.1 ∧ ∀ s, s < G.1 → σ.2.2.1 (g + 1) s = pkL (G.2.1 s) 0 ∧ σ.2.1 (g + 2) s = nI (G.2.2.1 s) ∧ σ.2.1 (g + 3) s = bm (G.2.2.2.1 s) (G.2.2.1 s) ∧ ∀ a, a < G.2.2.1 s → σ.2.2.1 (g + 4) (s * 8 + a) = pkL (G.2.2.2.2 s a) 0
def SGr (g : Nat) : Nat → Bool := fun a => decide (3 ≤ a ∧ a ≤ 7) || decide (g ≤ a ∧ a ≤ g + 17)
theorem CSy.fr {S : Nat → Bool} {σ σ' : ab_S} {g : Nat} {G : SYT} (h : CSy σ g G) (f : Fr S σ σ') (s0 : S g = false) (s1 : S (g + 1) = false) (s2 : S (g + 2) = false) (s3 : S (g + 3) = false) (s4 : S (g + 4) = false) : CSy σ' g G := by
  unfold CSy
  rw [f.1 g s0, f.2.1 _ s1, f.1 _ s2, f.1 _ s3, f.2.1 _ s4]; exact h
theorem isG_b {g : Nat} (h : isG g) : 44 ≤ g ∧ g ≤ 62 := by rcases h with rfl | rfl <;> omega
theorem S3_g {g k : Nat} (h : isG g) : S3 (g + k) = false := by have := isG_b h; simp [S3]; omega
theorem CSy.adv {σ σ' : ab_S} {g : Nat} {G : SYT} (h : CSy σ g G) (hg : isG g) (f : Fr S3 σ σ') : CSy σ' g G := h.fr f (S3_g (k := 0) hg) (S3_g hg) (S3_g hg) (S3_g hg) (S3_g hg)
theorem S3_SGr {g : Nat} : ∀ a, SGr g a = false → S3 a = false := by intro a h; simp [SGr, S3] at *; omega
section CL
variable {σ : ab_S} {t : Nat → Nat} {n q g : Nat} {G : SYT} {E : String → ab_S → Prop}
theorem c_addS (hg : isG g) (hC : CSy σ g G) (h12 : G.1 < 12) {l : List Nat} {Q : ab_S → Prop} (h : ∀ σ', Fr (fun a => decide (g ≤ a ∧ a ≤ g + 17)) σ σ' → (∀ i, i ≠ 0 → σ'.2.1 g i = σ.2.1 g i) → CSy σ' g (gS G l) → Q σ') : wX0_addSymbol g (pkL l 0) Q E σ := by
  obtain ⟨h0, h1⟩ := hC
  unfold wX0_addSymbol
  have ev : vp_in (nI G.1) 12 := by simp (disch := omega) only [nI_lit, nI_add, nI_mulE, nI_clampE, nI_eqE, nI_leE, nI_ltE, vp_nIE, true_and, and_true]; omega
  have ec : (nI G.1).toNatClampNeg = G.1 := nI_clampE (by omega)
  rw [h0, ec]
  refine ⟨ev, fe ?_⟩
  rw [show (ab_L σ (g + 1) G.1 (pkL l 0)).2.1 g 0 = nI G.1 from h0, ec]
  refine ⟨ev, fe ?_⟩
  rw [show (ab_I (ab_L σ (g + 1) G.1 (pkL l 0)) (g + 2) G.1 0).2.1 g 0 = nI G.1 by simp [gI_I, gI_L, h0], ec]
  refine ⟨ev, fe (fe ?_)⟩
  rw [show (ab_I (ab_I (ab_L σ (g + 1) G.1 (pkL l 0)) (g + 2) G.1 0) (g + 3) G.1 0).2.1 g 0 = nI G.1 by simp [gI_I, gI_L, h0], nI_1]
  refine h _ (((((Fr.rf _ σ).L (by simp)).I (by simp)).I (by simp)).I (by simp)) (fun i hi => by simp [gI_I, gI_L, hi]) ⟨?_, fun s hs => ?_⟩
  · simp [gI_I, gS]
  · have hs : s < G.1 + 1 := hs
    by_cases e : s = G.1
    · subst e
      simp [gI_I, gI_L, gL_I, gL_L, gS, uf_s, bm]
      rfl
    · have := h1 s (by omega)
      simp [gI_I, gI_L, gL_I, gL_L, gS, uf_o _ _ e, e]
      exact this
theorem c_addA (hg : isG g) (hC : CSy σ g G) (hV : G.1 ≤ 12) {s : Nat} (hs : s < G.1) (h8 : G.2.2.1 s < 8) (hall : ∀ s, s < G.1 → G.2.2.1 s ≤ 8) {l : List Nat} {d : Bool} {Q : ab_S → Prop} (h : ∀ σ', Fr (fun a => decide (g ≤ a ∧ a ≤ g + 17)) σ σ' → (∀ i, i ≠ 0 → σ'.2.1 g i = σ.2.1 g i) → CSy σ' g (gA G s l d) → Q σ') : wX0_addAttribute g (nI s) (pkL l 0) (if d then 1 else 0) Q E σ := by
  obtain ⟨h0, h1⟩ := hC
  have hs1 := h1 s hs
  unfold wX0_addAttribute
  have ev : vp_in (nI s) 12 := by simp (disch := omega) only [nI_lit, nI_add, nI_mulE, nI_clampE, nI_eqE, nI_leE, nI_ltE, vp_nIE, true_and, and_true]; omega
  have ec : (nI s).toNatClampNeg = s := nI_clampE (by omega)
  rw [ec, hs1.2.1]
  have e8 : nI s * 8 + nI (G.2.2.1 s) = nI (s * 8 + G.2.2.1 s) := by show nI s * nI 8 + _ = _; rw [nI_mulE, nI_add]
  refine ⟨ev, fe ?_⟩
  rw [e8]
  refine ⟨by simp (disch := omega) only [nI_lit, nI_add, nI_mulE, nI_clampE, nI_eqE, nI_leE, nI_ltE, vp_nIE, true_and, and_true]; omega, fe ?_⟩
  rw [nI_clampE (by omega)]
  have fin : ∀ τ, Fr (fun a => decide (g ≤ a ∧ a ≤ g + 17)) σ τ → (τ.2.2.1 = (ab_L σ (g + 4) (s * 8 + G.2.2.1 s) (pkL l 0)).2.2.1) → (∀ a, a ≠ g + 3 → τ.2.1 a = σ.2.1 a) → (∀ s', s' ≠ s → τ.2.1 (g + 3) s' = σ.2.1 (g + 3) s') → τ.2.1 (g + 3) s = bm (uf (G.2.2.2.1 s) (G.2.2.1 s) d) (G.2.2.1 s + 1) → wX0_addAttribute_j39 g (nI s) (pkL l 0) (if d then 1 else 0) Q E (nI (G.2.2.1 s)) τ := by
    intro τ hF k1 k2 k3 k4
    unfold wX0_addAttribute_j39
    refine ⟨ev, ?_⟩
    rw [ec]
    refine fe (h _ (hF.I (by simp)) (fun i hi => by rw [gI_I, if_neg (by omega), k2 g (by omega)]) ⟨?_, fun s' hs' => ?_⟩)
    · rw [gI_I]; simp [k2 g (by omega), h0, gA]
    · have hs' : s' < G.1 := hs'
      have hs2 := h1 s' hs'
      have hs8 := hall s' hs'
      rw [gL_I, k1]
      by_cases e : s' = s
      · subst e
        refine ⟨?_, ?_, ?_, fun a ha => ?_⟩
        · simp [gL_L, hs2.1, gA]
        · rw [gI_I]; simp [gA, uf_s, nI_1]
        · rw [gI_I]; simp [gA, uf_s, k4]
        · have ha : a < uf G.2.2.1 s' (G.2.2.1 s' + 1) s' := ha
          rw [uf_s] at ha
          rw [gL_L]
          by_cases ea : a = G.2.2.1 s'
          · subst ea; simp [gA, uf_s]
          · simp [gA, uf_s, uf_o _ _ ea, ea, hs2.2.2.2 a (by omega)]
      · refine ⟨?_, ?_, ?_, fun a ha => ?_⟩
        · simp [gL_L, hs2.1, gA]
        · rw [gI_I]; simp [gA, uf_o _ _ e, e, k2 (g + 2) (by omega), hs2.2.1]
        · rw [gI_I]; simp [gA, uf_o _ _ e, k3 s' e, hs2.2.2.1]
        · have ha : a < uf G.2.2.1 s (G.2.2.1 s + 1) s' := ha
          rw [uf_o _ _ e] at ha
          rw [gL_L, if_pos rfl, if_neg (by omega), hs2.2.2.2 a ha]
          simp [gA, uf_o _ _ e]
  have eb : bm (uf (G.2.2.2.1 s) (G.2.2.1 s) d) (G.2.2.1 s) = bm (G.2.2.2.1 s) (G.2.2.1 s) := bm_congr (fun i hi => uf_o _ _ (by omega))
  cases d
  · refine yes rfl (fin _ ((Fr.rf _ σ).L (by simp)) rfl (fun a _ => rfl) (fun s' _ => rfl) ?_)
    rw [bm, uf_s, if_neg (by decide), eb]; exact hs1.2.2.1
  · refine no (by decide) ⟨ev, ev, fe ?_⟩
    refine fin _ (((Fr.rf _ σ).L (by simp)).I (by simp)) rfl (fun a ha => ?_) (fun s' hs' => ?_) ?_
    · funext i; simp [gI_I, gI_L, ha]
    · simp [gI_I, gI_L, hs']
    · rw [bm, uf_s, if_pos rfl, eb, gI_I, if_pos rfl, if_pos rfl, gI_L, hs1.2.2.1]
theorem refG {S : Nat → Bool} {σ σ' : ab_S} {g : Nat} (f : Fr S σ σ') (s7 : S 7 = false) (h : σ.2.2.2 7 1 = some g) : σ'.2.2.2 7 1 = some g := by rw [f.2.2 7 s7]; exact h
theorem Sg_SGr {g : Nat} : ∀ a, SGr g a = false → (fun a => decide (g ≤ a ∧ a ≤ g + 17)) a = false := by intro a h; simp [SGr] at *; omega
theorem Sg_out {g k : Nat} (h : isG g) (hk : k < 44) : (fun a => decide (g ≤ a ∧ a ≤ g + 17)) k = false := by have := isG_b h; simp; omega
theorem fiI_no {nm : Nat → List Nat} {N : Nat} {l : List Nat} (h : fi nm N l = N) : fiI nm N l = -1 := by unfold fiI; rw [if_neg (by omega)]
theorem fiI_ne {nm : Nat → List Nat} {N : Nat} {l : List Nat} (h : fi nm N l ≠ N) (hN : N < 1000) : ¬ fiI nm N l = -1 ∧ fi nm N l < N := by
  have h1 := fi_le nm N l
  unfold fiI
  rw [if_pos (by omega)]
  refine ⟨fun z => ?_, by omega⟩
  have := nI_pos (n := fi nm N l) (by omega)
  rw [z] at this
  exact this (by decide)
def Fq (g : Nat) (σ0 σ : ab_S) : Prop := Fr (SGr g) σ0 σ ∧ ∀ i, i ≠ 0 → σ.2.1 g i = σ0.2.1 g i
theorem Fq.s3 {σ0 σ σ' : ab_S} (h : Fq g σ0 σ) (hg : isG g) (f : Fr S3 σ σ') : Fq g σ0 σ' := ⟨h.1.tr (f.mono S3_SGr), fun i hi => by rw [show σ'.2.1 g = σ.2.1 g from f.1 g (S3_g (k := 0) hg)]; exact h.2 i hi⟩
theorem Fq.sg {σ0 σ σ' : ab_S} (h : Fq g σ0 σ) (f : Fr (fun a => decide (g ≤ a ∧ a ≤ g + 17)) σ σ') (e : ∀ i, i ≠ 0 → σ'.2.1 g i = σ.2.1 g i) : Fq g σ0 σ' := ⟨h.1.tr (f.mono Sg_SGr), fun i hi => (e i hi).trans (h.2 i hi)⟩
theorem c_at {s : Nat} {d : Bool} {Q : Int32 → ab_S → Prop} (hg : isG g) (σ0 : ab_S) : ∀ (f : Nat) (q0 : Nat) (σ : ab_S) (G : SYT), f ≤ 9 → CS σ t n q0 → 2 ≤ tkK t n q0 → σ.2.2.2 7 1 = some g → CSy σ g G → GV G → s < G.1 → Fq g σ0 σ → 9 ≤ G.2.2.1 s + f → (∀ σ', Fq g σ0 σ' → σ'.2.2.2 7 1 = some g → CS σ' t n (pAt t n s d f (nx t n q0) G).2.1 → ((pAt t n s d f (nx t n q0) G).1 = true → CSy σ' g (pAt t n s d f (nx t n q0) G).2.2 ∧ GV (pAt t n s d f (nx t n q0) G).2.2) → Q (if (pAt t n s d f (nx t n q0) G).1 then 1 else 0) σ') → wX1_readAttributes_l2 (nI s) (if d then 1 else 0) Q E (f + 1) (nI (9 - f)) σ := by
  intro f
  induction f with
  | zero => intro q0 σ G _ _ _ _ _ hV hs _ h9; exact absurd (hV.2.2 s hs).2.1 (by omega)
  | succ f ih =>
    intro q0 σ G hf9 hS hk hR hC hV hs hF h9 h
    show wX1_readAttributes_l2_b (nI s) (if d then 1 else 0) Q E (wX1_readAttributes_l2 (nI s) (if d then 1 else 0) Q E (f + 1)) (nI (9 - (f + 1))) σ
    unfold wX1_readAttributes_l2_b
    have h12 := hV.1
    have hvs := hV.2.2 s hs
    have ev : vp_in (nI s) 12 := by simp (disch := omega) only [nI_lit, nI_add, nI_mulE, nI_clampE, nI_eqE, nI_leE, nI_ltE, vp_nIE, true_and, and_true]; omega
    have ec : (nI s).toNatClampNeg = s := nI_clampE (by omega)
    have hk128 := tkK_lt (t := t) (n := n) (q := nx t n q0)
    refine no (by simp (disch := omega) only [nI_lit, nI_add, nI_mulE, nI_clampE, nI_eqE, nI_leE, nI_ltE, vp_nIE, true_and, and_true]; omega) ?_
    refine c_adv hS hk (fun σ1 f1 hS1 => ?_)
    have hR1 := refG f1 rfl hR
    have hC1 := hC.adv hg f1
    have hF1 := hF.s3 hg f1
    generalize nx t n q0 = q at h hS1 hk128
    rw [hS1.kind]
    by_cases k2 : tkK t n q = 2
    · obtain ⟨v1, v2, v3⟩ := nml_v k2
      refine no (by rw [k2]; exact fun z => z rfl) ⟨g, hR1, hg, ev, ?_⟩
      rw [ec, (hC1.2 s hs).2.1]
      by_cases k8 : G.2.2.1 s = 8
      · refine yes (by rw [k8]; rfl) ?_
        have e : pAt t n s d (f + 1) q G = (false, q, G) := by rw [pAt, if_neg (fun z => z.2.1 k8)]
        rw [e] at h
        exact h σ1 hF1 hR1 hS1 (fun z => absurd z Bool.false_ne_true)
      · refine no (by have := hvs.2.1; simp (disch := omega) only [nI_lit, nI_add, nI_mulE, nI_clampE, nI_eqE, nI_leE, nI_ltE, vp_nIE, true_and, and_true]; exact k8) ⟨g, hR1, hg, ?_⟩
        rw [hS1.name k2, v2]
        refine c_findA (by omega) hvs.2.1 (hC1.2 s hs).2.1 (fun a ha => ⟨(hC1.2 s hs).2.2.2 a ha, hvs.2.2.2 a ha⟩) v1 ?_
        by_cases kf : fi (G.2.2.2.2 s) (G.2.2.1 s) (nml t n q) = G.2.2.1 s
        · rw [fiI_no kf]
          refine yes rfl ⟨g, hR1, hg, ?_⟩
          rw [hS1.name k2, v2]
          refine c_addA hg hC1 h12 hs (by have := hvs.2.1; omega) (fun s' hs' => (hV.2.2 s' hs').2.1) (fun σ2 f2 e2 hC2 => ?_)
          have hS2 := hS1.fr f2 (Sg_out hg (by omega)) (Sg_out hg (by omega)) (Sg_out hg (by omega)) (Sg_out hg (by omega))
          have hR2 := refG f2 (Sg_out hg (by omega)) hR1
          have hF2 := hF1.sg f2 e2
          have hV2 := GV_A (d := d) hV hs v1 (by have := hvs.2.1; omega) kf
          refine c_adv hS2 (by omega) (fun σ3 f3 hS3 => ?_)
          have hR3 := refG f3 rfl hR2
          have hC3 := hC2.adv hg f3
          have hF3 := hF2.s3 hg f3
          have hk3 := tkK_lt (t := t) (n := n) (q := nx t n q)
          rw [hS3.kind]
          by_cases kc : tkK t n (nx t n q) = 44
          · refine yes (by rw [kc]; rfl) (fe ?_)
            have e : pAt t n s d (f + 1) q G = pAt t n s d f (nx t n (nx t n q)) (gA G s (nml t n q) d) := by rw [pAt, if_pos ⟨k2, k8, kf⟩, if_pos kc]
            rw [e] at h
            have hcs : (gA G s (nml t n q) d).2.2.1 s = G.2.2.1 s + 1 := uf_s _ _ _
            rw [nI_1, show 9 - (f + 1) + 1 = 9 - f by omega]
            exact ih (nx t n q) σ3 _ (by omega) hS3 (by omega) hR3 hC3 hV2 hs hF3 (by omega) h
          · refine no (by simp (disch := omega) only [nI_lit, nI_add, nI_mulE, nI_clampE, nI_eqE, nI_leE, nI_ltE, vp_nIE, true_and, and_true]; exact kc) ?_
            have e : pAt t n s d (f + 1) q G = (true, nx t n q, gA G s (nml t n q) d) := by rw [pAt, if_pos ⟨k2, k8, kf⟩, if_neg kc]
            rw [e] at h
            exact h σ3 hF3 hR3 hS3 (fun _ => ⟨hC3, hV2⟩)
        · refine no (fiI_ne kf (by have := hvs.2.1; omega)).1 ?_
          have e : pAt t n s d (f + 1) q G = (false, q, G) := by rw [pAt, if_neg (fun z => kf z.2.2)]
          rw [e] at h
          exact h σ1 hF1 hR1 hS1 (fun z => absurd z Bool.false_ne_true)
    · refine yes (by simp (disch := omega) only [nI_lit, nI_add, nI_mulE, nI_clampE, nI_eqE, nI_leE, nI_ltE, vp_nIE, true_and, and_true]; exact k2) ?_
      have e : pAt t n s d (f + 1) q G = (false, q, G) := by rw [pAt, if_neg (fun z => k2 z.1)]
      rw [e] at h
      exact h σ1 hF1 hR1 hS1 (fun z => absurd z Bool.false_ne_true)
theorem c_S3 {Q : Int32 → ab_S → Prop} (hg : isG g) (σ0 : ab_S) (hS : CS σ t n q) (hR : σ.2.2.2 7 1 = some g) (hC : CSy σ g G) (hV : GV G) (hF : Fq g σ0 σ) (h : ∀ σ', Fq g σ0 σ' → σ'.2.2.2 7 1 = some g → CS σ' t n (pS3 t n q G).2.1 → ((pS3 t n q G).1 = true → CSy σ' g (pS3 t n q G).2.2 ∧ GV (pS3 t n q G).2.2) → Q (if (pS3 t n q G).1 then 1 else 0) σ') : wX1_readSymbol_j120 Q E σ := by
  unfold wX1_readSymbol_j120
  refine c_take (w := 59) hS (by omega) (by omega) (fun k σ1 f1 hS1 => ⟨Or.inr rfl, ?_⟩) (fun k => ⟨Or.inl rfl, ?_⟩)
  · rw [show pS3 t n q G = (true, nx t n q, G) by rw [pS3, if_pos k]] at h
    exact h σ1 (hF.s3 hg f1) (refG f1 rfl hR) hS1 (fun _ => ⟨hC.adv hg f1, hV⟩)
  · rw [show pS3 t n q G = (false, q, G) by rw [pS3, if_neg k]] at h
    exact h σ hF hR hS (fun z => absurd z Bool.false_ne_true)
theorem pAt_ns {t : Nat → Nat} {n s : Nat} {d : Bool} : ∀ (f q : Nat) (G : SYT), (pAt t n s d f q G).2.2.1 = G.1
  | 0, _, _ => rfl
  | f + 1, q, G => by
    rw [pAt]
    split
    · split
      · rw [pAt_ns f]; rfl
      · rfl
    · rfl
theorem c_S2 {Q : Int32 → ab_S → Prop} (hg : isG g) (σ0 : ab_S) {s : Nat} (hs : s < G.1) (hS : CS σ t n q) (hR : σ.2.2.2 7 1 = some g) (hC : CSy σ g G) (hV : GV G) (hF : Fq g σ0 σ) (h : ∀ σ', Fq g σ0 σ' → σ'.2.2.2 7 1 = some g → CS σ' t n (pS2 t n s q G).2.1 → ((pS2 t n s q G).1 = true → CSy σ' g (pS2 t n s q G).2.2 ∧ GV (pS2 t n s q G).2.2) → Q (if (pS2 t n s q G).1 then 1 else 0) σ') : wX1_readSymbol_j97 Q E (nI s) σ := by
  have hk128 := tkK_lt (t := t) (n := n) (q := q)
  unfold wX1_readSymbol_j97
  rw [hS.kind]
  by_cases k : tkK t n q = 6
  · refine no (by rw [k]; exact fun z => z rfl) ⟨10, ?_⟩
    refine c_at (d := false) hg σ0 9 q σ G (by omega) hS (by omega) hR hC hV hs hF (by omega) (fun σ1 F1 R1 S1 C1 => ?_)
    cases hb : (pAt t n s false 9 (nx t n q) G).1
    · rw [show pS2 t n s q G = pAt t n s false 9 (nx t n q) G by rw [pS2, if_pos k, if_neg (by rw [hb]; decide)]] at h
      refine no (by decide) ?_
      have := h σ1 F1 R1 S1 C1
      rw [hb] at this
      exact this
    · rw [show pS2 t n s q G = pS3 t n (pAt t n s false 9 (nx t n q) G).2.1 (pAt t n s false 9 (nx t n q) G).2.2 by rw [pS2, if_pos k, if_pos hb]] at h
      refine yes (by decide) ?_
      exact c_S3 hg σ0 S1 R1 (C1 hb).1 (C1 hb).2 F1 h
  · rw [show pS2 t n s q G = pS3 t n q G by rw [pS2, if_neg k]] at h
    exact yes (by simp (disch := omega) only [nI_lit, nI_add, nI_mulE, nI_clampE, nI_eqE, nI_leE, nI_ltE, vp_nIE, true_and, and_true]; exact k) (c_S3 hg σ0 hS hR hC hV hF h)
theorem c_Sy {Q : Int32 → ab_S → Prop} (hg : isG g) (σ0 : ab_S) (hS : CS σ t n q) (hR : σ.2.2.2 7 1 = some g) (hC : CSy σ g G) (hV : GV G) (h12 : G.1 < 12) (hF : Fq g σ0 σ) (h : ∀ σ', Fq g σ0 σ' → σ'.2.2.2 7 1 = some g → CS σ' t n (pSy t n q G).2.1 → ((pSy t n q G).1 = true → CSy σ' g (pSy t n q G).2.2 ∧ GV (pSy t n q G).2.2) → Q (if (pSy t n q G).1 then 1 else 0) σ') : wX1_readSymbol Q E σ := by
  unfold wX1_readSymbol
  refine c_take (w := 4) hS (by omega) (by omega) (fun k σ1 f1 hS1 => ?_) (fun k => ?_)
  · refine no (by decide) ?_
    have hR1 := refG f1 rfl hR
    have hC1 := hC.adv hg f1
    have hF1 := hF.s3 hg f1
    have hk1 := tkK_lt (t := t) (n := n) (q := nx t n q)
    rw [hS1.kind]
    by_cases k2 : tkK t n (nx t n q) = 2
    · obtain ⟨v1, v2, v3⟩ := nml_v k2
      refine no (by rw [k2]; exact fun z => z rfl) ⟨g, hR1, hg, ?_⟩
      rw [hS1.name k2, v2]
      refine c_findS (by omega) hC1.1 (fun s hs => ⟨(hC1.2 s hs).1, (hV.2.2 s hs).1⟩) v1 ?_
      by_cases kf : fi G.2.1 G.1 (nml t n (nx t n q)) = G.1
      · have e : pSy t n q G = pS1 t n G.1 (nx t n (nx t n q)) (gS G (nml t n (nx t n q))) := by rw [pSy, if_pos k, if_pos ⟨k2, kf⟩]
        rw [e] at h
        rw [fiI_no kf]
        refine yes rfl ⟨g, hR1, hg, fe ⟨g, hR1, hg, ?_⟩⟩
        rw [hS1.name k2, v2]
        refine c_addS hg hC1 h12 (fun σ2 f2 e2 hC2 => ?_)
        have hS2 := hS1.fr f2 (Sg_out hg (by omega)) (Sg_out hg (by omega)) (Sg_out hg (by omega)) (Sg_out hg (by omega))
        have hR2 := refG f2 (Sg_out hg (by omega)) hR1
        have hF2 := hF1.sg f2 e2
        have hV2 := GV_S hV v1 h12 kf
        refine c_adv hS2 (by omega) (fun σ3 f3 hS3 => ?_)
        have hR3 := refG f3 rfl hR2
        have hC3 := hC2.adv hg f3
        have hF3 := hF2.s3 hg f3
        have hk3 := tkK_lt (t := t) (n := n) (q := nx t n (nx t n q))
        have hs3 : G.1 < (gS G (nml t n (nx t n q))).1 := Nat.lt_succ_self _
        have hc0 : (gS G (nml t n (nx t n q))).2.2.1 G.1 = 0 := uf_s _ _ _
        rw [hS3.kind, hC1.1]
        by_cases k5 : tkK t n (nx t n (nx t n q)) = 5
        · refine no (by rw [k5]; exact fun z => z rfl) ?_
          by_cases k0 : G.1 = 0
          · rw [show pS1 t n G.1 (nx t n (nx t n q)) (gS G (nml t n (nx t n q))) = (false, nx t n (nx t n q), gS G (nml t n (nx t n q))) by rw [pS1, if_pos k5, if_pos k0]] at h
            refine yes (by rw [k0]; rfl) ?_
            exact h σ3 hF3 hR3 hS3 (fun z => absurd z Bool.false_ne_true)
          · refine no (by simp (disch := omega) only [nI_lit, nI_add, nI_mulE, nI_clampE, nI_eqE, nI_leE, nI_ltE, vp_nIE, true_and, and_true]; exact k0) ⟨10, ?_⟩
            refine c_at (d := true) hg σ0 9 _ σ3 _ (by omega) hS3 (by omega) hR3 hC3 hV2 hs3 hF3 (by omega) (fun σ4 F4 R4 S4 C4 => ?_)
            cases hb : (pAt t n G.1 true 9 (nx t n (nx t n (nx t n q))) (gS G (nml t n (nx t n q)))).1
            · rw [show pS1 t n G.1 (nx t n (nx t n q)) (gS G (nml t n (nx t n q))) = pAt t n G.1 true 9 (nx t n (nx t n (nx t n q))) (gS G (nml t n (nx t n q))) by rw [pS1, if_pos k5, if_neg k0, if_neg (by rw [hb]; decide)]] at h
              refine no (by decide) ?_
              have := h σ4 F4 R4 S4 C4
              rw [hb] at this
              exact this
            · rw [show pS1 t n G.1 (nx t n (nx t n q)) (gS G (nml t n (nx t n q))) = pS2 t n G.1 (pAt t n G.1 true 9 (nx t n (nx t n (nx t n q))) (gS G (nml t n (nx t n q)))).2.1 (pAt t n G.1 true 9 (nx t n (nx t n (nx t n q))) (gS G (nml t n (nx t n q)))).2.2 by rw [pS1, if_pos k5, if_neg k0, if_pos hb]] at h
              refine yes (by decide) ?_
              exact c_S2 hg σ0 (by rw [pAt_ns]; exact hs3) S4 R4 (C4 hb).1 (C4 hb).2 F4 h
        · rw [show pS1 t n G.1 (nx t n (nx t n q)) (gS G (nml t n (nx t n q))) = pS2 t n G.1 (nx t n (nx t n q)) (gS G (nml t n (nx t n q))) by rw [pS1, if_neg k5]] at h
          exact yes (by simp (disch := omega) only [nI_lit, nI_add, nI_mulE, nI_clampE, nI_eqE, nI_leE, nI_ltE, vp_nIE, true_and, and_true]; exact k5) (c_S2 hg σ0 hs3 hS3 hR3 hC3 hV2 hF3 h)
      · have e : pSy t n q G = (false, nx t n q, G) := by rw [pSy, if_pos k, if_neg (fun z => kf z.2)]
        rw [e] at h
        exact no (fiI_ne kf (by omega)).1 (h σ1 hF1 hR1 hS1 (fun z => absurd z Bool.false_ne_true))
    · have e : pSy t n q G = (false, nx t n q, G) := by rw [pSy, if_pos k, if_neg (fun z => k2 z.1)]
      rw [e] at h
      exact yes (by simp (disch := omega) only [nI_lit, nI_add, nI_mulE, nI_clampE, nI_eqE, nI_leE, nI_ltE, vp_nIE, true_and, and_true]; exact k2) (h σ1 hF1 hR1 hS1 (fun z => absurd z Bool.false_ne_true))
  · refine yes rfl ?_
    rw [show pSy t n q G = (false, q, G) by rw [pSy, if_neg k]] at h
    exact h σ hF hR hS (fun z => absurd z Bool.false_ne_true)
end CL
