/-! ===== the program: what the model's two passes over a rule's code give, as lists ===== -/
abbrev FPS : Type := (Nat → Nat) × (Nat → Nat) × (Nat → Nat)
abbrev WRS : Type := Nat × (Nat → Nat) × (Nat → Nat) × (Nat → Nat) × (Nat → Nat)
def fp1 (S : FPS) (j w : Nat) : FPS :=
  if w = 40 ∨ w = 41 ∨ w = 50 then (uf S.1 j j, S.2)
  else if w = 30 then (uf S.1 j (S.1 (j - 1)), S.2)
  else if w = 31 then (uf S.1 j (S.1 (S.1 (S.1 (j - 1) - 1) - 1)), uf S.2.1 (S.1 (S.1 (j - 1) - 1)) j, uf S.2.2 (S.1 (j - 1)) j)
  else (uf S.1 j (S.1 (S.1 (j - 1) - 1)), S.2)
def fpR : Nat → List (Nat × Nat) → FPS → FPS
  | _, [], S => S
  | L, z :: r, S => fpR (L + 1) r (fp1 S L z.1)
theorem fpR_app : ∀ (a b : List (Nat × Nat)) (L : Nat) (S : FPS), fpR L (a ++ b) S = fpR (L + a.length) b (fpR L a S)
  | [], b, L, S => rfl
  | z :: r, b, L, S => by
    show fpR (L + 1) (r ++ b) (fp1 S L z.1) = _
    rw [fpR_app r b (L + 1), List.length_cons, show L + 1 + r.length = L + (r.length + 1) by omega]; rfl
def mkA (Md : Nat → Nat) (W : WRS) (j : Nat) : WRS := if Md j = 0 then W else (W.1 + 1, uf W.2.1 W.1 13, uf W.2.2.1 W.1 0, uf W.2.2.2.1 (Md j) W.1, W.2.2.2.2)
def mkB (La : Nat → Nat) (W : WRS) (j : Nat) : WRS := if La j = 0 then W else (W.1 + 1, uf W.2.1 W.1 14, uf (uf W.2.2.1 W.1 0) (W.2.2.2.1 (La j)) (W.1 + 1), W.2.2.2.1, uf W.2.2.2.2 (La j) W.1)
def mk1 (Md La : Nat → Nat) (W : WRS) (j : Nat) : WRS := mkB La (mkA Md W j) j
def ok1 (L0 : Nat) (S : FPS) (j w : Nat) : Prop := (w = 40 ∨ w = 41 ∨ w = 50) ∨ (L0 < j ∧ L0 ≤ S.1 (j - 1) ∧ S.1 (j - 1) < j ∧ (w = 30 ∨ (L0 < S.1 (j - 1) ∧ L0 ≤ S.1 (S.1 (j - 1) - 1) ∧ S.1 (S.1 (j - 1) - 1) < S.1 (j - 1) ∧ (w = 31 → L0 < S.1 (S.1 (j - 1) - 1) ∧ L0 ≤ S.1 (S.1 (S.1 (j - 1) - 1) - 1) ∧ S.1 (S.1 (S.1 (j - 1) - 1) - 1) < j))))
def fpOK (L0 : Nat) : Nat → List (Nat × Nat) → FPS → Prop
  | _, [], _ => True
  | L, z :: r, S => ok1 L0 S L z.1 ∧ fpOK L0 (L + 1) r (fp1 S L z.1)
theorem fpOK_app (L0 : Nat) : ∀ (a b : List (Nat × Nat)) (L : Nat) (S : FPS), fpOK L0 L a S → fpOK L0 (L + a.length) b (fpR L a S) → fpOK L0 L (a ++ b) S
  | [], b, L, S, _, h => h
  | z :: r, b, L, S, h1, h2 => ⟨h1.1, fpOK_app L0 r b (L + 1) _ h1.2 (by rw [List.length_cons, show L + (r.length + 1) = L + 1 + r.length by omega] at h2; exact h2)⟩
def mok (Md La : Nat → Nat) (W : WRS) (j : Nat) : Prop := La j = 0 ∨ (mkA Md W j).2.2.2.1 (La j) < (mkA Md W j).1
def iok (W : WRS) (j : Nat) (z : Nat × Nat) : Prop := z.1 ≠ 31 ∨ W.2.2.2.2 j < W.1
section PG
variable (gk gn : Nat → Nat)
def ik (z : Nat × Nat) : Nat := if z.1 = 40 then 0 else if z.1 = 41 then 1 else if z.1 = 50 then gk z.2 else if z.1 = 30 then 6 else bo z.1
def io (z : Nat × Nat) : Nat := if z.1 = 40 then z.2 else if z.1 = 50 then gn z.2 else 0
def in1 (W : WRS) (j : Nat) (z : Nat × Nat) : WRS :=
  if z.1 = 31 then (W.1, W.2.1, uf W.2.2.1 (W.2.2.2.2 j) W.1, W.2.2.2.1, W.2.2.2.2)
  else (W.1 + 1, uf W.2.1 W.1 (ik gk z), uf W.2.2.1 W.1 (io gn z), W.2.2.2.1, W.2.2.2.2)
def wrR (Md La : Nat → Nat) : Nat → List (Nat × Nat) → WRS → WRS
  | _, [], W => W
  | L, z :: r, W => wrR Md La (L + 1) r (in1 gk gn (mk1 Md La W L) L z)
def zR (Md La : Nat → Nat) (L : Nat) : List (Nat × Nat) → WRS → WRS
  | [], W => W
  | z :: r, W => wrR gk gn Md La (L + 1) r (in1 gk gn W L z)
theorem wrR_app (Md La : Nat → Nat) : ∀ (a b : List (Nat × Nat)) (L : Nat) (W : WRS), wrR gk gn Md La L (a ++ b) W = wrR gk gn Md La (L + a.length) b (wrR gk gn Md La L a W)
  | [], b, L, W => rfl
  | z :: r, b, L, W => by
    show wrR gk gn Md La (L + 1) (r ++ b) _ = _
    rw [wrR_app Md La r b (L + 1), List.length_cons, show L + 1 + r.length = L + (r.length + 1) by omega]; rfl
theorem zR_app (Md La : Nat → Nat) {a : List (Nat × Nat)} (b : List (Nat × Nat)) (L : Nat) (W : WRS) (ha : a ≠ []) : zR gk gn Md La L (a ++ b) W = wrR gk gn Md La (L + a.length) b (zR gk gn Md La L a W) := by
  cases a with
  | nil => exact absurd rfl ha
  | cons z r =>
    show wrR gk gn Md La (L + 1) (r ++ b) _ = _
    rw [wrR_app, List.length_cons, show L + 1 + r.length = L + (r.length + 1) by omega]; rfl
theorem wr_z (Md La : Nat → Nat) {a : List (Nat × Nat)} (L : Nat) (W : WRS) (ha : a ≠ []) : wrR gk gn Md La L a W = zR gk gn Md La L a (mk1 Md La W L) := by
  cases a with
  | nil => exact absurd rfl ha
  | cons z r => rfl
def wrOK (Md La : Nat → Nat) : Nat → List (Nat × Nat) → WRS → Prop
  | _, [], _ => True
  | L, z :: r, W => mok Md La W L ∧ iok (mk1 Md La W L) L z ∧ wrOK Md La (L + 1) r (in1 gk gn (mk1 Md La W L) L z)
def zOK (Md La : Nat → Nat) (L : Nat) : List (Nat × Nat) → WRS → Prop
  | [], _ => True
  | z :: r, W => iok W L z ∧ wrOK gk gn Md La (L + 1) r (in1 gk gn W L z)
theorem wrOK_app (Md La : Nat → Nat) : ∀ (a b : List (Nat × Nat)) (L : Nat) (W : WRS), wrOK gk gn Md La L a W → wrOK gk gn Md La (L + a.length) b (wrR gk gn Md La L a W) → wrOK gk gn Md La L (a ++ b) W
  | [], b, L, W, _, h => h
  | z :: r, b, L, W, h1, h2 => ⟨h1.1, h1.2.1, wrOK_app Md La r b (L + 1) _ h1.2.2 (by rw [List.length_cons, show L + (r.length + 1) = L + 1 + r.length by omega] at h2; exact h2)⟩
theorem zOK_app (Md La : Nat → Nat) {a : List (Nat × Nat)} (b : List (Nat × Nat)) (L : Nat) (W : WRS) (ha : a ≠ []) (h1 : zOK gk gn Md La L a W) (h2 : wrOK gk gn Md La (L + a.length) b (zR gk gn Md La L a W)) : zOK gk gn Md La L (a ++ b) W := by
  cases a with
  | nil => exact absurd rfl ha
  | cons z r => exact ⟨h1.1, wrOK_app gk gn Md La r b (L + 1) _ h1.2 (by rw [List.length_cons, show L + (r.length + 1) = L + 1 + r.length by omega] at h2; exact h2)⟩
theorem wrOK_z (Md La : Nat → Nat) {a : List (Nat × Nat)} (L : Nat) (W : WRS) (ha : a ≠ []) (h1 : mok Md La W L) (h2 : zOK gk gn Md La L a (mk1 Md La W L)) : wrOK gk gn Md La L a W := by
  cases a with
  | nil => exact absurd rfl ha
  | cons z r => exact ⟨h1, h2.1, h2.2⟩
def xk (z : Nat × Nat) : Nat := if z.1 = 2 then gk z.2 else z.1
def xo (j : Nat) (z : Nat × Nat) : Nat := if z.1 = 2 then gn z.2 else abn j z
/-- what a stretch of the second pass writes -/
def EmS (L n : Nat) (c : List (Nat × Nat)) (W W' : WRS) : Prop := W'.1 = W.1 + c.length ∧ (∀ i, i < c.length → W'.2.1 (W.1 + i) = xk gk (c.getD i (0, 0)) ∧ W'.2.2.1 (W.1 + i) = xo gn (W.1 + i) (c.getD i (0, 0))) ∧ (∀ i, i < W.1 → W'.2.1 i = W.2.1 i ∧ W'.2.2.1 i = W.2.2.1 i) ∧ ∀ j, j < L ∨ L + n ≤ j → W'.2.2.2.1 j = W.2.2.2.1 j ∧ W'.2.2.2.2 j = W.2.2.2.2 j
variable {gk gn}
theorem EmS.app {L n1 n2 : Nat} {c1 c2 : List (Nat × Nat)} {W W1 W2 : WRS} (h1 : EmS gk gn L n1 c1 W W1) (h2 : EmS gk gn (L + n1) n2 c2 W1 W2) : EmS gk gn L (n1 + n2) (c1 ++ c2) W W2 := by
  obtain ⟨a1, a2, a3, a4⟩ := h1
  obtain ⟨b1, b2, b3, b4⟩ := h2
  refine ⟨by rw [b1, a1, List.length_append]; omega, fun i hi => ?_, fun i hi => ?_, fun j hj => ?_⟩
  · rw [List.length_append] at hi
    by_cases h : i < c1.length
    · rw [gp_l h, (b3 (W.1 + i) (by omega)).1, (b3 (W.1 + i) (by omega)).2]
      exact a2 i h
    · have := b2 (i - c1.length) (by omega)
      rw [gp_r (by omega)]
      rw [a1, show W.1 + c1.length + (i - c1.length) = W.1 + i by omega] at this
      exact this
  · rw [(b3 i (by omega)).1, (b3 i (by omega)).2]; exact a3 i hi
  · rw [(b4 j (by omega)).1, (b4 j (by omega)).2]; exact a4 j (by omega)
/-- one that writes one -/
theorem EmS.one {L : Nat} {W : WRS} {z : Nat × Nat} {k v : Nat} (h31 : z.1 ≠ 31) (hk : ik gk z = xk gk (k, v)) (ho : ∀ j, io gn z = xo gn j (k, v)) : EmS gk gn L 1 [(k, v)] W (in1 gk gn W L z) := by
  unfold in1
  rw [if_neg h31]
  refine ⟨rfl, fun i hi => ?_, fun i hi => ?_, fun j hj => ⟨rfl, rfl⟩⟩
  · have e : i = 0 := by have : i < 1 := hi; omega
    subst e
    show uf W.2.1 W.1 (ik gk z) W.1 = xk gk (k, v) ∧ uf W.2.2.1 W.1 (io gn z) W.1 = xo gn W.1 (k, v)
    rw [uf_s, uf_s]
    exact ⟨hk, ho _⟩
  · show uf W.2.1 W.1 (ik gk z) i = _ ∧ uf W.2.2.1 W.1 (io gn z) i = _
    rw [uf_o _ _ (by omega), uf_o _ _ (by omega)]
    exact ⟨rfl, rfl⟩
theorem mk_0 {Md La : Nat → Nat} {W : WRS} {j : Nat} (h1 : Md j = 0) (h2 : La j = 0) : mk1 Md La W j = W := by unfold mk1 mkB mkA; rw [if_pos h2, if_pos h1]
variable (gk gn)
def PgP (h : Nat) (m c : List (Nat × Nat)) : Prop := m ≠ [] ∧ ∀ L (S : FPS), (∀ j, L ≤ j → j < L + m.length → S.2.1 j = 0 ∧ S.2.2 j = 0) → (∀ L0, L0 ≤ L → fpOK L0 L m S) ∧ (fpR L m S).1 (L + m.length - 1) = L ∧ (∀ j, j < L → (fpR L m S).1 j = S.1 j) ∧ (∀ j, j ≤ L ∨ L + m.length ≤ j → (fpR L m S).2.1 j = S.2.1 j ∧ (fpR L m S).2.2 j = S.2.2 j) ∧ ∀ Md La : Nat → Nat, (∀ j, L < j → j < L + m.length → Md j = (fpR L m S).2.1 j ∧ La j = (fpR L m S).2.2 j) → ∀ W, EmS gk gn L m.length c W (zR gk gn Md La L m W) ∧ zOK gk gn Md La L m W
variable {gk gn}
theorem ne_len {m : List (Nat × Nat)} (h : m ≠ []) : 1 ≤ m.length := by
  cases m with
  | nil => exact absurd rfl h
  | cons z r => rw [List.length_cons]; omega
theorem PgP_leaf {h : Nat} {z : Nat × Nat} {k v : Nat} (hz : z.1 = 40 ∨ z.1 = 41 ∨ z.1 = 50) (hk : ik gk z = xk gk (k, v)) (ho : ∀ j, io gn z = xo gn j (k, v)) : PgP gk gn h [z] [(k, v)] := by
  refine ⟨by simp, fun L S _ => ?_⟩
  have e : fpR L [z] S = (uf S.1 L L, S.2) := by show fp1 S L z.1 = _; unfold fp1; rw [if_pos hz]
  refine ⟨fun L0 h0 => ⟨Or.inl hz, trivial⟩, ?_⟩
  rw [e]
  refine ⟨?_, fun j hj => ?_, fun j _ => ⟨rfl, rfl⟩, fun Md La _ W => ⟨?_, Or.inl (by omega), trivial⟩⟩
  · show uf S.1 L L (L + 1 - 1) = L
    rw [show L + 1 - 1 = L by omega, uf_s]
  · show uf S.1 L L j = _
    rw [uf_o _ _ (by omega)]
  · show EmS gk gn L 1 [(k, v)] W (in1 gk gn W L z)
    exact EmS.one (by omega) hk ho
theorem PgP_neg {h : Nat} {m c : List (Nat × Nat)} (hm : PgP gk gn h m c) : PgP gk gn h (m ++ [(30, 0)]) (c ++ [(6, 0)]) := by
  obtain ⟨n1, h1⟩ := hm
  have l1 := ne_len n1
  refine ⟨by simp, fun L S hS => ?_⟩
  have e1 : (m ++ [(30, 0)]).length = m.length + 1 := by simp
  rw [e1] at hS ⊢
  obtain ⟨a0, a1, a2, a3, a4⟩ := h1 L S (fun j z1 z2 => hS j z1 (by omega))
  refine ⟨fun L0 h0 => fpOK_app L0 _ _ _ _ (a0 L0 h0) ⟨Or.inr ⟨by omega, by rw [a1]; exact h0, by rw [a1]; omega, Or.inl rfl⟩, trivial⟩, ?_⟩
  have e : fpR L (m ++ [(30, 0)]) S = (uf (fpR L m S).1 (L + m.length) L, (fpR L m S).2) := by
    rw [fpR_app]
    show fp1 (fpR L m S) (L + m.length) 30 = _
    unfold fp1
    rw [if_neg (by omega), if_pos rfl, a1]
  rw [e]
  refine ⟨?_, fun j hj => ?_, fun j hj => ?_, fun Md La hM W => ?_⟩
  · show uf _ _ _ _ = _
    rw [show L + (m.length + 1) - 1 = L + m.length by omega, uf_s]
  · show uf _ _ _ _ = _
    rw [uf_o _ _ (by omega)]; exact a2 j hj
  · exact a3 j (by omega)
  · rw [zR_app _ _ _ _ _ _ _ n1]
    obtain ⟨em, ok⟩ := a4 Md La (fun j z1 z2 => hM j z1 (by omega)) W
    have mz := hM (L + m.length) (by omega) (by omega)
    have m0 := a3 (L + m.length) (Or.inr (Nat.le_refl _))
    have s0 := hS (L + m.length) (by omega) (by omega)
    have zA : Md (L + m.length) = 0 := by rw [mz.1]; exact m0.1.trans s0.1
    have zB : La (L + m.length) = 0 := by rw [mz.2]; exact m0.2.trans s0.2
    refine ⟨em.app ?_, zOK_app _ _ _ _ _ _ _ n1 ok ⟨Or.inl zB, Or.inl (by show (30 : Nat) ≠ 31; omega), trivial⟩⟩
    show EmS gk gn (L + m.length) 1 [(6, 0)] _ (in1 gk gn (mk1 Md La _ (L + m.length)) (L + m.length) (30, 0))
    rw [mk_0 zA zB]
    exact EmS.one (by show (30 : Nat) ≠ 31; omega) rfl (fun j => rfl)
theorem PgP_bin {h h2 h3 : Nat} {o : Nat} (ho : o ∈ mops) {m c m2 c2 : List (Nat × Nat)} (hm : PgP gk gn h m c) (hm2 : PgP gk gn h2 m2 c2) : PgP gk gn h3 (m ++ m2 ++ [(o, 0)]) (c ++ c2 ++ [(bo o, 0)]) := by
  have hob : o = 13 ∨ o = 14 ∨ o = 15 ∨ o = 16 ∨ o = 17 ∨ o = 4 := by simpa [mops] using ho
  obtain ⟨n1, h1⟩ := hm
  obtain ⟨n2, h2⟩ := hm2
  have l1 := ne_len n1
  have l2 := ne_len n2
  refine ⟨by simp, fun L S hS => ?_⟩
  have e1 : (m ++ m2 ++ [(o, 0)]).length = m.length + m2.length + 1 := by simp only [List.length_append, List.length_cons, List.length_nil] <;> omega
  rw [e1] at hS ⊢
  obtain ⟨a0, a1, a2, a3, a4⟩ := h1 L S (fun j z1 z2 => hS j z1 (by omega))
  obtain ⟨b0, b1, b2, b3, b4⟩ := h2 (L + m.length) (fpR L m S) (fun j z1 z2 => by rw [(a3 j (Or.inr z1)).1, (a3 j (Or.inr z1)).2]; exact hS j (by omega) (by omega))
  have fok : ∀ L0, L0 ≤ L → fpOK L0 L (m ++ m2 ++ [(o, 0)]) S := by
    intro L0 h0
    refine fpOK_app L0 _ _ _ _ (fpOK_app L0 _ _ _ _ (a0 L0 h0) (b0 L0 (by omega))) ⟨Or.inr ?_, trivial⟩
    rw [List.length_append, fpR_app, show L + (m.length + m2.length) - 1 = L + m.length + m2.length - 1 by omega, b1, b2 _ (by omega), a1]
    exact ⟨by omega, by omega, by omega, Or.inr ⟨by omega, h0, by omega, fun z => by have z : o = 31 := z; omega⟩⟩
  refine ⟨fok, ?_⟩
  generalize hS1 : fpR L m S = S1 at *
  generalize hS2 : fpR (L + m.length) m2 S1 = S2 at *
  have e : fpR L (m ++ m2 ++ [(o, 0)]) S = (uf S2.1 (L + (m.length + m2.length)) L, S2.2) := by
    rw [fpR_app, fpR_app, hS1, hS2, List.length_append]
    show fp1 S2 (L + (m.length + m2.length)) o = _
    unfold fp1
    rw [if_neg (by omega), if_neg (by omega), if_neg (by omega)]
    rw [show L + (m.length + m2.length) - 1 = L + m.length + m2.length - 1 by omega, b1, b2 _ (by omega), a1]
  rw [e]
  refine ⟨?_, fun j hj => ?_, fun j hj => ?_, fun Md La hM W => ?_⟩
  · show uf _ _ _ _ = _
    rw [show L + (m.length + m2.length + 1) - 1 = L + (m.length + m2.length) by omega, uf_s]
  · show uf _ _ _ _ = _
    rw [uf_o _ _ (by omega), b2 j (by omega)]; exact a2 j hj
  · show S2.2.1 j = _ ∧ S2.2.2 j = _
    rw [(b3 j (by omega)).1, (b3 j (by omega)).2]; exact a3 j (by omega)
  · have hM : ∀ j, L < j → j < L + (m.length + m2.length + 1) → Md j = S2.2.1 j ∧ La j = S2.2.2 j := hM
    obtain ⟨em, ok⟩ := a4 Md La (fun j z1 z2 => by rw [← (b3 j (by omega)).1, ← (b3 j (by omega)).2]; exact hM j z1 (by omega)) W
    have mz := hM (L + m.length) (by omega) (by omega)
    have m0 := b3 (L + m.length) (Or.inl (Nat.le_refl _))
    have m1 := a3 (L + m.length) (Or.inr (Nat.le_refl _))
    have s0 := hS (L + m.length) (by omega) (by omega)
    have zA : Md (L + m.length) = 0 := by rw [mz.1, m0.1, m1.1]; exact s0.1
    have zB : La (L + m.length) = 0 := by rw [mz.2, m0.2, m1.2]; exact s0.2
    obtain ⟨em2, ok2⟩ := b4 Md La (fun j z1 z2 => hM j (by omega) (by omega)) (zR gk gn Md La L m W)
    have em12 := em.app em2
    have mz' := hM (L + (m.length + m2.length)) (by omega) (by omega)
    have m0' := b3 (L + (m.length + m2.length)) (Or.inr (by omega))
    have m1' := a3 (L + (m.length + m2.length)) (Or.inr (by omega))
    have s0' := hS (L + (m.length + m2.length)) (by omega) (by omega)
    have zA' : Md (L + (m.length + m2.length)) = 0 := by rw [mz'.1, m0'.1, m1'.1]; exact s0'.1
    have zB' : La (L + (m.length + m2.length)) = 0 := by rw [mz'.2, m0'.2, m1'.2]; exact s0'.2
    have okA : zOK gk gn Md La L (m ++ m2 ++ [(o, 0)]) W := by
      refine zOK_app _ _ _ _ _ _ _ (by simp [n1]) (zOK_app _ _ _ _ _ _ _ n1 ok (wrOK_z _ _ _ _ _ _ n2 (Or.inl zB) ?_)) ⟨Or.inl ?_, Or.inl (by show o ≠ 31; omega), trivial⟩
      · rw [mk_0 zA zB]; exact ok2
      · rw [List.length_append]; exact zB'
    refine ⟨?_, okA⟩
    rw [zR_app _ _ _ _ _ _ _ (by simp [n1]), zR_app _ _ _ _ _ _ _ n1, wr_z _ _ _ _ _ _ n2]
    rw [mk_0 zA zB]
    rw [List.length_append]
    refine em12.app ?_
    show EmS gk gn (L + (m.length + m2.length)) 1 [(bo o, 0)] _ (in1 gk gn (mk1 Md La _ (L + (m.length + m2.length))) (L + (m.length + m2.length)) (o, 0))
    rw [mk_0 zA' zB']
    refine EmS.one (by show o ≠ 31; omega) ?_ (fun j => ?_)
    · unfold ik xk
      rcases hob with z | z | z | z | z | z <;> rw [z] <;> rfl
    · unfold io xo abn
      rcases hob with z | z | z | z | z | z <;> rw [z] <;> rfl
end PG
