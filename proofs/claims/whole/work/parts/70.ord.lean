/-! ===== order: sets of bits ===== -/
def btL (x : Int64) (i : Nat) : Bool := x.toBitVec.getLsbD i
theorem bL_ext {x y : Int64} (h : ∀ i, i < 64 → btL x i = btL y i) : x = y := Int64.toBitVec_inj.mp (BitVec.eq_of_getLsbD_eq (fun i hi => h i hi))
theorem bL_or (x y : Int64) (i : Nat) : btL (x ||| y) i = (btL x i || btL y i) := by unfold btL; rw [Int64.toBitVec_or, BitVec.getLsbD_or]
theorem bL_and (x y : Int64) (i : Nat) : btL (x &&& y) i = (btL x i && btL y i) := by unfold btL; rw [Int64.toBitVec_and, BitVec.getLsbD_and]
theorem bL_xor (x y : Int64) (i : Nat) : btL (x ^^^ y) i = (btL x i ^^ btL y i) := by unfold btL; rw [Int64.toBitVec_xor, BitVec.getLsbD_xor]
theorem bL_0 (i : Nat) : btL 0 i = false := BitVec.getLsbD_zero
theorem bL_m1 : ∀ i, i < 64 → btL (-1) i = true := by decide +kernel
theorem bL_1 : ∀ i, i < 64 → btL 1 i = decide (i = 0) := by decide +kernel
theorem bL_255 : ∀ i, i < 64 → btL 255 i = decide (i < 8) := by decide +kernel
theorem s_lL : ∀ n, n < 64 → (((nI n).toInt64 &&& 63).toBitVec.smod 64).toNat = n := by decide +kernel
theorem bL_shl (n : Nat) (hn : n < 64) (x : Int64) {i : Nat} (hi : i < 64) : btL (x <<< ((nI n).toInt64 &&& 63)) i = (decide (n ≤ i) && btL x (i - n)) := by
  unfold btL
  rw [Int64.toBitVec_shiftLeft]
  show (x.toBitVec <<< (((nI n).toInt64 &&& 63).toBitVec.smod 64).toNat).getLsbD i = _
  rw [s_lL n hn, BitVec.getLsbD_shiftLeft]
  rcases Nat.lt_or_ge i n with h | h
  · simp [h, Nat.not_le.mpr h]
  · simp [hi, h, Nat.not_lt.mpr h]
theorem bL_sshr (n : Nat) (hn : n < 64) (x : Int64) {i : Nat} (hi : i < 64) : btL (x >>> ((nI n).toInt64 &&& 63)) i = if n + i < 64 then btL x (n + i) else btL x 63 := by
  unfold btL
  rw [Int64.toBitVec_shiftRight]
  show (x.toBitVec.sshiftRight (((nI n).toInt64 &&& 63).toBitVec.smod 64).toNat).getLsbD i = _
  rw [s_lL n hn, BitVec.getLsbD_sshiftRight, BitVec.msb_eq_getLsbD_last]
  simp [hi]
def B32 (v : Int32) (f : Nat → Bool) : Prop := ∀ i, i < 32 → bt v i = f i
def B64 (v : Int64) (f : Nat → Bool) : Prop := ∀ i, i < 64 → btL v i = (decide (i < 32) && f i)
theorem B32.eq {v w : Int32} {f : Nat → Bool} (h : B32 v f) (k : B32 w f) : v = w := b_ext (fun i hi => (h i hi).trans (k i hi).symm)
theorem B32.cg {v : Int32} {f g : Nat → Bool} (h : B32 v f) (e : ∀ i, i < 32 → f i = g i) : B32 v g := fun i hi => (h i hi).trans (e i hi)
theorem B64.cg {v : Int64} {f g : Nat → Bool} (h : B64 v f) (e : ∀ i, i < 32 → f i = g i) : B64 v g := fun i hi => by
  rw [h i hi]
  by_cases z : i < 32
  · rw [e i z]
  · rw [decide_eq_false z]; rfl
theorem B32.or {v w : Int32} {f g : Nat → Bool} (h : B32 v f) (k : B32 w g) : B32 (v ||| w) (fun i => f i || g i) := fun i hi => by rw [b_or, h i hi, k i hi]
theorem B64.or {v w : Int64} {f g : Nat → Bool} (h : B64 v f) (k : B64 w g) : B64 (v ||| w) (fun i => f i || g i) := fun i hi => by
  rw [bL_or, h i hi, k i hi]
  cases decide (i < 32) <;> rfl
theorem B32.z : B32 0 (fun _ => false) := fun i _ => b_0 i
theorem B64.z : B64 0 (fun _ => false) := fun i _ => by rw [bL_0, Bool.and_false]
theorem B32.bm {f : Nat → Bool} : B32 (bm f 32) f := fun i hi => by rw [bm_bt (by omega) hi, decide_eq_true hi, Bool.true_and]
theorem B32.one {s : Nat} (hs : s < 32) : B32 ((1 : Int32) <<< (nI s &&& 31)) (fun i => decide (i = s)) := fun i hi => by
  dsimp only
  rw [b_shl s hs _ hi, (by decide +kernel : ∀ j, j < 32 → bt 1 j = decide (j = 0)) _ (show i - s < 32 by omega)]
  by_cases e : i = s
  · subst e; simp
  · rw [decide_eq_false e]; simp; omega
theorem B64.one {s : Nat} (hs : s < 32) : B64 ((1 : Int64) <<< ((nI s).toInt64 &&& 63)) (fun i => decide (i = s)) := fun i hi => by
  dsimp only
  rw [bL_shl s (by omega) _ hi, bL_1 _ (show i - s < 64 by omega)]
  by_cases e : i = s
  · subst e; simp [hs]
  · rw [decide_eq_false e]; simp; omega
theorem b_bit (m : Int32) {x : Nat} (hx : x < 32) : ((((m.toUInt32 >>> ((nI x).toUInt32 &&& Int32.toUInt32 31)).toInt32) &&& (1 : Int32)) = 0) ↔ bt m x = false := by
  rw [nf_bit m x hx]
  constructor
  · intro z
    have := congrArg (fun w => bt w x) z
    simp only [b_and, b_0] at this
    rw [b_shl x hx _ hx] at this
    simpa [show bt 1 0 = true from by decide] using this
  · intro z
    apply b_ext
    intro i hi
    rw [b_and, b_0, b_shl x hx _ hi]
    by_cases e : i = x
    · subst e; rw [z]; simp
    · have : bt 1 (i - x) = decide (i - x = 0) := (by decide +kernel : ∀ j, j < 32 → bt 1 j = decide (j = 0)) _ (by omega)
      rw [this]
      have : (decide (x ≤ i) && decide (i - x = 0)) = false := by simp; omega
      rw [this, Bool.and_false]
theorem B32.bit {v : Int32} {f : Nat → Bool} (h : B32 v f) {x : Nat} (hx : x < 32) : ((((v.toUInt32 >>> ((nI x).toUInt32 &&& Int32.toUInt32 31)).toInt32) &&& (1 : Int32)) = 0) ↔ f x = false := by rw [b_bit v hx, h x hx]
theorem B64.bit {v : Int64} {f : Nat → Bool} (h : B64 v f) {y : Nat} (hy : y < 32) : lg_cmp ((v >>> ((nI y).toInt64 &&& 63)) &&& (1 : Int64)) 1 = 0 ↔ f y = true := by
  rw [lgc0]
  constructor
  · intro z
    have h2 := congrArg (fun w => btL w 0) z
    simp only [bL_and] at h2
    rw [bL_sshr y (by omega) _ (by omega), if_pos (by omega), Nat.add_zero, show btL 1 0 = true from by decide, Bool.and_true, h y (by omega), decide_eq_true hy, Bool.true_and] at h2
    exact h2
  · intro z
    apply bL_ext
    intro i hi
    rw [bL_and, bL_sshr y (by omega) _ hi, bL_1 i hi]
    by_cases e : i = 0
    · subst e; rw [if_pos (by omega), Nat.add_zero, h y (by omega), decide_eq_true hy, z]; rfl
    · rw [decide_eq_false e, Bool.and_false]
/-- eight bits moved to their occurrence -/
theorem B32.shl {v : Int32} {f : Nat → Bool} (h : B32 v f) {o : Nat} (ho : o < 4) : B32 (v <<< (nI (8 * o) &&& 31)) (fun i => decide (8 * o ≤ i) && f (i - 8 * o)) := fun i hi => by rw [b_shl (8 * o) (by omega) _ hi, h _ (show i - 8 * o < 32 by omega)]
theorem B64.shl {v : Int64} {f : Nat → Bool} (h : B64 v f) {o : Nat} (ho : o < 4) (h8 : ∀ i, 8 ≤ i → f i = false) : B64 (v <<< ((nI (8 * o)).toInt64 &&& 63)) (fun i => decide (8 * o ≤ i) && f (i - 8 * o)) := fun i hi => by
  dsimp only
  rw [bL_shl (8 * o) (by omega) _ hi, h _ (show i - 8 * o < 64 by omega)]
  by_cases z : i < 32
  · rw [decide_eq_true z, decide_eq_true (show i - 8 * o < 32 by omega), Bool.true_and, Bool.true_and]
  · rw [decide_eq_false z, Bool.false_and]
    by_cases w : 8 * o ≤ i
    · rw [h8 _ (by omega), Bool.and_false, Bool.and_false]
    · rw [decide_eq_false w, Bool.false_and]
theorem B32.shr {v : Int32} {f : Nat → Bool} (h : B32 v f) {o : Nat} (ho : o < 4) : B32 ((v.toUInt32 >>> ((nI (8 * o)).toUInt32 &&& Int32.toUInt32 31)).toInt32 &&& 255) (fun i => decide (i < 8) && f (8 * o + i)) := fun i hi => by
  dsimp only
  rw [b_and, b_255, b_ushr (8 * o) (by omega), Bool.and_comm]
  by_cases z : i < 8
  · rw [decide_eq_true z, Bool.true_and, Bool.true_and, h _ (by omega)]
  · rw [decide_eq_false z, Bool.false_and, Bool.false_and]
theorem B64.shr {v : Int64} {f : Nat → Bool} (h : B64 v f) {o : Nat} (ho : o < 4) : B64 ((v >>> ((nI (8 * o)).toInt64 &&& 63)) &&& 255) (fun i => decide (i < 8) && f (8 * o + i)) := fun i hi => by
  dsimp only
  rw [bL_and, bL_255 i hi, bL_sshr (8 * o) (by omega) _ hi]
  by_cases z : i < 8
  · rw [decide_eq_true z, if_pos (by omega), Bool.and_true, Bool.true_and, h _ (by omega), decide_eq_true (show 8 * o + i < 32 by omega), decide_eq_true (show i < 32 by omega)]
  · rw [decide_eq_false z, Bool.and_false, Bool.false_and, Bool.and_false]
/-- whether one has what the other has not -/
theorem B32.new {v w : Int32} {f g : Nat → Bool} (h : B32 v f) (k : B32 w g) : (v &&& (w ^^^ (-1))) = 0 ↔ ∀ i, i < 32 → f i = true → g i = true := by
  constructor
  · intro z i hi hf
    have := congrArg (fun u => bt u i) z
    simp only [b_and, b_0] at this
    rw [h i hi, b_xor, b_m1 i hi, k i hi, hf] at this
    cases hg : g i
    · rw [hg] at this; exact absurd this (by decide)
    · rfl
  · intro z
    apply b_ext
    intro i hi
    rw [b_and, b_0, h i hi, b_xor, b_m1 i hi, k i hi]
    cases hf : f i
    · rfl
    · rw [z i hi hf]; rfl
theorem B64.new {v w : Int64} {f g : Nat → Bool} (h : B64 v f) (k : B64 w g) : lg_cmp (v &&& (w ^^^ (-1))) 0 = 0 ↔ ∀ i, i < 32 → f i = true → g i = true := by
  rw [lgc0]
  constructor
  · intro z i hi hf
    have := congrArg (fun u => btL u i) z
    simp only [bL_and, bL_0] at this
    rw [h i (by omega), bL_xor, bL_m1 i (by omega), k i (by omega), hf, decide_eq_true hi] at this
    cases hg : g i
    · rw [hg] at this; exact absurd this (by decide)
    · rfl
  · intro z
    apply bL_ext
    intro i hi
    rw [bL_and, bL_0, h i hi, bL_xor, bL_m1 i hi, k i hi]
    by_cases w' : i < 32
    · rw [decide_eq_true w']
      cases hf : f i
      · rfl
      · rw [z i w' hf]; rfl
    · rw [decide_eq_false w']; rfl
/-! ===== order: matrices ===== -/
abbrev MX2 : Type := Nat → Nat → Bool
abbrev MX3 : Type := Nat → Nat → Nat → Bool
/-- what rule x names -/
def nmd (Γ : GRT) (p x y : Nat) : Bool := (Γ.2.2.1 p).2.2.2.2.1 x && ((Γ.2.2.1 p).2.2.2.2.2 x).2.2.2.any (fun z => decide (z.1 = 2 ∧ z.2 = y))
def oAdd (P : PRO) (I : MX3) (r : MX2) : MX2 := fun x y => r x y || (decide (x / 8 = y / 8) && (decide (x / 8 ≤ P.2.1) && I (P.2.2.1 (x / 8)) (x % 8) (y % 8)))
def oW (y : Nat) (r : MX2) : MX2 := fun x z => r x z || (r x y && r y z)
def oCl : Nat → MX2 → MX2
  | 0, r => r
  | k + 1, r => oW k (oCl k r)
def oIc (P : PRO) (r : MX2) (z : Nat) (I : MX3) : MX3 := fun s a b => I s a b || (decide (a < 8 ∧ b < 8) && (List.range (P.2.1 + 1)).any (fun o => decide (8 * o + a < z) && (decide (P.2.2.1 o = s) && r (8 * o + a) (8 * o + b))))
def oCo (P : PRO) (r : MX2) (I : MX3) : MX3 := oIc P r 32 I
def oNw (I J : MX3) : Bool := (List.range 12).any (fun s => (List.range 8).any (fun a => (List.range 8).any (fun b => J s a b && !(I s a b))))
abbrev OST : Type := MX3 × MX3
/-- production p -/
def oSt (Γ : GRT) (p : Nat) (S : OST) : OST := (uf S.1 p (oCl 32 (oAdd (Γ.2.2.1 p) S.2 (S.1 p))), oCo (Γ.2.2.1 p) (oCl 32 (oAdd (Γ.2.2.1 p) S.2 (S.1 p))) S.2)
def oRd (Γ : GRT) : Nat → OST → OST
  | 0, S => S
  | k + 1, S => oSt Γ k (oRd Γ k S)
def oIt (Γ : GRT) : Nat → OST → OST
  | 0, S => S
  | f + 1, S => if oNw S.2 (oRd Γ Γ.2.1 S).2 then oIt Γ f (oRd Γ Γ.2.1 S) else oRd Γ Γ.2.1 S
/-- a slot that there is -/
def vSl (G : SYT) (P : PRO) (x : Nat) : Prop := x / 8 ≤ P.2.1 ∧ x % 8 < G.2.2.1 (P.2.2.1 (x / 8))
def oVR (G : SYT) (P : PRO) (r : MX2) : Prop := ∀ x y, r x y = true → vSl G P x ∧ vSl G P y
def oVI (G : SYT) (I : MX3) : Prop := ∀ s a b, I s a b = true → s < G.1 ∧ a < G.2.2.1 s ∧ b < G.2.2.1 s
theorem oAdd_V {G : SYT} {P : PRO} {I : MX3} {r : MX2} (hr : oVR G P r) (hI : oVI G I) : oVR G P (oAdd P I r) := by
  intro x y h
  unfold oAdd at h
  rw [Bool.or_eq_true] at h
  rcases h with h | h
  · exact hr x y h
  · simp only [Bool.and_eq_true, decide_eq_true_eq] at h
    obtain ⟨h1, h2, h3⟩ := h
    obtain ⟨a, b, c⟩ := hI _ _ _ h3
    refine ⟨⟨h2, b⟩, ⟨by omega, ?_⟩⟩
    rw [← h1]; exact c
theorem oCl_V {G : SYT} {P : PRO} : ∀ k {r : MX2}, oVR G P r → oVR G P (oCl k r)
  | 0, _, h => h
  | k + 1, r, h => by
    have ih := oCl_V k h
    intro x z hx
    rw [oCl] at hx
    unfold oW at hx
    rw [Bool.or_eq_true, Bool.and_eq_true] at hx
    rcases hx with hx | ⟨h1, h2⟩
    · exact ih x z hx
    · exact ⟨(ih _ _ h1).1, (ih _ _ h2).2⟩
theorem oIc_i {P : PRO} {r : MX2} {z : Nat} {I : MX3} {s a b : Nat} : oIc P r z I s a b = true ↔ I s a b = true ∨ (a < 8 ∧ b < 8 ∧ ∃ o, o ≤ P.2.1 ∧ 8 * o + a < z ∧ P.2.2.1 o = s ∧ r (8 * o + a) (8 * o + b) = true) := by
  unfold oIc
  rw [Bool.or_eq_true, Bool.and_eq_true, decide_eq_true_eq, List.any_eq_true]
  constructor
  · rintro (h | ⟨h1, o, h2, h3⟩)
    · exact Or.inl h
    · simp only [Bool.and_eq_true, decide_eq_true_eq] at h3
      exact Or.inr ⟨h1.1, h1.2, o, by have := List.mem_range.mp h2; omega, h3.1, h3.2.1, h3.2.2⟩
  · rintro (h | ⟨h1, h2, o, h3, h4, h5, h6⟩)
    · exact Or.inl h
    · exact Or.inr ⟨⟨h1, h2⟩, o, List.mem_range.mpr (by omega), by simp only [Bool.and_eq_true, decide_eq_true_eq]; exact ⟨h4, h5, h6⟩⟩
theorem oCo_V {G : SYT} {P : PRO} {I : MX3} {r : MX2} {z : Nat} (hO : ∀ o, o ≤ P.2.1 → P.2.2.1 o < G.1) (hr : oVR G P r) (hI : oVI G I) : oVI G (oIc P r z I) := by
  intro s a b h
  rcases oIc_i.mp h with h | ⟨h1, h2, o, h3, h4, h5, h6⟩
  · exact hI s a b h
  · obtain ⟨⟨a1, a2⟩, ⟨b1, b2⟩⟩ := hr _ _ h6
    have e1 : (8 * o + a) / 8 = o := by omega
    have e2 : (8 * o + a) % 8 = a := by omega
    have e3 : (8 * o + b) / 8 = o := by omega
    have e4 : (8 * o + b) % 8 = b := by omega
    rw [e1, e2, h5] at a2
    rw [e3, e4, h5] at b2
    exact ⟨by rw [← h5]; exact hO o h3, a2, b2⟩
theorem oNw_i {I J : MX3} : oNw I J = true ↔ ∃ s a b, s < 12 ∧ a < 8 ∧ b < 8 ∧ J s a b = true ∧ I s a b = false := by
  unfold oNw
  rw [List.any_eq_true]
  constructor
  · rintro ⟨s, hs, h⟩
    rw [List.any_eq_true] at h
    obtain ⟨a, ha, h⟩ := h
    rw [List.any_eq_true] at h
    obtain ⟨b, hb, h⟩ := h
    simp only [Bool.and_eq_true, Bool.not_eq_true'] at h
    exact ⟨s, a, b, List.mem_range.mp hs, List.mem_range.mp ha, List.mem_range.mp hb, h.1, h.2⟩
  · rintro ⟨s, a, b, hs, ha, hb, h1, h2⟩
    refine ⟨s, List.mem_range.mpr hs, ?_⟩
    rw [List.any_eq_true]
    refine ⟨a, List.mem_range.mpr ha, ?_⟩
    rw [List.any_eq_true]
    exact ⟨b, List.mem_range.mpr hb, by rw [h1, h2]; rfl⟩
def oV (Γ : GRT) (S : OST) : Prop := (∀ p, p < Γ.2.1 → oVR Γ.1 (Γ.2.2.1 p) (S.1 p)) ∧ oVI Γ.1 S.2
theorem oSt_V {Γ : GRT} (hV : GRV Γ) {p : Nat} (hp : p < Γ.2.1) {S : OST} (h : oV Γ S) : oV Γ (oSt Γ p S) := by
  have hr : oVR Γ.1 (Γ.2.2.1 p) (oCl 32 (oAdd (Γ.2.2.1 p) S.2 (S.1 p))) := oCl_V 32 (oAdd_V (h.1 p hp) h.2)
  refine ⟨fun p' hp' => ?_, oCo_V (hV.2.2.2 p hp).2.1.2.1 hr h.2⟩
  show oVR Γ.1 (Γ.2.2.1 p') (uf S.1 p (oCl 32 (oAdd (Γ.2.2.1 p) S.2 (S.1 p))) p')
  by_cases e : p' = p
  · rw [e, uf_s]; exact hr
  · rw [uf_o _ _ e]; exact h.1 p' hp'
theorem oRd_V {Γ : GRT} (hV : GRV Γ) : ∀ k {S : OST}, k ≤ Γ.2.1 → oV Γ S → oV Γ (oRd Γ k S)
  | 0, _, _, h => h
  | k + 1, S, hk, h => oSt_V hV (by omega) (oRd_V hV k (by omega) h)
theorem oRd_le {Γ : GRT} {S : OST} : ∀ k s a b, S.2 s a b = true → (oRd Γ k S).2 s a b = true
  | 0, _, _, _, h => h
  | k + 1, s, a, b, h => oIc_i.mpr (Or.inl (oRd_le k s a b h))
theorem cnt_lt {f g : Nat → Bool} (hle : ∀ i, f i = true → g i = true) {j : Nat} (hj : f j = false) (hg : g j = true) : ∀ k, cnt f k ≤ cnt g k ∧ (j < k → cnt f k < cnt g k)
  | 0 => ⟨Nat.le_refl _, fun h => absurd h (by omega)⟩
  | k + 1 => by
    obtain ⟨h1, h2⟩ := cnt_lt hle hj hg k
    rw [cnt, cnt]
    have : (if f k then 1 else 0) ≤ (if g k then 1 else 0) := by
      by_cases z : f k = true
      · rw [if_pos z, if_pos (hle k z)]; exact Nat.le_refl _
      · rw [if_neg z]; exact Nat.zero_le _
    refine ⟨by omega, fun h => ?_⟩
    by_cases e : j = k
    · subst e; rw [hj, hg, if_neg (by decide), if_pos rfl]; omega
    · have := h2 (by omega); omega
/-- how many pairs -/
def oCn (I : MX3) : Nat := cnt (fun z => I (z / 64) (z / 8 % 8) (z % 8)) 768
theorem oCn_le (I : MX3) : oCn I ≤ 768 := cnt_le _ _
theorem oCn_lt {I J : MX3} (hle : ∀ s a b, I s a b = true → J s a b = true) (h : oNw I J = true) : oCn I < oCn J := by
  obtain ⟨s, a, b, hs, ha, hb, h1, h2⟩ := oNw_i.mp h
  have e1 : (64 * s + 8 * a + b) / 64 = s := by omega
  have e2 : (64 * s + 8 * a + b) / 8 % 8 = a := by omega
  have e3 : (64 * s + 8 * a + b) % 8 = b := by omega
  refine (cnt_lt (f := fun z => I (z / 64) (z / 8 % 8) (z % 8)) (g := fun z => J (z / 64) (z / 8 % 8) (z % 8)) (fun i => hle _ _ _) (j := 64 * s + 8 * a + b) ?_ ?_ 768).2 (by omega)
  · show I _ _ _ = false; rw [e1, e2, e3]; exact h2
  · show J _ _ _ = true; rw [e1, e2, e3]; exact h1
