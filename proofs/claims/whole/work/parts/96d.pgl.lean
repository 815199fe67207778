/-! ===== the program: the picture ===== -/
noncomputable def cSt (Γ : GRT) (s k : Nat) : Nat → Nat
  | 0 => 0
  | a + 1 => cSt Γ s k a + (if stv Γ s a = k then 1 else 0)
theorem cSt_0 (Γ : GRT) (s : Nat) : ∀ a, cSt Γ s 0 a = vaA Γ s a
  | 0 => rfl
  | a + 1 => by show cSt Γ s 0 a + _ = vaA Γ s a + _; rw [cSt_0 Γ s a]
theorem cSt_le (Γ : GRT) (s k : Nat) : ∀ a, cSt Γ s k a ≤ a
  | 0 => Nat.le_refl _
  | a + 1 => by
    have := cSt_le Γ s k a
    show cSt Γ s k a + (if stv Γ s a = k then 1 else 0) ≤ a + 1
    split <;> omega
/-- places of the frame ahead of occurrence k -/
noncomputable def frA (Γ : GRT) (p : Nat) : Nat → Nat
  | 0 => 0
  | k + 1 => frA Γ p k + (if k = 0 then 0 else cSt Γ (oSy Γ p k) 1 (Γ.1.2.2.1 (oSy Γ p k)))
noncomputable def gK (Γ : GRT) (p x : Nat) : Nat := if stv Γ (oSy Γ p (x / 8)) (x % 8) = 0 then 3 else if stv Γ (oSy Γ p (x / 8)) (x % 8) = 1 then (if x < 8 then 5 else 4) else 2
noncomputable def gN (Γ : GRT) (p x : Nat) : Nat := if stv Γ (oSy Γ p (x / 8)) (x % 8) = 0 then vaS Γ (oSy Γ p (x / 8)) + vaA Γ (oSy Γ p (x / 8)) (x % 8) else if stv Γ (oSy Γ p (x / 8)) (x % 8) = 1 then frA Γ p (x / 8) + cSt Γ (oSy Γ p (x / 8)) 1 (x % 8) else 10 * (x / 8) + x % 8
def xs (z : Nat × Nat) : Nat := if z.1 = 2 then z.2 else 0
noncomputable def exL (Γ : GRT) (p : Nat) : Nat → List (Nat × Nat) → List (Nat × Nat × Nat)
  | _, [] => []
  | j, z :: r => (xk (gK Γ p) z, xo (gN Γ p) j z, xs z) :: exL Γ p (j + 1) r
theorem exL_len (Γ : GRT) (p : Nat) : ∀ j c, (exL Γ p j c).length = c.length
  | _, [] => rfl
  | j, z :: r => by show (exL Γ p (j + 1) r).length + 1 = _; rw [exL_len Γ p (j + 1) r]; rfl
theorem exL_app (Γ : GRT) (p : Nat) : ∀ a b j, exL Γ p j (a ++ b) = exL Γ p j a ++ exL Γ p (j + a.length) b
  | [], b, j => rfl
  | z :: r, b, j => by
    show _ :: exL Γ p (j + 1) (r ++ b) = _
    rw [exL_app Γ p r b (j + 1), List.length_cons, show j + 1 + r.length = j + (r.length + 1) by omega]; rfl
theorem exL_get (Γ : GRT) (p : Nat) : ∀ c j i, i < c.length → (exL Γ p j c).getD i (0, 0, 0) = (xk (gK Γ p) (c.getD i (0, 0)), xo (gN Γ p) (j + i) (c.getD i (0, 0)), xs (c.getD i (0, 0)))
  | [], _, i, h => absurd h (Nat.not_lt_zero _)
  | z :: r, j, 0, _ => rfl
  | z :: r, j, i + 1, h => by
    have := exL_get Γ p r (j + 1) i (by rw [List.length_cons] at h; omega)
    rw [show j + 1 + i = j + (i + 1) by omega] at this
    exact this
/-- the slot of a rule's entry -/
def dx (e : Nat) : Nat := 8 * (e / 10 - 1) + e % 10
theorem dx_enc {x : Nat} (h : x < 32) : dx (enc x) = x := by unfold dx enc; omega
def rC (Γ : GRT) (p x : Nat) : List (Nat × Nat) := ((Γ.2.2.1 p).2.2.2.2.2 x).2.2.2
/-- an entry's instructions, the first of them at j -/
noncomputable def enL (Γ : GRT) (p j i : Nat) : List (Nat × Nat × Nat) := if (gE (plP Γ p) i).1 < 10 then [(19, (gE (plP Γ p) i).1, 0)] else exL Γ p j (rC Γ p (dx (gE (plP Γ p) i).1)) ++ [(gK Γ p (dx (gE (plP Γ p) i).1) + 13, gN Γ p (dx (gE (plP Γ p) i).1), dx (gE (plP Γ p) i).1)]
/-- how many they are -/
def pgn (Γ : GRT) (p i : Nat) : Nat := if (gE (plP Γ p) i).1 < 10 then 1 else (rC Γ p (dx (gE (plP Γ p) i).1)).length + 1
theorem enL_len (Γ : GRT) (p j i : Nat) : (enL Γ p j i).length = pgn Γ p i := by
  unfold enL pgn
  split
  · rfl
  · rw [List.length_append, exL_len]; rfl
noncomputable def PLe (Γ : GRT) (p : Nat) (A : List (Nat × Nat × Nat)) (i : Nat) : Nat → List (Nat × Nat × Nat)
  | 0 => A
  | n + 1 => PLe Γ p A i n ++ enL Γ p (PLe Γ p A i n).length (i + n)
noncomputable def PLv (Γ : GRT) (p : Nat) (A : List (Nat × Nat × Nat)) : Nat → List (Nat × Nat × Nat)
  | 0 => A
  | v + 1 => PLe Γ p (PLv Γ p A v) (plF Γ p (v + 1)) (plF Γ p (v + 2) - plF Γ p (v + 1)) ++ [(20, 0, 0)]
noncomputable def PLs (Γ : GRT) : Nat → List (Nat × Nat × Nat)
  | 0 => []
  | p + 1 => PLv Γ p (PLs Γ p) (svs Γ (hdS Γ p))
def pgS (Γ : GRT) (p : Nat) : Nat → Nat
  | 0 => 0
  | i + 1 => pgS Γ p i + pgn Γ p i
def pgB (Γ : GRT) : Nat → Nat
  | 0 => 0
  | p + 1 => pgB Γ p + (pgS Γ p (plN Γ p) + svs Γ (hdS Γ p))
theorem LE_len (Γ : GRT) (p : Nat) (A : List (Nat × Nat × Nat)) (i : Nat) : ∀ n, (PLe Γ p A i n).length + pgS Γ p i = A.length + pgS Γ p (i + n)
  | 0 => rfl
  | n + 1 => by
    have := LE_len Γ p A i n
    show (PLe Γ p A i n ++ enL Γ p (PLe Γ p A i n).length (i + n)).length + _ = A.length + (pgS Γ p (i + n) + pgn Γ p (i + n))
    rw [List.length_append, enL_len]; omega
theorem plF_mo {Γ : GRT} {p u : Nat} : plF Γ p (u + 1) ≤ plF Γ p (u + 2) := (plQ_A (Γ := Γ) (p := p) u 1).1
theorem LV_len (Γ : GRT) (p : Nat) (A : List (Nat × Nat × Nat)) : ∀ v, (PLv Γ p A v).length = A.length + (pgS Γ p (plF Γ p (v + 1)) + v)
  | 0 => by show A.length = A.length + (pgS Γ p (plF Γ p 1) + 0); rw [plF_1]; rfl
  | v + 1 => by
    have ih := LV_len Γ p A v
    have e := LE_len Γ p (PLv Γ p A v) (plF Γ p (v + 1)) (plF Γ p (v + 2) - plF Γ p (v + 1))
    have h := plF_mo (Γ := Γ) (p := p) (u := v)
    rw [show plF Γ p (v + 1) + (plF Γ p (v + 2) - plF Γ p (v + 1)) = plF Γ p (v + 2) by omega] at e
    show (PLe Γ p (PLv Γ p A v) (plF Γ p (v + 1)) (plF Γ p (v + 2) - plF Γ p (v + 1)) ++ [(20, 0, 0)]).length = _
    rw [List.length_append, List.length_singleton, show v + 1 + 1 = v + 2 by omega]
    omega
theorem LP_len (Γ : GRT) : ∀ p, (PLs Γ p).length = pgB Γ p
  | 0 => rfl
  | p + 1 => by
    show (PLv Γ p (PLs Γ p) (svs Γ (hdS Γ p))).length = _
    rw [LV_len, LP_len Γ p, plF_N]; rfl
/-! how long it gets -/
def sw (f : Nat → Nat) (b : Nat → Bool) : Nat → Nat
  | 0 => 0
  | k + 1 => sw f b k + (if b k then f k else 0)
theorem sw_mo {f : Nat → Nat} {b b' : Nat → Bool} (h : ∀ i, b i = true → b' i = true) : ∀ k, sw f b k ≤ sw f b' k
  | 0 => Nat.le_refl _
  | k + 1 => by
    have := sw_mo (f := f) h k
    show sw f b k + (if b k then f k else 0) ≤ sw f b' k + (if b' k then f k else 0)
    cases hb : b k
    · rw [if_neg (by decide)]; omega
    · rw [h k hb]; omega
theorem sw_ad {f : Nat → Nat} {b b' : Nat → Bool} (h : ∀ i, b i = true → b' i = true) {x : Nat} (hx : b x = false) (hx' : b' x = true) : ∀ k, x < k → sw f b k + f x ≤ sw f b' k
  | 0, hk => absurd hk (Nat.not_lt_zero _)
  | k + 1, hk => by
    show sw f b k + (if b k then f k else 0) + f x ≤ sw f b' k + (if b' k then f k else 0)
    by_cases e : x = k
    · have := sw_mo (f := f) h k
      rw [← e, hx, hx', if_pos rfl, if_neg (by decide)]
      rw [← e] at this
      omega
    · have := sw_ad (f := f) h hx hx' k (by omega)
      cases hb : b k
      · rw [if_neg (by decide)]; omega
      · rw [h k hb]; omega
theorem sw_w {D : (Nat → Bool) × (Nat → RUL)} : ∀ k, sw (fun x => (D.2 x).2.2.2.length + 1) D.1 k = wP D k
  | 0 => rfl
  | k + 1 => by show sw _ D.1 k + _ = wP D k + _; rw [sw_w k]
section PG
variable {Γ : GRT} {p : Nat}
theorem pgS_le (hV : GRV Γ) (hL : LVF Γ) (hp : p < Γ.2.1) : pgS Γ p (plN Γ p) ≤ wP (Γ.2.2.1 p).2.2.2.2 32 + 15 := by
  have hI : plI Γ p (plP Γ p) := plI_A hL hV hp _
  have key : ∀ k, k ≤ plN Γ p → pgS Γ p k ≤ sw (fun x => (rC Γ p x).length + 1) (fun x => (plP Γ p).ev x && decide ((plP Γ p).ea x < k)) 32 + sw (fun _ => 1) (fun z => decide (1 ≤ z / 8 ∧ z / 8 ≤ 3 ∧ 1 ≤ z % 8 ∧ z % 8 ≤ (plP Γ p).vs (z / 8)) && decide ((plP Γ p).va (z / 8) (z % 8) < k)) 32 := by
    intro k
    induction k with
    | zero => intro _; exact Nat.zero_le _
    | succ k ih =>
      intro hk
      have ih := ih (by omega)
      have m1 := sw_mo (f := fun x => (rC Γ p x).length + 1) (b := fun x => (plP Γ p).ev x && decide ((plP Γ p).ea x < k)) (b' := fun x => (plP Γ p).ev x && decide ((plP Γ p).ea x < k + 1)) (fun i hi => by
        rw [Bool.and_eq_true, decide_eq_true_eq] at hi ⊢
        exact ⟨hi.1, by omega⟩) 32
      have mono2 : ∀ z, (decide (1 ≤ z / 8 ∧ z / 8 ≤ 3 ∧ 1 ≤ z % 8 ∧ z % 8 ≤ (plP Γ p).vs (z / 8)) && decide ((plP Γ p).va (z / 8) (z % 8) < k)) = true → (decide (1 ≤ z / 8 ∧ z / 8 ≤ 3 ∧ 1 ≤ z % 8 ∧ z % 8 ≤ (plP Γ p).vs (z / 8)) && decide ((plP Γ p).va (z / 8) (z % 8) < k + 1)) = true := by
        intro z hz
        rw [Bool.and_eq_true, decide_eq_true_eq, decide_eq_true_eq] at hz ⊢
        exact ⟨hz.1, by omega⟩
      have m2 := sw_mo (f := fun _ => 1) mono2 32
      show pgS Γ p k + pgn Γ p k ≤ _
      rcases en_cs hV hL hp (show k < plN Γ p by omega) with ⟨z, x, x1, x2, x3, x4, x5, x6⟩ | ⟨w0, w1, w2, w3, w4, w5, w6⟩
      · have e : pgn Γ p k = (rC Γ p x).length + 1 := by
          unfold pgn
          have := enc_b x1
          rw [x4, if_neg (by omega), dx_enc x1]
        have a1 := sw_ad (f := fun x => (rC Γ p x).length + 1) (b := fun x => (plP Γ p).ev x && decide ((plP Γ p).ea x < k)) (b' := fun x => (plP Γ p).ev x && decide ((plP Γ p).ea x < k + 1)) (fun i hi => by
          rw [Bool.and_eq_true, decide_eq_true_eq] at hi ⊢
          exact ⟨hi.1, by omega⟩) (x := x) (by show ((plP Γ p).ev x && decide ((plP Γ p).ea x < k)) = false; rw [x3, decide_eq_false (Nat.lt_irrefl _), Bool.and_false]) (by show ((plP Γ p).ev x && decide ((plP Γ p).ea x < k + 1)) = true; rw [x2, x3, decide_eq_true (Nat.lt_succ_self _)]; rfl) 32 x1
        have a1 : sw (fun x => (rC Γ p x).length + 1) (fun x => (plP Γ p).ev x && decide ((plP Γ p).ea x < k)) 32 + ((rC Γ p x).length + 1) ≤ sw (fun x => (rC Γ p x).length + 1) (fun x => (plP Γ p).ev x && decide ((plP Γ p).ea x < k + 1)) 32 := a1
        omega
      · have e : pgn Γ p k = 1 := by unfold pgn; rw [if_pos (by omega)]
        have d1 : (8 * (gE (plP Γ p) k).1 + (gE (plP Γ p) k).2.2) / 8 = (gE (plP Γ p) k).1 := by omega
        have d2 : (8 * (gE (plP Γ p) k).1 + (gE (plP Γ p) k).2.2) % 8 = (gE (plP Γ p) k).2.2 := by omega
        have a2 := sw_ad (f := fun _ => 1) mono2 (x := 8 * (gE (plP Γ p) k).1 + (gE (plP Γ p) k).2.2) (by
          rw [d1, d2, w6, decide_eq_false (Nat.lt_irrefl _), Bool.and_false]) (by
          rw [d1, d2, w6, decide_eq_true (Nat.lt_succ_self _), decide_eq_true ⟨w3, w5, w0, w1⟩]; rfl) 32 (by omega)
        have a2 : sw (fun _ => 1) (fun z => decide (1 ≤ z / 8 ∧ z / 8 ≤ 3 ∧ 1 ≤ z % 8 ∧ z % 8 ≤ (plP Γ p).vs (z / 8)) && decide ((plP Γ p).va (z / 8) (z % 8) < k)) 32 + 1 ≤ sw (fun _ => 1) (fun z => decide (1 ≤ z / 8 ∧ z / 8 ≤ 3 ∧ 1 ≤ z % 8 ∧ z % 8 ≤ (plP Γ p).vs (z / 8)) && decide ((plP Γ p).va (z / 8) (z % 8) < k + 1)) 32 := a2
        omega
  have k0 := key (plN Γ p) (Nat.le_refl _)
  have k1 := sw_mo (f := fun x => (rC Γ p x).length + 1) (b := fun x => (plP Γ p).ev x && decide ((plP Γ p).ea x < plN Γ p)) (b' := (Γ.2.2.1 p).2.2.2.2.1) (fun i hi => by rw [Bool.and_eq_true] at hi; exact hI.1 i hi.1) 32
  have k2 : sw (fun _ => 1) (fun z => decide (1 ≤ z / 8 ∧ z / 8 ≤ 3 ∧ 1 ≤ z % 8 ∧ z % 8 ≤ (plP Γ p).vs (z / 8)) && decide ((plP Γ p).va (z / 8) (z % 8) < plN Γ p)) 32 ≤ sw (fun _ => 1) (fun z => decide (1 ≤ z / 8 ∧ z / 8 ≤ 3 ∧ 1 ≤ z % 8 ∧ z % 8 ≤ 5)) 32 := by
    refine sw_mo (fun z hz => ?_) 32
    rw [Bool.and_eq_true, decide_eq_true_eq] at hz
    rw [decide_eq_true_eq]
    have := (hI.2.1 (z / 8)).1
    omega
  have k3 : sw (fun _ => 1) (fun z => decide (1 ≤ z / 8 ∧ z / 8 ≤ 3 ∧ 1 ≤ z % 8 ∧ z % 8 ≤ 5)) 32 = 15 := by decide
  have k4 := sw_w (D := (Γ.2.2.1 p).2.2.2.2) 32
  have k5 : sw (fun x => (rC Γ p x).length + 1) (Γ.2.2.1 p).2.2.2.2.1 32 = wP (Γ.2.2.1 p).2.2.2.2 32 := k4
  omega
theorem pgB_le (hV : GRV Γ) (hL : LVF Γ) : ∀ p, p ≤ Γ.2.1 → pgB Γ p ≤ wGs Γ p + 20 * p
  | 0, _ => Nat.le_refl _
  | p + 1, h => by
    have ih := pgB_le hV hL p (by omega)
    have a := pgS_le hV hL (p := p) (by omega)
    have hhd : hdS Γ p < Γ.1.1 := (hV.2.2.2 p (by omega)).2.1.2.1 0 (Nat.zero_le _)
    have b := (hL.vis _ hhd).2
    show pgB Γ p + (pgS Γ p (plN Γ p) + svs Γ (hdS Γ p)) ≤ wGs Γ p + wP (Γ.2.2.1 p).2.2.2.2 32 + _
    omega
theorem pgB_3000 (hV : GRV Γ) (hL : LVF Γ) (hw : wGs Γ Γ.2.1 ≤ 2400) : pgB Γ Γ.2.1 ≤ 3000 := by
  have := pgB_le hV hL Γ.2.1 (Nat.le_refl _)
  have := hV.2.1
  omega
end PG
