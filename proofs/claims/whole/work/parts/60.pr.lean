/-! ===== rules and productions: the picture ===== -/
abbrev RUL : Type := Nat × List (Nat × Nat) × Nat × List (Nat × Nat)
/-- a production: name, how many on the right, occurrences, a literal, what is defined, the rules -/
abbrev PRO : Type := List Nat × Nat × (Nat → Nat) × Bool × (Nat → Bool) × (Nat → RUL)
def kOf (G : SYT) (P : PRO) : PC := (G, P.2.1, P.2.2.1, P.2.2.2.1, P.2.2.2.2.1)
def pdf (P : PRO) (s : Nat) : PRO := (P.1, P.2.1, P.2.2.1, P.2.2.2.1, uf P.2.2.2.2.1 s true, P.2.2.2.2.2)
def prl (P : PRO) (s : Nat) (r : RUL) : PRO := (P.1, P.2.1, P.2.2.1, P.2.2.2.1, P.2.2.2.2.1, uf P.2.2.2.2.2 s r)
def pao (P : PRO) (s : Nat) : PRO := (P.1, P.2.1 + 1, uf P.2.2.1 (P.2.1 + 1) s, P.2.2.2.1, P.2.2.2.2.1, P.2.2.2.2.2)
def pho (P : PRO) (s : Nat) : PRO := (P.1, P.2.1, uf P.2.2.1 0 s, P.2.2.2.1, P.2.2.2.2.1, P.2.2.2.2.2)
def plt (P : PRO) (b : Bool) : PRO := (P.1, P.2.1, P.2.2.1, b, P.2.2.2.2.1, P.2.2.2.2.2)
def pnew (l : List Nat) : PRO := (l, 0, fun _ => 0, false, fun _ => false, fun _ => (0, [], 0, []))
abbrev RRs : Type := Bool × Nat × PRO × Nat × Nat
def rF (q : Nat) (P : PRO) (lm lc : Nat) : RRs := (false, q, P, lm, lc)
def pRu2 (t : Nat → Nat) (n : Nat) (P : PRO) (lm lc s : Nat) (r : XR) : RRs := if r.1 = true ∧ tkK t n r.2.1 = 59 then (true, nx t n r.2.1, prl (pdf P s) s (lm, r.2.2.1, lc, r.2.2.2), lm + r.2.2.1.length, lc + r.2.2.2.length) else rF r.2.1 P lm lc
def pRu1 (t : Nat → Nat) (n : Nat) (G : SYT) (P : PRO) (lm lc : Nat) (z : Bool × Nat × Nat) : RRs := if z.1 = true ∧ tkK t n z.2.1 = 61 then pRu2 t n P lm lc z.2.2 (pX t n (kOf G (pdf P z.2.2)) 60 0 0 (nx t n z.2.1)) else rF z.2.1 P lm lc
/-- a rule from q on -/
def pRu (t : Nat → Nat) (n : Nat) (G : SYT) (P : PRO) (lm lc q : Nat) : RRs := pRu1 t n G P lm lc (pSl t n (kOf G P) true q)
def pRs (t : Nat → Nat) (n : Nat) (G : SYT) : Nat → Nat → PRO → Nat → Nat → RRs
  | 0, q, P, lm, lc => (true, q, P, lm, lc)
  | f + 1, q, P, lm, lc => if tkK t n q = 3 then (if (pRu t n G P lm lc q).1 then pRs t n G f (pRu t n G P lm lc q).2.1 (pRu t n G P lm lc q).2.2.1 (pRu t n G P lm lc q).2.2.2.1 (pRu t n G P lm lc q).2.2.2.2 else rF (pRu t n G P lm lc q).2.1 P lm lc) else (true, q, P, lm, lc)
/-- a slot that must have a rule -/
def dfn (G : SYT) (P : PRO) (x : Nat) : Bool := decide (x / 8 ≤ P.2.1) && (decide (x % 8 < G.2.2.1 (P.2.2.1 (x / 8))) && (G.2.2.2.1 (P.2.2.1 (x / 8)) (x % 8) == decide (0 < x / 8)))
def whl (G : SYT) (P : PRO) : Bool := (List.range 32).all (fun x => !(dfn G P x) || P.2.2.2.2.1 x)
def pP6 (t : Nat → Nat) (n : Nat) (G : SYT) (u : RRs) : RRs := if u.1 = true ∧ (whl G u.2.2.1 = true ∧ tkK t n u.2.1 = 125) then (true, nx t n u.2.1, u.2.2) else rF u.2.1 u.2.2.1 u.2.2.2.1 u.2.2.2.2
def pP5 (t : Nat → Nat) (n : Nat) (G : SYT) (q : Nat) (P : PRO) (lm lc : Nat) : RRs := if tkK t n q = 123 then pP6 t n G (pRs t n G 33 (nx t n q) P lm lc) else rF q P lm lc
def pOcs (t : Nat → Nat) (n : Nat) (G : SYT) : Nat → Nat → PRO → Bool × Nat × PRO
  | 0, q, P => (true, q, P)
  | f + 1, q, P => if tkK t n q = 2 then (if fi G.2.1 G.1 (nml t n q) < G.1 then pOcs t n G f (nx t n q) (pao P (fi G.2.1 G.1 (nml t n q))) else (false, q, P)) else (true, q, P)
def pP4 (t : Nat → Nat) (n : Nat) (G : SYT) (lm lc : Nat) (u : Bool × Nat × PRO) : RRs := if u.1 = true then pP5 t n G u.2.1 u.2.2 lm lc else rF u.2.1 u.2.2 lm lc
def pP3 (t : Nat → Nat) (n : Nat) (G : SYT) (q : Nat) (P : PRO) (lm lc : Nat) : RRs := if tkK t n q = 35 then pP4 t n G lm lc (pOcs t n G 3 (nx t n q) (plt P true)) else pP4 t n G lm lc (pOcs t n G 3 q P)
def pP2 (t : Nat → Nat) (n : Nat) (G : SYT) (q : Nat) (P : PRO) (lm lc : Nat) : RRs := if tkK t n q = 61 then pP3 t n G (nx t n q) P lm lc else rF q P lm lc
def pP1 (t : Nat → Nat) (n : Nat) (G : SYT) (q : Nat) (P : PRO) (lm lc : Nat) : RRs := if tkK t n q = 2 ∧ fi G.2.1 G.1 (nml t n q) < G.1 then pP2 t n G (nx t n q) (pho P (fi G.2.1 G.1 (nml t n q))) lm lc else rF q P lm lc
def pP0 (t : Nat → Nat) (n : Nat) (G : SYT) (q : Nat) (P : PRO) (lm lc : Nat) : RRs := if tkK t n q = 58 then pP1 t n G (nx t n q) P lm lc else rF q P lm lc
/-- all that a text says: symbols, productions, how much code the model and the class have -/
abbrev GRT : Type := SYT × Nat × (Nat → PRO) × Nat × Nat
def gP (Γ : GRT) (u : RRs) : GRT := (Γ.1, Γ.2.1 + 1, uf Γ.2.2.1 Γ.2.1 u.2.2.1, u.2.2.2.1, u.2.2.2.2)
def pPr (t : Nat → Nat) (n : Nat) (Γ : GRT) (q : Nat) : RRs := if tkK t n q = 2 ∧ fi (fun i => (Γ.2.2.1 i).1) Γ.2.1 (nml t n q) = Γ.2.1 then pP0 t n Γ.1 (nx t n q) (pnew (nml t n q)) Γ.2.2.2.1 Γ.2.2.2.2 else rF q (pnew []) Γ.2.2.2.1 Γ.2.2.2.2
/-- what holds of a production as far as it is read -/
def PV (G : SYT) (P : PRO) (lm lc : Nat) : Prop := P.2.1 ≤ 3 ∧ (∀ o, o ≤ P.2.1 → P.2.2.1 o < G.1) ∧ ∀ x, P.2.2.2.2.1 x = true → x < 32 ∧ dfn G P x = true ∧ (P.2.2.2.2.2 x).1 + (P.2.2.2.2.2 x).2.1.length ≤ lm ∧ (P.2.2.2.2.2 x).2.2.1 + (P.2.2.2.2.2 x).2.2.2.length ≤ lc ∧ CR (slOK (kOf G P)) P.2.2.2.1 34 (P.2.2.2.2.2 x).2.1 (P.2.2.2.2.2 x).2.2.2
theorem pSl_t {t : Nat → Nat} {n q : Nat} {G : SYT} {P : PRO} (hV : GV G) (hO : P.2.1 ≤ 3 ∧ ∀ o, o ≤ P.2.1 → P.2.2.1 o < G.1) (h : (pSl t n (kOf G P) true q).1 = true) : (pSl t n (kOf G P) true q).2.2 < 32 ∧ dfn G P (pSl t n (kOf G P) true q).2.2 = true ∧ P.2.2.2.2.1 (pSl t n (kOf G P) true q).2.2 = false := by
  obtain ⟨p1, p2, p3, p4, p5, p6, p7⟩ := pSl_ok h
  have p2' : nv t n q ≤ P.2.1 := p2
  have ha8 : slA t n (kOf G P) q < 8 := by have := (hV.2.2 _ (hO.2 _ p2)).2.1; have p6' : slA t n (kOf G P) q < G.2.2.1 (P.2.2.1 (nv t n q)) := p6; omega
  rw [p7]
  show 8 * nv t n q + slA t n (kOf G P) q < 32 ∧ dfn G P (8 * nv t n q + slA t n (kOf G P) q) = true ∧ P.2.2.2.2.1 (8 * nv t n q + slA t n (kOf G P) q) = false
  have e1 : (8 * nv t n q + slA t n (kOf G P) q) / 8 = nv t n q := by omega
  have e2 : (8 * nv t n q + slA t n (kOf G P) q) % 8 = slA t n (kOf G P) q := by omega
  simp only [slC, Bool.and_eq_true, Bool.true_and, Bool.not_eq_true'] at p4
  refine ⟨by have := hO.1; omega, ?_, p4.2.2.2⟩
  unfold dfn
  rw [e1, e2, decide_eq_true p2', Bool.true_and, Bool.and_eq_true]
  refine ⟨decide_eq_true p6, ?_⟩
  have := eq_of_beq p4.2.2.1
  have this : G.2.2.2.1 (P.2.2.1 (nv t n q)) (slA t n (kOf G P) q) = (true == decide (0 < nv t n q)) := this
  rw [this]
  cases decide (0 < nv t n q) <;> rfl
theorem PV_rule {G : SYT} {P : PRO} {lm lc s h : Nat} {m c : List (Nat × Nat)} (hP : PV G P lm lc) (hs : s < 32) (hd : dfn G P s = true) (hh : h ≤ 34) (hC : CR (slOK (kOf G (pdf P s))) P.2.2.2.1 h m c) : PV G (prl (pdf P s) s (lm, m, lc, c)) (lm + m.length) (lc + c.length) := by
  refine ⟨hP.1, hP.2.1, fun x hx => ?_⟩
  have hx : uf P.2.2.2.2.1 s true x = true := hx
  show x < 32 ∧ dfn G P x = true ∧ (uf P.2.2.2.2.2 s (lm, m, lc, c) x).1 + (uf P.2.2.2.2.2 s (lm, m, lc, c) x).2.1.length ≤ lm + m.length ∧ (uf P.2.2.2.2.2 s (lm, m, lc, c) x).2.2.1 + (uf P.2.2.2.2.2 s (lm, m, lc, c) x).2.2.2.length ≤ lc + c.length ∧ CR (slOK (kOf G P)) P.2.2.2.1 34 (uf P.2.2.2.2.2 s (lm, m, lc, c) x).2.1 (uf P.2.2.2.2.2 s (lm, m, lc, c) x).2.2.2
  by_cases e : x = s
  · subst e
    rw [uf_s]
    exact ⟨hs, hd, Nat.le_refl _, Nat.le_refl _, hC.up hh⟩
  · rw [uf_o _ _ e] at hx ⊢
    obtain ⟨a, b, c1, d, f⟩ := hP.2.2 x hx
    exact ⟨a, b, by omega, by omega, f⟩
/-- how many are defined -/
def cnt (f : Nat → Bool) : Nat → Nat
  | 0 => 0
  | k + 1 => cnt f k + (if f k then 1 else 0)
theorem cnt_le (f : Nat → Bool) : ∀ k, cnt f k ≤ k
  | 0 => Nat.le_refl _
  | k + 1 => by rw [cnt]; have := cnt_le f k; split <;> omega
theorem cnt_uf {f : Nat → Bool} {s : Nat} (hf : f s = false) : ∀ k, cnt (uf f s true) k = cnt f k + (if s < k then 1 else 0)
  | 0 => by rw [if_neg (by omega)]; rfl
  | k + 1 => by
    rw [cnt, cnt, cnt_uf hf k]
    by_cases e : k = s
    · subst e; rw [uf_s, hf, if_pos rfl, if_neg (by omega), if_neg (by decide), if_pos (by omega)]
    · rw [uf_o _ _ e]
      by_cases h : s < k
      · rw [if_pos h, if_pos (show s < k + 1 by omega)]; omega
      · rw [if_neg h, if_neg (show ¬ s < k + 1 by omega)]; omega
