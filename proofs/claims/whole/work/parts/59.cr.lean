/-! ===== what an expression is: the model's code, the class's code ===== -/
def bo (x : Nat) : Nat := if x = 13 then 7 else if x = 14 then 8 else if x = 15 then 9 else if x = 16 then 10 else if x = 17 then 11 else 12
def mops : List Nat := [13, 14, 15, 16, 17, 4]
/-- a slot that a rule may name -/
def slOK (K : PC) (s : Nat) : Prop := s / 8 ≤ K.2.1 ∧ s % 8 < K.1.2.2.1 (K.2.2.1 (s / 8)) ∧ K.1.2.2.2.1 (K.2.2.1 (s / 8)) (s % 8) = decide (s / 8 = 0)
def CRc (ok : Nat → Prop) (lt : Bool) (P : Nat → List (Nat × Nat) → List (Nat × Nat) → Prop) : Prop :=
  (∀ v, v < 1000000 → P 1 [(40, v)] [(0, v)]) ∧ (lt = true → P 1 [(41, 0)] [(1, 0)]) ∧ (∀ s, ok s → P 1 [(50, s)] [(2, s)]) ∧ (∀ h m c, P h m c → P h (m ++ [(30, 0)]) (c ++ [(6, 0)])) ∧ (∀ o, o ∈ mops → ∀ h m c m2 c2, P (h + 1) m c → P h m2 c2 → P (h + 1) (m ++ m2 ++ [(o, 0)]) (c ++ c2 ++ [(bo o, 0)])) ∧ (∀ h m1 c1 m2 c2 m3 c3, P (h + 2) m1 c1 → P (h + 1) m2 c2 → P h m3 c3 → P (h + 2) (m1 ++ m2 ++ m3 ++ [(31, 0)]) (c1 ++ [(13, c2.length + 2)] ++ c2 ++ [(14, c3.length + 1)] ++ c3)) ∧ (∀ h m c, P h m c → P (h + 1) m c)
def CR (ok : Nat → Prop) (lt : Bool) (h : Nat) (m c : List (Nat × Nat)) : Prop := ∀ P, CRc ok lt P → P h m c
theorem CR_c (ok : Nat → Prop) (lt : Bool) : CRc ok lt (CR ok lt) := by
  refine ⟨fun v hv P hP => hP.1 v hv, fun h P hP => hP.2.1 h, fun s h P hP => hP.2.2.1 s h, fun h m c z P hP => hP.2.2.2.1 h m c (z P hP), fun o ho h m c m2 c2 z y P hP => hP.2.2.2.2.1 o ho h m c m2 c2 (z P hP) (y P hP), fun h m1 c1 m2 c2 m3 c3 x y z P hP => hP.2.2.2.2.2.1 h m1 c1 m2 c2 m3 c3 (x P hP) (y P hP) (z P hP), fun h m c z P hP => hP.2.2.2.2.2.2 h m c (z P hP)⟩
theorem CR.up {ok : Nat → Prop} {lt : Bool} {h : Nat} {m c : List (Nat × Nat)} (z : CR ok lt h m c) : ∀ {k : Nat}, h ≤ k → CR ok lt k m c := by
  intro k hk
  obtain ⟨j, rfl⟩ : ∃ j, k = h + j := ⟨k - h, by omega⟩
  clear hk
  induction j with
  | zero => exact z
  | succ j ih => exact (CR_c ok lt).2.2.2.2.2.2 _ _ _ ih
theorem CR.bin {ok : Nat → Prop} {lt : Bool} {h : Nat} {R r2 : XR} {o : Nat} (ho : o ∈ mops) (h1 : CR ok lt (h + 1) R.2.2.1 R.2.2.2) (hr : r2.1 = true) (h2 : CR ok lt h r2.2.2.1 r2.2.2.2) : CR ok lt (h + 1) (xBin o (bo o) R r2).2.2.1 (xBin o (bo o) R r2).2.2.2 := by
  unfold xBin
  rw [if_pos hr]
  exact (CR_c ok lt).2.2.2.2.1 o ho h _ _ _ _ h1 h2
theorem CR_lp {ok : Nat → Prop} {lt : Bool} {t : Nat → Nat} {n : Nat} {F : Nat → Nat → Nat → XR} {nest ix a b m1 m2 h : Nat} (hm1 : m1 ∈ mops) (hm2 : m2 ∈ mops) (hF : ∀ q, (F ix nest q).1 = true → CR ok lt h (F ix nest q).2.2.1 (F ix nest q).2.2.2) : ∀ f (r : XR), r.1 = true → CR ok lt (h + 1) r.2.2.1 r.2.2.2 → (xLp t n F nest ix a b m1 m2 (bo m1) (bo m2) f r).1 = true → CR ok lt (h + 1) (xLp t n F nest ix a b m1 m2 (bo m1) (bo m2) f r).2.2.1 (xLp t n F nest ix a b m1 m2 (bo m1) (bo m2) f r).2.2.2
  | 0, r, _, hr, _ => hr
  | f + 1, r, hr1, hr, hs => by
    rw [xLp] at hs ⊢
    by_cases hk : tkK t n r.2.1 = a ∨ tkK t n r.2.1 = b
    · rw [if_pos hk] at hs ⊢
      by_cases hf : (F ix nest (nx t n r.2.1)).1 = true
      · rw [if_pos hf] at hs ⊢
        have e : (if tkK t n r.2.1 = a then bo m1 else bo m2) = bo (if tkK t n r.2.1 = a then m1 else m2) := by split <;> rfl
        have hm : (if tkK t n r.2.1 = a then m1 else m2) ∈ mops := by split <;> assumption
        rw [e] at hs ⊢
        refine CR_lp hm1 hm2 hF f _ ?_ (CR.bin hm hr hf (hF _ hf)) hs
        unfold xBin; rw [if_pos hf]
      · rw [if_neg hf] at hs
        exact absurd hs Bool.false_ne_true
    · rw [if_neg hk]; exact hr
def hB (ix nest : Nat) : Nat := 3 * (11 - nest) + (if ix = 0 ∨ ix = 1 ∨ ix = 6 then 1 else 0) - (if ix = 3 then 1 else if ix = 4 ∨ ix = 5 then 2 else 0)
theorem pX_CR (t : Nat → Nat) (n : Nat) (K : PC) (hV : GV K.1) (hO : ∀ o, o ≤ K.2.1 → K.2.2.1 o < K.1.1) : ∀ d ix nest q, nest ≤ 10 → (pX t n K d ix nest q).1 = true → CR (slOK K) K.2.2.2.1 (hB ix nest) (pX t n K d ix nest q).2.2.1 (pX t n K d ix nest q).2.2.2
  | 0, _, _, q, _, h => by rw [pX] at h; exact absurd h Bool.false_ne_true
  | d + 1, 0, nest, q, hn, h => by
    have ih := pX_CR t n K hV hO d
    rw [pX] at h ⊢
    unfold x0 at h ⊢
    by_cases k7 : tkK t n q = 7
    · rw [if_pos k7] at h ⊢
      exact ih 1 nest q hn h
    · rw [if_neg k7] at h ⊢
      by_cases h2 : (pX t n K d 2 nest q).1 = true
      · rw [if_pos h2] at h ⊢
        have i2 := ih 2 nest q hn h2
        by_cases kc : tkK t n (pX t n K d 2 nest q).2.1 = 60 ∨ tkK t n (pX t n K d 2 nest q).2.1 = 61
        · rw [if_pos kc] at h ⊢
          have hr : (pX t n K d 2 nest (nx t n (pX t n K d 2 nest q).2.1)).1 = true := by
            unfold xBin at h
            by_cases z : (pX t n K d 2 nest (nx t n (pX t n K d 2 nest q).2.1)).1 = true
            · exact z
            · rw [if_neg z] at h; exact absurd h Bool.false_ne_true
          have i3 := ih 2 nest _ hn hr
          have e : (if tkK t n (pX t n K d 2 nest q).2.1 = 60 then 11 else 12) = bo (if tkK t n (pX t n K d 2 nest q).2.1 = 60 then 17 else 4) := by split <;> rfl
          have hm : (if tkK t n (pX t n K d 2 nest q).2.1 = 60 then 17 else 4) ∈ mops := by split <;> decide
          rw [e]
          exact CR.bin hm (i2.up (by unfold hB; simp)) hr i3
        · rw [if_neg kc] at h ⊢
          exact i2.up (by unfold hB; simp)
      · rw [if_neg h2] at h
        exact absurd h Bool.false_ne_true
  | d + 1, 1, nest, q, hn, h => by
    have ih := pX_CR t n K hV hO d
    rw [pX] at h ⊢
    unfold x1 at h ⊢
    by_cases h10 : nest < 10
    · rw [if_pos h10] at h ⊢
      unfold x1b at h ⊢
      by_cases a1 : (pX t n K d 0 (nest + 1) (nx t n q)).1 = true ∧ tkK t n (pX t n K d 0 (nest + 1) (nx t n q)).2.1 = 8
      · rw [if_pos a1] at h ⊢
        have i1 := ih 0 (nest + 1) (nx t n q) (by omega) a1.1
        generalize pX t n K d 0 (nest + 1) (nx t n q) = r1 at h a1 i1 ⊢
        unfold x1c at h ⊢
        by_cases a2 : (pX t n K d 0 (nest + 1) (nx t n r1.2.1)).1 = true ∧ tkK t n (pX t n K d 0 (nest + 1) (nx t n r1.2.1)).2.1 = 9
        · rw [if_pos a2] at h ⊢
          have i2 := ih 0 (nest + 1) (nx t n r1.2.1) (by omega) a2.1
          generalize pX t n K d 0 (nest + 1) (nx t n r1.2.1) = r2 at h a2 i2 ⊢
          unfold x1d at h ⊢
          by_cases a3 : (pX t n K d 0 (nest + 1) (nx t n r2.2.1)).1 = true
          · rw [if_pos a3] at h ⊢
            have i3 := ih 0 (nest + 1) (nx t n r2.2.1) (by omega) a3
            have e : hB 1 nest = hB 0 (nest + 1) + 2 + 1 := by unfold hB; simp; omega
            rw [e]
            exact ((CR_c _ _).2.2.2.2.2.1 _ _ _ _ _ _ _ (i1.up (by omega)) (i2.up (by omega)) i3).up (by omega)
          · rw [if_neg a3] at h; exact absurd h Bool.false_ne_true
        · rw [if_neg a2] at h; exact absurd h Bool.false_ne_true
      · rw [if_neg a1] at h; exact absurd h Bool.false_ne_true
    · rw [if_neg h10] at h; exact absurd h Bool.false_ne_true
  | d + 1, 2, nest, q, hn, h => by
    have ih := pX_CR t n K hV hO d
    rw [pX] at h ⊢
    unfold x2 at h ⊢
    by_cases a1 : (pX t n K d 3 nest q).1 = true
    · rw [if_pos a1] at h ⊢
      have e : hB 2 nest = hB 3 nest + 1 := by unfold hB; simp; omega
      rw [e]
      exact CR_lp (m1 := 13) (m2 := 14) (by decide) (by decide) (fun q hq => ih 3 nest q hn hq) _ _ a1 ((ih 3 nest q hn a1).up (by omega)) h
    · rw [if_neg a1] at h; exact absurd h Bool.false_ne_true
  | d + 1, 3, nest, q, hn, h => by
    have ih := pX_CR t n K hV hO d
    rw [pX] at h ⊢
    unfold x3 at h ⊢
    by_cases a1 : (pX t n K d 4 nest q).1 = true
    · rw [if_pos a1] at h ⊢
      have e : hB 3 nest = hB 4 nest + 1 := by unfold hB; simp; omega
      rw [e]
      exact CR_lp (m1 := 15) (m2 := 16) (by decide) (by decide) (fun q hq => ih 4 nest q hn hq) _ _ a1 ((ih 4 nest q hn a1).up (by omega)) h
    · rw [if_neg a1] at h; exact absurd h Bool.false_ne_true
  | d + 1, 4, nest, q, hn, h => by
    have ih := pX_CR t n K hV hO d
    have h1 : 1 ≤ hB 4 nest := by unfold hB; simp; omega
    rw [pX] at h ⊢
    unfold x4 at h ⊢
    by_cases k3 : tkK t n q = 3
    · rw [if_pos k3] at h ⊢
      by_cases k46 : tkK t n (nx t n q) = 46
      · rw [if_pos k46] at h ⊢
        by_cases hp : (pSl t n K false q).1 = true
        · rw [if_pos hp]
          obtain ⟨p1, p2, p3, p4, p5, p6, p7⟩ := pSl_ok hp
          have ha8 : slA t n K q < 8 := by have := (hV.2.2 _ (hO _ p2)).2.1; omega
          refine ((CR_c _ _).2.2.1 _ ?_).up h1
          rw [p7]
          show slOK K (8 * nv t n q + slA t n K q)
          have e1 : (8 * nv t n q + slA t n K q) / 8 = nv t n q := by omega
          have e2 : (8 * nv t n q + slA t n K q) % 8 = slA t n K q := by omega
          unfold slOK
          rw [e1, e2]
          refine ⟨p2, p6, ?_⟩
          simp only [slC, Bool.and_eq_true] at p4
          have := eq_of_beq p4.2.2.1
          rw [this]
          by_cases z : nv t n q = 0
          · rw [z]; decide
          · rw [decide_eq_true (by omega), decide_eq_false z]; decide
        · rw [if_neg hp] at h; exact absurd h Bool.false_ne_true
      · rw [if_neg k46]
        exact ((CR_c _ _).1 _ (num_v k3).2.1).up h1
    · rw [if_neg k3] at h ⊢
      by_cases k35 : tkK t n q = 35
      · rw [if_pos k35] at h ⊢
        by_cases hl : K.2.2.2.1 = true
        · rw [if_pos hl]
          exact ((CR_c _ _).2.1 hl).up h1
        · rw [if_neg hl] at h; exact absurd h Bool.false_ne_true
      · rw [if_neg k35] at h ⊢
        by_cases k40 : tkK t n q = 40
        · rw [if_pos k40] at h ⊢
          by_cases h10 : nest < 10
          · rw [if_pos h10] at h ⊢
            exact (ih 6 (nest + 1) q (by omega) h).up (by unfold hB; simp; omega)
          · rw [if_neg h10] at h; exact absurd h Bool.false_ne_true
        · rw [if_neg k40] at h ⊢
          by_cases k45 : tkK t n q = 45
          · rw [if_pos k45] at h ⊢
            by_cases h10 : nest < 10
            · rw [if_pos h10] at h ⊢
              exact (ih 5 (nest + 1) q (by omega) h).up (by unfold hB; simp; omega)
            · rw [if_neg h10] at h; exact absurd h Bool.false_ne_true
          · rw [if_neg k45] at h; exact absurd h Bool.false_ne_true
  | d + 1, 5, nest, q, hn, h => by
    have ih := pX_CR t n K hV hO d
    rw [pX] at h ⊢
    unfold x5 at h ⊢
    by_cases a1 : (pX t n K d 4 nest (nx t n q)).1 = true
    · rw [if_pos a1]
      exact (CR_c _ _).2.2.2.1 _ _ _ (ih 4 nest (nx t n q) hn a1)
    · rw [if_neg a1] at h; exact absurd h Bool.false_ne_true
  | d + 1, 6, nest, q, hn, h => by
    have ih := pX_CR t n K hV hO d
    rw [pX] at h ⊢
    unfold x6 at h ⊢
    by_cases a1 : (pX t n K d 0 nest (nx t n q)).1 = true ∧ tkK t n (pX t n K d 0 nest (nx t n q)).2.1 = 41
    · rw [if_pos a1]
      exact ih 0 nest (nx t n q) hn a1.1
    · rw [if_neg a1] at h; exact absurd h Bool.false_ne_true
  | d + 1, ix + 7, nest, q, hn, h => by
    rw [pX] at h
    · exact absurd h Bool.false_ne_true
    all_goals omega
