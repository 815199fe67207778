/-! ===== expressions, the model's: an expression's end; the whole ===== -/
section ML
variable {σ0 σ : ab_S} {t : Nat → Nat} {n q L p e : Nat} {fs r : FS} {c : List (Nat × Nat)} {k : Nat} {b b' : Bool} {w : List Nat} {K : PC} {Q : ab_S → Prop} {E : String → ab_S → Prop}
theorem ae_choice (hc : MCtx σ0 t n p K) (hs : slk 0 ((k, b', []) :: r)) (h : AE σ0 t n L p Q E q ((k, b', []) :: r) (c ++ [(31, 0)]) e) : AE σ0 t n L p Q E q ((4, b, []) :: (k, b', []) :: r) c (e + 1) := by
  obtain ⟨f0, m0, h⟩ := h
  refine ⟨f0, m0 + 1, fun f hf m hm σ hX => ?_⟩
  obtain ⟨m', rfl, hm'⟩ := fs_up hm
  obtain ⟨hY, hS, x1, x2, x3⟩ := hX
  have hn := hc.2.2.2.2
  have hq := hS.2.1
  have g1 : fl ((4, b, []) :: (k, b', []) :: r) = fl r := rfl
  have g2 : fl ((k, b', []) :: r) = fl r := rfl
  have l1 : ((4, b, []) :: (k, b', []) :: r : FS).length = r.length + 2 := rfl
  have l2 : ((k, b', []) :: r : FS).length = r.length + 1 := rfl
  rw [g1, l1] at x1 x3
  show wX12_endChoices_l5_b (KAe (QBh p Q E f) E) E (wX12_endChoices_l5 (KAe (QBh p Q E f) E) E m') σ
  unfold wX12_endChoices_l5_b
  obtain ⟨t1, t2, t3, t4, t5, t6, t7⟩ := hY.top (by omega)
  rw [t1, t2, t4]
  refine ⟨t3, no (fun z => z rfl) (fe ?_)⟩
  refine m_emit (x := 31) (v := 0) hY.pop (by omega) (fun σ2 f2 y2 => ?_)
  rw [show σ2.2.1 92 51 = nI (e + 1) from y2.2.2.2.1, nI_pred]
  refine fe ?_
  have S2 : MS σ2 t n q := hS.set45.fm f2 rfl (fun _ => rfl) (fun _ => rfl) rfl rfl rfl rfl
  refine m_settleX (l := 1) (by omega) (w := []) ⟨y2.setd, S2.setd, by rw [g2, l2]; omega, by omega, by rw [g2, l2, List.length_append, List.length_singleton]; omega⟩ hs (fun σ3 X3 => ?_)
  simp only [wdr, wtk, w0, c30, List.append_nil, Nat.sub_zero] at X3
  exact h f hf m' hm' σ3 X3
theorem l5_stop {f m : Nat} (hY : MY σ0 σ L ((k, b, w) :: r) c e) (hr : r.length < 40) (h4 : k ≠ 4) (h : ((¬ (σ.2.1 92 40) = (11 : Int32)) → wX12_behind_j176 (QBh p Q E f) E (nI k) σ) ∧ (¬ (¬ (σ.2.1 92 40) = (11 : Int32)) → ((¬ nI k = (1 : Int32)) → wX12_behind_j176 (QBh p Q E f) E (nI k) σ) ∧ (¬ (¬ nI k = (1 : Int32)) → (∀ σ11 : ab_S, σ11 = ab_I σ 92 45 (nI r.length) → (∀ σ12 : ab_S, σ12 = ab_I σ11 92 51 ((σ11.2.1 92 51) - (1 : Int32)) → wX12_advance (fun σ13 => wX12_settle (4 : Int32) (fun σ14 => QBh p Q E f (3 : Int32) σ14) E σ13) E σ12))))) : wX12_endChoices_l5 (KAe (QBh p Q E f) E) E (m + 1) σ := by
  show wX12_endChoices_l5_b (KAe (QBh p Q E f) E) E (wX12_endChoices_l5 (KAe (QBh p Q E f) E) E m) σ
  unfold wX12_endChoices_l5_b
  obtain ⟨t1, t2, t3, t4, t5, t6, t7⟩ := hY.top hr
  rw [t1, t2, t4]
  refine ⟨t3, yes ?_ ?_⟩
  · show ¬ nI k = nI 4
    rw [nI_eqE (by omega) (by omega)]; exact h4
  · unfold KAe
    rw [t1, t2, t4]
    exact ⟨t3, fe h⟩
theorem ae_paren (hc : MCtx σ0 t n p K) (k41 : tkK t n q = 41) (hs : slk 0 ((k, b', w) :: r)) (h : BH σ0 t n L p Q E (nx t n q) ((k, b', wdr 4 w) :: r) (c ++ w0 (wtk 4 w)) (e - c30 (wtk 4 w))) : AE σ0 t n L p Q E q ((1, b, []) :: (k, b', w) :: r) c (e + 1) := by
  obtain ⟨f0, h⟩ := h
  refine ⟨f0, 1, fun f hf m hm σ hX => ?_⟩
  obtain ⟨m', rfl, hm'⟩ := fs_up (f0 := 0) hm
  obtain ⟨hY, hS, x1, x2, x3⟩ := hX
  have hgt := nx_gt (t := t) (n := n) (q := q) (by omega)
  have g1 : fl ((1, b, []) :: (k, b', w) :: r) = fl ((k, b', w) :: r) := rfl
  have l1 : ((1, b, []) :: (k, b', w) :: r : FS).length = ((k, b', w) :: r : FS).length + 1 := rfl
  rw [g1, l1] at x1 x3
  have l2 : ((k, b', w) :: r : FS).length = r.length + 1 := rfl
  refine l5_stop hY (by omega) (by omega) (no (fun z => z ((hS.sg (w := 41) (by omega) rfl).mpr k41)) (no (fun z => z rfl) (fe ?_)))
  rw [show (ab_I σ 92 45 (nI ((k, b', w) :: r : FS).length)).2.1 92 51 = nI (e + 1) by simp [gI_I]; exact hY.2.2.2.1, nI_pred]
  refine fe (m_next hS.set45.setd (fun σ2 f2 s2 => ?_))
  refine m_settleX (l := 4) (by omega) ⟨hY.pop.setd.adv f2, s2, by omega, by omega, by omega⟩ hs (fun σ3 X3 => QB3 (h f hf σ3 X3))
/-- then, else -/
theorem ae_word (hc : MCtx σ0 t n p K) (hk : (k = 2 ∧ tkK t n q = 8) ∨ (k = 3 ∧ tkK t n q = 9)) (h : PT σ0 t n L p Q E true (nx t n q) ((k + 1, false, []) :: r) c e) : AE σ0 t n L p Q E q ((k, b, []) :: r) c e := by
  obtain ⟨f0, h⟩ := h
  refine ⟨f0, 1, fun f hf m hm σ hX => ?_⟩
  obtain ⟨m', rfl, hm'⟩ := fs_up (f0 := 0) hm
  obtain ⟨hY, hS, x1, x2, x3⟩ := hX
  have hgt := nx_gt (t := t) (n := n) (q := q) (by omega)
  have l2 : ((k, b, []) :: r : FS).length = r.length + 1 := rfl
  have g1 : fl ((k, b, []) :: r) = fl r := rfl
  rw [g1, l2] at x1 x3
  have n41 : ¬ σ.2.1 92 40 = (11 : Int32) := fun z => by have := (hS.sg (w := 41) (by omega) rfl).mp z; omega
  refine l5_stop hY (by omega) (by omega) (yes n41 ?_)
  have go : wX12_behind_j203 (QBh p Q E f) E (nI k) σ := by
    unfold wX12_behind_j203
    obtain ⟨t1, t2, t3, t4, t5, t6, t7⟩ := hY.top (by omega)
    rw [t1, t2, nI_1]
    refine ⟨t3, fe ?_⟩
    rw [show (ab_I σ 124 r.length (nI (k + 1))).2.1 92 45 - 1 = nI r.length by rw [show (ab_I σ 124 r.length (nI (k + 1))).2.1 92 45 = σ.2.1 92 45 by simp [gI_I]]; exact t1, t2, show vp_nar .boolean (0 : Int32) = 0 from by decide]
    refine ⟨t3, fe ?_⟩
    have S2 : MS (ab_I (ab_I σ 124 r.length (nI (k + 1))) 125 r.length 0) t n q := hS.fm (S := fun a i => a == 124 || a == 125) (((FM.rf _ σ).I rfl).I rfl) rfl (fun _ => rfl) (fun _ => rfl) rfl rfl rfl rfl
    refine m_next S2 (fun σ2 f2 s2 => QB2 (h f hf σ2 ⟨(hY.setk (k' := k + 1) (by omega)).adv f2, s2, ?_, x2, ?_⟩))
    · exact x1
    · show _ + _ + (fl r).length + (r.length + 1) ≤ _
      omega
  unfold wX12_behind_j176
  rcases hk with ⟨rfl, k8⟩ | ⟨rfl, k9⟩
  · exact no (fun z => z ((hS.wd (w := 5) (by omega) (by omega)).mpr k8)) (yes rfl go)
  · refine yes (fun z => by have := (hS.wd (w := 5) (by omega) (by omega)).mp z; omega) ?_
    unfold wX12_behind_j189
    exact no (fun z => z ((hS.wd (w := 6) (by omega) (by omega)).mpr k9)) (no (fun z => z rfl) go)
/-- nothing that goes on: the end, or a fault -/
theorem ae_end (hc : MCtx σ0 t n p K) (hk4 : k < 4) (hk1 : ¬ (k = 1 ∧ tkK t n q = 41)) (hk2 : ¬ (k = 2 ∧ tkK t n q = 8)) (hk3 : ¬ (k = 3 ∧ tkK t n q = 9)) (h0 : k = 0 → ∀ σ', MX σ0 σ' t n q L ((k, b, []) :: r) c e → Q σ') (h1 : k ≠ 0 → FQ σ0 L Q q) : AE σ0 t n L p Q E q ((k, b, []) :: r) c e := by
  refine ⟨1, 1, fun f hf m hm σ hX => ?_⟩
  obtain ⟨m', rfl, hm'⟩ := fs_up (f0 := 0) hm
  obtain ⟨f', rfl, hf'⟩ := fs_up (f0 := 0) hf
  have hX0 := hX
  obtain ⟨hY, hS, x1, x2, x3⟩ := hX
  have hn := hc.2.2.2.2
  have hq := hS.2.1
  have l2 : ((k, b, []) :: r : FS).length = r.length + 1 := rfl
  have j235 : wX12_behind_j235 (QBh p Q E (f' + 1)) E (nI k) σ := by
    unfold wX12_behind_j235
    by_cases k0 : k = 0
    · exact yes (by rw [k0]; rfl) (QB0 (e_off (h0 k0 σ hX0)))
    · refine no (by show ¬ nI k = nI 0; rw [nI_eqE (by omega) (by omega)]; exact k0) ?_
      rw [hS.2.2.1]
      exact m_failY (hY.ok hc.1) (QB0 (e_off (h1 k0 (by omega) _ hY.fail.1)))
  have j176 : wX12_behind_j176 (QBh p Q E (f' + 1)) E (nI k) σ := by
    have j189 : wX12_behind_j189 (QBh p Q E (f' + 1)) E (nI k) σ := by
      unfold wX12_behind_j189
      by_cases k9 : tkK t n q = 9
      · refine no (fun z => z ((hS.wd (w := 6) (by omega) (by omega)).mpr k9)) (yes ?_ j235)
        show ¬ nI k = nI 3
        rw [nI_eqE (by omega) (by omega)]; exact fun z => hk3 ⟨z, k9⟩
      · exact yes (fun z => k9 ((hS.wd (w := 6) (by omega) (by omega)).mp z)) j235
    unfold wX12_behind_j176
    by_cases k8 : tkK t n q = 8
    · refine no (fun z => z ((hS.wd (w := 5) (by omega) (by omega)).mpr k8)) (no ?_ j189)
      show ¬ nI k = nI 2
      rw [nI_eqE (by omega) (by omega)]; exact fun z => hk2 ⟨z, k8⟩
    · exact yes (fun z => k8 ((hS.wd (w := 5) (by omega) (by omega)).mp z)) j189
  refine l5_stop hY (by omega) (by omega) ?_
  by_cases k41 : tkK t n q = 41
  · refine no (fun z => z ((hS.sg (w := 41) (by omega) rfl).mpr k41)) (yes ?_ j176)
    show ¬ nI k = nI 1
    rw [nI_eqE (by omega) (by omega)]; exact fun z => hk1 ⟨z, k41⟩
  · exact yes (fun z => k41 ((hS.sg (w := 41) (by omega) rfl).mp z)) j176
end ML
/-! claims: what the model does where pX reads -/
section MC
variable (σ0 : ab_S) (t : Nat → Nat) (n L p : Nat) (K : PC) (Q : ab_S → Prop) (E : String → ab_S → Prop)
def tokE (l q : Nat) : Prop := (l ≤ 3 → tkK t n q ≠ 42 ∧ tkK t n q ≠ 47) ∧ (l ≤ 2 → tkK t n q ≠ 43 ∧ tkK t n q ≠ 45)
def FacC (f : Nat → Nat → XR) (nest : Nat) : Prop := ∀ q b k b' w r c, (b = true → tkK t n q ≠ 7) → slk 0 ((k, b', w) :: r) → ((f nest q).1 = true → BH σ0 t n L p Q E (f nest q).2.1 ((k, b', wdr 4 w) :: r) (c ++ (f nest q).2.2.1 ++ w0 (wtk 4 w)) (nest - c30 (wtk 4 w))) → ((f nest q).1 = false → FQ σ0 L Q (f nest q).2.1) → PT σ0 t n L p Q E b q ((k, b', w) :: r) c nest
def NegC (x : Nat) (f : Nat → Nat → XR) (nest : Nat) : Prop := ∀ q b k b' w r c, tkK t n q = x → slk 0 ((k, b', w) :: r) → ((f (nest + 1) q).1 = true → BH σ0 t n L p Q E (f (nest + 1) q).2.1 ((k, b', wdr 4 w) :: r) (c ++ (f (nest + 1) q).2.2.1 ++ w0 (wtk 4 w)) (nest - c30 (wtk 4 w))) → ((f (nest + 1) q).1 = false → FQ σ0 L Q (f (nest + 1) q).2.1) → PT σ0 t n L p Q E b q ((k, b', w) :: r) c nest
def GenC (l : Nat) (f : Nat → Nat → XR) (nest : Nat) : Prop := ∀ q b k b' w r c, (b = true → tkK t n q ≠ 7) → wdr l w = w → slk (4 - l) ((k, b', w) :: r) → ((f nest q).1 = true → ∀ u c1, (∀ x, x ∈ u → l ≤ wst x ∧ wst x ≤ 3) → u.length ≤ 4 - l → c1 ++ w0 u = c ++ (f nest q).2.2.1 → tokE t n l (f nest q).2.1 → BH σ0 t n L p Q E (f nest q).2.1 ((k, b', u ++ w) :: r) c1 nest) → ((f nest q).1 = false → FQ σ0 L Q (f nest q).2.1) → PT σ0 t n L p Q E b q ((k, b', w) :: r) c nest
def ExpC (f : Nat → Nat → XR) (nest : Nat) : Prop := ∀ q k r c, slk 0 r → ((f nest q).1 = true → ∀ b', AE σ0 t n L p Q E (f nest q).2.1 ((k, b', []) :: r) (c ++ (f nest q).2.2.1) nest) → ((f nest q).1 = false → FQ σ0 L Q (f nest q).2.1) → PT σ0 t n L p Q E true q ((k, false, []) :: r) c nest
def ChC (f : Nat → Nat → XR) (nest : Nat) : Prop := ∀ q k r c, tkK t n q = 7 → slk 0 r → ((f nest q).1 = true → ∀ b', AE σ0 t n L p Q E (f nest q).2.1 ((k, b', []) :: r) (c ++ (f nest q).2.2.1) nest) → ((f nest q).1 = false → FQ σ0 L Q (f nest q).2.1) → PT σ0 t n L p Q E true q ((k, false, []) :: r) c nest
end MC
section MR
variable {σ0 : ab_S} {t : Nat → Nat} {n L p : Nat} {K : PC} {Q : ab_S → Prop} {E : String → ab_S → Prop} {F : Nat → Nat → Nat → XR} {nest : Nat}
theorem g_c30 {l : Nat} : ∀ {u : List Nat}, (∀ x, x ∈ u → l ≤ wst x ∧ wst x ≤ 3) → c30 u = 0
  | [], _ => rfl
  | x :: u, h => by
    have hx := h x (List.mem_cons_self ..)
    have : x ≠ 30 := fun z => by rw [z] at hx; have : wst 30 = 4 := rfl; omega
    rw [c30, if_neg this, g_c30 (fun y hy => h y (List.mem_cons_of_mem _ hy))]
theorem slk_u {s : Nat} {k : Nat} {b : Bool} {u w : List Nat} {r : FS} (h : slk s ((k, b, w) :: r)) (hu : u.length ≤ s) : slk 0 ((k, b, u ++ w) :: r) := by
  unfold slk at *
  have e1 : (fl ((k, b, u ++ w) :: r)).length = u.length + (fl ((k, b, w) :: r)).length := by show (u ++ w ++ fl r).length = u.length + (w ++ fl r).length; simp
  have e2 : c30 (fl ((k, b, u ++ w) :: r)) = c30 u + c30 (fl ((k, b, w) :: r)) := by show c30 (u ++ w ++ fl r) = c30 u + c30 (w ++ fl r); rw [List.append_assoc, c30_app]
  have l1 : ((k, b, u ++ w) :: r : FS).length = ((k, b, w) :: r : FS).length := rfl
  omega
theorem slk_op {s x : Nat} {k : Nat} {b b2 : Bool} {w : List Nat} {r : FS} (h : slk (s + 1) ((k, b, w) :: r)) : slk s ((k, b2, x :: w) :: r) := by
  unfold slk at *
  have e1 : (fl ((k, b2, x :: w) :: r)).length = (fl ((k, b, w) :: r)).length + 1 := rfl
  have e2 : c30 (fl ((k, b2, x :: w) :: r)) = (if x = 30 then 1 else 0) + c30 (fl ((k, b, w) :: r)) := rfl
  have l1 : ((k, b2, x :: w) :: r : FS).length = ((k, b, w) :: r : FS).length := rfl
  omega
theorem slk_30 {k : Nat} {b : Bool} {w : List Nat} {r : FS} (h : slk 0 ((k, b, w) :: r)) : slk 0 ((k, b, 30 :: w) :: r) := by
  unfold slk at *
  have e1 : (fl ((k, b, 30 :: w) :: r)).length = (fl ((k, b, w) :: r)).length + 1 := rfl
  have e2 : c30 (fl ((k, b, 30 :: w) :: r)) = 1 + c30 (fl ((k, b, w) :: r)) := rfl
  have l1 : ((k, b, 30 :: w) :: r : FS).length = ((k, b, w) :: r : FS).length := rfl
  omega
theorem slk_new {k : Nat} {b : Bool} {r : FS} (h : slk 0 r) : slk 3 ((k, b, []) :: r) := by
  unfold slk at *
  have e1 : fl ((k, b, []) :: r) = fl r := rfl
  have l1 : ((k, b, []) :: r : FS).length = r.length + 1 := rfl
  rw [e1, l1]; omega
theorem slk_le {a s : Nat} {fs : FS} (h : slk a fs) (hs : s ≤ a) : slk s fs := by unfold slk at *; omega
/-- a factor, as the loops use it -/
theorem g_fac (h : FacC σ0 t n L p Q E (F 4) nest) : GenC σ0 t n L p Q E 4 (F 4) nest := by
  intro q b k b' w r c hb hw hs h1 h0
  refine h q b k b' w r c hb hs (fun hr => ?_) h0
  have := h1 hr [] (c ++ (F 4 nest q).2.2.1) (fun x hx => absurd hx (by simp)) (by simp) (by simp [w0]) ⟨fun z => by omega, fun z => by omega⟩
  rw [hw]
  have e : wtk 4 w = [] := by
    have := (wtk_app (l := 4) (u := []) (fun x hx => absurd hx (by simp)) hw).1
    rw [List.nil_append] at this; exact this
  rw [e]
  simpa [w0, c30] using this
theorem g_lp (hc : MCtx σ0 t n p K) {l ix a bb m1 m2 c1' c2' : Nat} (hl : (l = 3 ∧ a = 42 ∧ bb = 47 ∧ m1 = 15 ∧ m2 = 16) ∨ (l = 2 ∧ a = 43 ∧ bb = 45 ∧ m1 = 13 ∧ m2 = 14)) (hF : GenC σ0 t n L p Q E (l + 1) (F ix) nest) (hln : ∀ q, XLn q (F ix nest q)) {k : Nat} {b' : Bool} {w : List Nat} {r : FS} {c : List (Nat × Nat)} (hw : wdr l w = w) (hs : slk (4 - l) ((k, b', w) :: r)) : ∀ (m : Nat) (R : XR) (u : List Nat) (c1 : List (Nat × Nat)), n < m + R.2.1 → R.1 = true → (∀ x, x ∈ u → l ≤ wst x ∧ wst x ≤ 3) → u.length ≤ 4 - l → c1 ++ w0 u = c ++ R.2.2.1 → tokE t n (l + 1) R.2.1 → ((xLp t n F nest ix a bb m1 m2 c1' c2' m R).1 = true → ∀ u c1, (∀ x, x ∈ u → l ≤ wst x ∧ wst x ≤ 3) → u.length ≤ 4 - l → c1 ++ w0 u = c ++ (xLp t n F nest ix a bb m1 m2 c1' c2' m R).2.2.1 → tokE t n l (xLp t n F nest ix a bb m1 m2 c1' c2' m R).2.1 → BH σ0 t n L p Q E (xLp t n F nest ix a bb m1 m2 c1' c2' m R).2.1 ((k, b', u ++ w) :: r) c1 nest) → ((xLp t n F nest ix a bb m1 m2 c1' c2' m R).1 = false → FQ σ0 L Q (xLp t n F nest ix a bb m1 m2 c1' c2' m R).2.1) → BH σ0 t n L p Q E R.2.1 ((k, b', u ++ w) :: r) c1 nest := by
  intro m
  induction m with
  | zero =>
    intro R u c1 hm _ _ _ _ _ _ _
    exact ⟨0, fun f _ σ hX => absurd hX.2.1.2.1 (by omega)⟩
  | succ m ih =>
    intro R u c1 hm hR hu hul hcu htk h1 h0
    by_cases hab : tkK t n R.2.1 = a ∨ tkK t n R.2.1 = bb
    · have hmk : mk (tkK t n R.2.1) = (if tkK t n R.2.1 = a then m1 else m2) ∧ wst (mk (tkK t n R.2.1)) = l := by
        rcases hl with ⟨rfl, rfl, rfl, rfl, rfl⟩ | ⟨rfl, rfl, rfl, rfl, rfl⟩ <;> rcases hab with z | z <;> rw [z] <;> decide
      have hne : mk (tkK t n R.2.1) ≠ 30 := by
        have := mk_lt _ (tkK_lt (t := t) (n := n) (q := R.2.1)); omega
      have hk2 : 2 ≤ tkK t n R.2.1 := by omega
      have hgt := nx_gt hk2
      refine bh_op hc (by omega) (slk_u hs hul) ?_
      rw [hmk.2]
      obtain ⟨a1, a2⟩ := wtk_app (fun x hx => (hu x hx).1) hw
      rw [a1, a2, g_c30 hu, Nat.sub_zero, hcu]
      have hx : xLp t n F nest ix a bb m1 m2 c1' c2' (m + 1) R = if (F ix nest (nx t n R.2.1)).1 then xLp t n F nest ix a bb m1 m2 c1' c2' m (xBin (if tkK t n R.2.1 = a then m1 else m2) (if tkK t n R.2.1 = a then c1' else c2') R (F ix nest (nx t n R.2.1))) else xF (F ix nest (nx t n R.2.1)).2.1 := by rw [xLp, if_pos hab]
      rw [hx, ← hmk.1] at h1 h0
      have hop : wst (mk (tkK t n R.2.1)) = l := hmk.2
      generalize mk (tkK t n R.2.1) = op at h1 h0 hop hne ⊢
      refine hF (nx t n R.2.1) false k b' (op :: w) r (c ++ R.2.2.1) (fun z => absurd z Bool.false_ne_true) (by rw [wdr, if_neg (by omega)]) (slk_op (by have : 4 - (l + 1) + 1 = 4 - l := (by omega); rw [this]; exact hs)) (fun hr2 u2 c2 hu2 hul2 hcu2 htk2 => ?_) (fun hr2 => ?_)
      · rw [if_pos hr2] at h1 h0
        have e1 : (xBin op (if tkK t n R.2.1 = a then c1' else c2') R (F ix nest (nx t n R.2.1))).2.1 = (F ix nest (nx t n R.2.1)).2.1 := by unfold xBin; rw [if_pos hr2]
        have e2 : (xBin op (if tkK t n R.2.1 = a then c1' else c2') R (F ix nest (nx t n R.2.1))).2.2.1 = R.2.2.1 ++ (F ix nest (nx t n R.2.1)).2.2.1 ++ [(op, 0)] := by unfold xBin; rw [if_pos hr2]
        have e3 : (xBin op (if tkK t n R.2.1 = a then c1' else c2') R (F ix nest (nx t n R.2.1))).1 = true := by unfold xBin; rw [if_pos hr2]
        have hlen := (hln (nx t n R.2.1) hr2).2.2
        have := ih (xBin op (if tkK t n R.2.1 = a then c1' else c2') R (F ix nest (nx t n R.2.1))) (u2 ++ [op]) c2 (by rw [e1]; omega) e3 (fun x hx => ?_) (by rw [List.length_append, List.length_singleton]; omega) (by rw [w0_app, ← List.append_assoc, hcu2, e2]; simp [w0]) (by rw [e1]; exact htk2) h1 h0
        · rw [e1, List.append_assoc] at this
          exact this
        · rcases List.mem_append.mp hx with z | z
          · have := hu2 x z; omega
          · rw [List.mem_singleton] at z; rw [z]; omega
      · rw [if_neg (by rw [hr2]; decide)] at h0
        exact h0 rfl
    · have hx : xLp t n F nest ix a bb m1 m2 c1' c2' (m + 1) R = R := by rw [xLp, if_neg hab]
      rw [hx] at h1
      refine h1 hR u c1 hu hul hcu ?_
      rcases hl with ⟨rfl, rfl, rfl, rfl, rfl⟩ | ⟨rfl, rfl, rfl, rfl, rfl⟩
      · exact ⟨fun _ => by omega, fun z => by omega⟩
      · exact ⟨fun _ => htk.1 (by omega), fun _ => by omega⟩
theorem g_prod (hc : MCtx σ0 t n p K) (hF : FacC σ0 t n L p Q E (F 4) nest) (hln : ∀ q, XLn q (F 4 nest q)) : GenC σ0 t n L p Q E 3 (x3 t n F) nest := by
  intro q b k b' w r c hb hw hs h1 h0
  have hw4 : wdr 4 w = w := by
    cases w with
    | nil => rfl
    | cons x w =>
      rw [wdr] at hw ⊢
      split at hw
      · have := congrArg List.length hw
        have := congrArg List.length (wtk_dr 3 w)
        rw [List.length_append] at this
        rw [List.length_cons] at *
        omega
      · rw [if_neg (by omega)]
  unfold x3 at h1 h0
  refine g_fac hF q b k b' w r c hb hw4 (slk_le hs (by omega)) (fun hr u c1 hu hul hcu htk => ?_) (fun hr => ?_)
  · rw [if_pos hr] at h1 h0
    have hu0 : u = [] := List.eq_nil_of_length_eq_zero (by omega)
    have hlen := (hln q hr).2.2
    rcases Nat.lt_or_ge n (2400 + (F 4 nest q).2.1) with z | z
    · exact g_lp hc (l := 3) (Or.inl ⟨rfl, rfl, rfl, rfl, rfl⟩) (g_fac hF) hln hw hs 2400 (F 4 nest q) u c1 z hr (by rw [hu0]; intro x hx; exact absurd hx (by simp)) (by omega) hcu htk h1 h0
    · have := hc.2.2.2.2; omega
  · rw [if_neg (by rw [hr]; decide)] at h0
    exact h0 rfl
theorem g_sum (hc : MCtx σ0 t n p K) (hF : GenC σ0 t n L p Q E 3 (F 3) nest) (hln : ∀ q, XLn q (F 3 nest q)) : GenC σ0 t n L p Q E 2 (x2 t n F) nest := by
  intro q b k b' w r c hb hw hs h1 h0
  have hw3 : wdr 3 w = w := by
    cases w with
    | nil => rfl
    | cons x w =>
      rw [wdr] at hw ⊢
      split at hw
      · have := congrArg List.length hw
        have := congrArg List.length (wtk_dr 2 w)
        rw [List.length_append] at this
        rw [List.length_cons] at *
        omega
      · rw [if_neg (by omega)]
  unfold x2 at h1 h0
  refine hF q b k b' w r c hb hw3 (slk_le hs (by omega)) (fun hr u c1 hu hul hcu htk => ?_) (fun hr => ?_)
  · rw [if_pos hr] at h1 h0
    have hlen := (hln q hr).2.2
    rcases Nat.lt_or_ge n (2400 + (F 3 nest q).2.1) with z | z
    · exact g_lp hc (l := 2) (Or.inr ⟨rfl, rfl, rfl, rfl, rfl⟩) hF hln hw hs 2400 (F 3 nest q) u c1 z hr (fun x hx => by have := hu x hx; omega) (by omega) hcu htk h1 h0
    · have := hc.2.2.2.2; omega
  · rw [if_neg (by rw [hr]; decide)] at h0
    exact h0 rfl
theorem g_expr (hc : MCtx σ0 t n p K) (hF1 : ChC σ0 t n L p Q E (F 1) nest) (hF2 : GenC σ0 t n L p Q E 2 (F 2) nest) : ExpC σ0 t n L p Q E (x0 t n F) nest := by
  intro q k r c hs h1 h0
  unfold x0 at h1 h0
  by_cases k7 : tkK t n q = 7
  · rw [if_pos k7] at h1 h0
    exact hF1 q k r c k7 hs h1 h0
  · rw [if_neg k7] at h1 h0
    refine hF2 q true k false [] r c (fun _ => k7) rfl (slk_le (slk_new hs) (by omega)) (fun hr u c1 hu hul hcu htk => ?_) (fun hr => ?_)
    · rw [if_pos hr] at h1 h0
      have hsu : slk 0 ((k, false, u ++ []) :: r) := slk_u (slk_new hs) (by omega)
      by_cases kc : tkK t n (F 2 nest q).2.1 = 60 ∨ tkK t n (F 2 nest q).2.1 = 61
      · rw [if_pos kc] at h1 h0
        have hmk : mk (tkK t n (F 2 nest q).2.1) = (if tkK t n (F 2 nest q).2.1 = 60 then 17 else 4) := by rcases kc with z | z <;> rw [z] <;> decide
        have hw1 : wst (mk (tkK t n (F 2 nest q).2.1)) = 1 := by rcases kc with z | z <;> rw [z] <;> decide
        refine bh_cmp hc kc hsu ?_
        obtain ⟨a1, a2⟩ := wtk_app (l := 2) (u := u) (w := []) (fun x hx => (hu x hx).1) rfl
        rw [a1, a2, g_c30 hu, Nat.sub_zero, hcu]
        rw [← hmk] at h1 h0
        generalize mk (tkK t n (F 2 nest q).2.1) = op at h1 h0 hw1 ⊢
        have hs3 : slk 2 ((k, true, [op]) :: r) := slk_op (s := 2) (b := false) (slk_new hs)
        refine hF2 (nx t n (F 2 nest q).2.1) false k true [op] r (c ++ (F 2 nest q).2.2.1) (fun z => absurd z Bool.false_ne_true) (by rw [wdr, if_neg (by omega)]) hs3 (fun hr2 u2 c2 hu2 hul2 hcu2 htk2 => ?_) (fun hr2 => ?_)
        · have e : xBin op (if tkK t n (F 2 nest q).2.1 = 60 then 11 else 12) (F 2 nest q) (F 2 nest (nx t n (F 2 nest q).2.1)) = (true, (F 2 nest (nx t n (F 2 nest q).2.1)).2.1, (F 2 nest q).2.2.1 ++ (F 2 nest (nx t n (F 2 nest q).2.1)).2.2.1 ++ [(op, 0)], (F 2 nest q).2.2.2 ++ (F 2 nest (nx t n (F 2 nest q).2.1)).2.2.2 ++ [((if tkK t n (F 2 nest q).2.1 = 60 then 11 else 12), 0)]) := by unfold xBin; rw [if_pos hr2]
          rw [e] at h1
          have hop : op ≠ 30 := fun z => by rw [z] at hw1; exact absurd hw1 (by decide)
          refine bh_end hc ⟨(htk2.1 (by omega)).1, (htk2.1 (by omega)).2, (htk2.2 (by omega)).1, (htk2.2 (by omega)).2⟩ (fun _ => rfl) (slk_u hs3 (by omega)) ?_
          have := h1 rfl true
          rw [w0_app, ← List.append_assoc, hcu2, c30_app, g_c30 hu2]
          simpa [w0, c30, hop] using this
        · have e : xBin op (if tkK t n (F 2 nest q).2.1 = 60 then 11 else 12) (F 2 nest q) (F 2 nest (nx t n (F 2 nest q).2.1)) = xF (F 2 nest (nx t n (F 2 nest q).2.1)).2.1 := by unfold xBin; rw [if_neg (by rw [hr2]; decide)]
          rw [e] at h0
          exact h0 rfl
      · rw [if_neg kc] at h1 h0
        refine bh_end hc ⟨(htk.1 (by omega)).1, (htk.1 (by omega)).2, (htk.2 (by omega)).1, (htk.2 (by omega)).2⟩ (fun z => absurd z kc) hsu ?_
        have := h1 hr false
        rw [List.append_nil, hcu, g_c30 hu, Nat.sub_zero]
        exact this
    · rw [if_neg (by rw [hr]; decide)] at h0
      exact h0 rfl
end MR
