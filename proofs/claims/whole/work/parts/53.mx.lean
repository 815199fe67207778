/-! ===== expressions, the model's: frames, waits, code ===== -/
theorem b_one (x : Int32) {a : Nat} (ha : a < 32) : ((x >>> (nI a &&& 31)) &&& (1 : Int32)) = 1 ↔ bt x a = true := by
  have e1 : ∀ i, i < 32 → bt 1 i = decide (i = 0) := by decide +kernel
  constructor
  · intro h
    have h2 := congrArg (fun w => bt w 0) h
    simp only [b_and] at h2
    rw [b_sshr a ha _ (by omega), if_pos (by omega), Nat.add_zero, show bt 1 0 = true from by decide, Bool.and_true] at h2
    exact h2
  · intro h
    apply b_ext
    intro i hi
    rw [b_and, b_sshr a ha _ hi, e1 i hi]
    by_cases e : i = 0
    · subst e; rw [if_pos (by omega), Nat.add_zero, h]; rfl
    · rw [decide_eq_false e, Bool.and_false]
def wst (x : Nat) : Nat := if x = 30 then 4 else if x = 15 ∨ x = 16 then 3 else if x = 13 ∨ x = 14 then 2 else 1
def wtk (l : Nat) : List Nat → List Nat
  | [] => []
  | x :: w => if l ≤ wst x then x :: wtk l w else []
def wdr (l : Nat) : List Nat → List Nat
  | [] => []
  | x :: w => if l ≤ wst x then wdr l w else x :: w
def w0 : List Nat → List (Nat × Nat)
  | [] => []
  | x :: w => (x, 0) :: w0 w
def c30 : List Nat → Nat
  | [] => 0
  | x :: w => (if x = 30 then 1 else 0) + c30 w
theorem c30_app : ∀ a b, c30 (a ++ b) = c30 a + c30 b
  | [], b => by simp [c30]
  | x :: a, b => by rw [List.cons_append, c30, c30, c30_app a b]; omega
theorem c30_le : ∀ w, c30 w ≤ w.length
  | [] => Nat.le_refl _
  | x :: w => by rw [c30, List.length_cons]; have := c30_le w; split <;> omega
theorem w0_len : ∀ w, (w0 w).length = w.length
  | [] => rfl
  | x :: w => by rw [w0, List.length_cons, List.length_cons, w0_len w]
theorem w0_app : ∀ a b, w0 (a ++ b) = w0 a ++ w0 b
  | [], _ => rfl
  | x :: a, b => by rw [List.cons_append, w0, w0, w0_app a b]; rfl
theorem wtk_dr (l : Nat) : ∀ w, wtk l w ++ wdr l w = w
  | [] => rfl
  | x :: w => by
    rw [wtk, wdr]
    split
    · rw [List.cons_append, wtk_dr l w]
    · rfl
theorem wst_lt (x : Nat) : 1 ≤ wst x ∧ wst x ≤ 4 := by unfold wst; (repeat' split) <;> omega
theorem wtk_app {l : Nat} : ∀ {u w : List Nat}, (∀ x, x ∈ u → l ≤ wst x) → wdr l w = w → wtk l (u ++ w) = u ∧ wdr l (u ++ w) = w
  | [], w, _, h => by
    refine ⟨?_, h⟩
    cases w with
    | nil => rfl
    | cons x w =>
      rw [List.nil_append, wtk]
      rw [wdr] at h
      split at h
      · rename_i z
        have := congrArg List.length (wtk_dr l w)
        rw [h, List.length_append, List.length_cons] at this; omega
      · rename_i z; rw [if_neg z]
  | x :: u, w, hu, h => by
    have := wtk_app (u := u) (w := w) (fun y hy => hu y (List.mem_cons_of_mem _ hy)) h
    have hx := hu x (List.mem_cons_self ..)
    rw [List.cons_append, wtk, wdr, if_pos hx, if_pos hx, this.1, this.2]
    exact ⟨rfl, rfl⟩
theorem wtk_1 (w : List Nat) : wtk 1 w = w ∧ wdr 1 w = [] := by
  have := wtk_app (l := 1) (u := w) (w := []) (fun x _ => (wst_lt x).1) rfl
  rw [List.append_nil] at this; exact this
abbrev FS : Type := List (Nat × Bool × List Nat)
def fl : FS → List Nat
  | [] => []
  | f :: r => f.2.2 ++ fl r
def WA (σ : ab_S) : List Nat → Prop
  | [] => True
  | x :: r => σ.2.1 127 r.length = nI x ∧ x < 128 ∧ WA σ r
def FA (σ : ab_S) : FS → Prop
  | [] => True
  | f :: r => σ.2.1 124 r.length = nI f.1 ∧ f.1 < 5 ∧ σ.2.1 125 r.length = (if f.2.1 then 1 else 0) ∧ σ.2.1 126 r.length = nI (fl r).length ∧ FA σ r
def MCode (σ : ab_S) (L : Nat) (c : List (Nat × Nat)) : Prop := ∀ i, i < c.length → σ.2.1 107 (L + i) = nI (c.getD i (0, 0)).1 ∧ σ.2.1 108 (L + i) = nI (c.getD i (0, 0)).2
theorem WA.keep {σ σ' : ab_S} : ∀ {l : List Nat}, WA σ l → (∀ i, i < l.length → σ'.2.1 127 i = σ.2.1 127 i) → WA σ' l
  | [], _, _ => trivial
  | x :: r, h, k => ⟨by rw [k _ (by simp)]; exact h.1, h.2.1, h.2.2.keep (fun i hi => k i (by rw [List.length_cons]; omega))⟩
theorem FA.keep {σ σ' : ab_S} : ∀ {l : FS}, FA σ l → (∀ i, i < l.length → σ'.2.1 124 i = σ.2.1 124 i ∧ σ'.2.1 125 i = σ.2.1 125 i ∧ σ'.2.1 126 i = σ.2.1 126 i) → FA σ' l
  | [], _, _ => trivial
  | x :: r, h, k => ⟨by rw [(k _ (by simp)).1]; exact h.1, h.2.1, by rw [(k _ (by simp)).2.1]; exact h.2.2.1, by rw [(k _ (by simp)).2.2]; exact h.2.2.2.1, h.2.2.2.2.keep (fun i hi => k i (by rw [List.length_cons]; omega))⟩
theorem MCode.keep {σ σ' : ab_S} {L : Nat} {c : List (Nat × Nat)} (h : MCode σ L c) (k : ∀ i, i < c.length → σ'.2.1 107 (L + i) = σ.2.1 107 (L + i) ∧ σ'.2.1 108 (L + i) = σ.2.1 108 (L + i)) : MCode σ' L c := fun i hi => by rw [(k i hi).1, (k i hi).2]; exact h i hi
theorem WA_app {σ : ab_S} : ∀ {a b : List Nat}, WA σ (a ++ b) → WA σ b
  | [], _, h => h
  | _ :: _, _, h => WA_app h.2.2
def SX (L : Nat) : Nat → Nat → Bool := fun a i => (a == 92 && (i == 21 || decide (40 ≤ i ∧ i ≤ 43) || i == 45 || i == 49 || i == 51)) || decide (124 ≤ a ∧ a ≤ 127) || ((a == 107 || a == 108) && decide (L ≤ i))
def Sst (L : Nat) : Nat → Nat → Bool := fun a i => (a == 92 && (i == 21 || i == 49 || i == 51)) || ((a == 107 || a == 108) && decide (L ≤ i))
theorem Sst_SX {L : Nat} : ∀ a i, SX L a i = false → Sst L a i = false := by
  intro a i h
  simp only [SX, Sst, Bool.or_eq_false_iff, Bool.and_eq_false_iff] at *
  refine ⟨?_, h.2⟩
  rcases h.1.1 with z | z
  · exact Or.inl z
  · exact Or.inr ⟨⟨z.1.1.1.1, z.1.2⟩, z.2⟩
theorem Sadv_SX {L : Nat} : ∀ a i, SX L a i = false → Sadv a i = false := by
  intro a i h
  simp only [SX, Sadv, Bool.or_eq_false_iff, Bool.and_eq_false_iff] at *
  rcases h.1.1 with z | z
  · exact Or.inl z
  · have := z.1.1.1.2
    simp at this
    right
    simp
    omega
def MY (σ0 σ : ab_S) (L : Nat) (fs : FS) (c : List (Nat × Nat)) (e : Nat) : Prop := FM (SX L) σ0 σ ∧ σ.2.1 92 45 = nI fs.length ∧ σ.2.1 92 49 = nI (fl fs).length ∧ σ.2.1 92 51 = nI e ∧ σ.2.1 92 21 = nI (L + c.length) ∧ FA σ fs ∧ WA σ (fl fs) ∧ MCode σ L c
/-- only what is not read has changed -/
theorem MY.adv {σ0 σ σ' : ab_S} {L : Nat} {fs : FS} {c : List (Nat × Nat)} {e : Nat} (h : MY σ0 σ L fs c e) (f : FM Sadv σ σ') : MY σ0 σ' L fs c e := by
  obtain ⟨hF, h45, h49, h51, h21, hA, hW, hC⟩ := h
  exact ⟨hF.tr (f.mono Sadv_SX), by rw [f.1 92 45 rfl]; exact h45, by rw [f.1 92 49 rfl]; exact h49, by rw [f.1 92 51 rfl]; exact h51, by rw [f.1 92 21 rfl]; exact h21, hA.keep (fun i _ => ⟨f.1 124 i rfl, f.1 125 i rfl, f.1 126 i rfl⟩), hW.keep (fun i _ => f.1 127 i rfl), hC.keep (fun i _ => ⟨f.1 107 _ rfl, f.1 108 _ rfl⟩)⟩
theorem FM.I2 {S : Nat → Nat → Bool} {σ τ : ab_S} (h : FM S σ τ) {a i : Nat} {x : Int32} : FM S (ab_I σ a i x) (ab_I τ a i x) := by
  refine ⟨fun b j z => ?_, fun b j z => h.2.1 b j z, fun b j z => h.2.2 b j z⟩
  rw [gI_I, gI_I]
  by_cases ea : b = a
  · subst ea
    by_cases ei : j = i
    · simp [ei]
    · simp only [ei, if_true, if_false]; exact h.1 b j z
  · simp only [ea, if_false]; exact h.1 b j z
theorem MY.fail {σ0 σ : ab_S} {L : Nat} {fs : FS} {c : List (Nat × Nat)} {e : Nat} {v : Int32} (h : MY σ0 σ L fs c e) : MY (ab_I σ0 92 44 v) (ab_I σ 92 44 v) L fs c e := by
  obtain ⟨hF, h45, h49, h51, h21, hA, hW, hC⟩ := h
  exact ⟨hF.I2, by simpa [gI_I] using h45, by simpa [gI_I] using h49, by simpa [gI_I] using h51, by simpa [gI_I] using h21, hA.keep (fun i _ => by simp [gI_I]), hW.keep (fun i _ => by simp [gI_I]), hC.keep (fun i _ => by simp [gI_I])⟩
section ML
variable {σ0 σ : ab_S} {t : Nat → Nat} {n q L p e : Nat} {fs r : FS} {c : List (Nat × Nat)} {k : Nat} {b : Bool} {w : List Nat} {E : String → ab_S → Prop}
theorem m_strength {x : Nat} (hx : x < 128) {Q : Int32 → ab_S → Prop} (h : Q (nI (wst x)) σ) : wX12_strength (nI x) Q E σ := by
  unfold wX12_strength
  unfold wst at h
  simp (disch := omega) only [nI_lit, nI_add, nI_mulE, nI_clampE, nI_eqE, nI_leE, nI_ltE, vp_nIE]
  by_cases h30 : x = 30
  · rw [if_pos h30] at h
    exact no (fun z => z h30) h
  · rw [if_neg h30] at h
    refine yes h30 ?_
    by_cases h15 : x = 15
    · rw [if_pos (Or.inl h15)] at h
      exact yes h15 h
    · refine no h15 ?_
      by_cases h16 : x = 16
      · rw [if_pos (Or.inr h16)] at h
        exact no (fun z => z h16) h
      · rw [if_neg (by omega)] at h
        refine yes h16 ?_
        by_cases h13 : x = 13
        · rw [if_pos (Or.inl h13)] at h
          exact yes h13 h
        · refine no h13 ?_
          by_cases h14 : x = 14
          · rw [if_pos (Or.inr h14)] at h
            exact no (fun z => z h14) h
          · rw [if_neg (by omega)] at h
            exact yes h14 h
theorem m_emit (hY : MY σ0 σ L fs c e) (hL : L + c.length < 2500) {x v : Nat} {Q : ab_S → Prop} (h : ∀ σ', FM (Sst L) σ σ' → MY σ0 σ' L fs (c ++ [(x, v)]) e → Q σ') : wX12_emit (nI x) (nI v) Q E σ := by
  obtain ⟨hF, h45, h49, h51, h21, hA, hW, hC⟩ := hY
  unfold wX12_emit
  have ec : (nI (L + c.length)).toNatClampNeg = L + c.length := nI_clampE (by omega)
  have ev : vp_in (nI (L + c.length)) 2500 := by simp (disch := omega) only [nI_lit, nI_add, nI_mulE, nI_clampE, nI_eqE, nI_leE, nI_ltE, vp_nIE, true_and, and_true]; omega
  rw [h21, ec]
  refine ⟨ev, fe ?_⟩
  rw [show (ab_I σ 107 (L + c.length) (nI x)).2.1 92 21 = nI (L + c.length) by simp [gI_I, h21], ec]
  refine ⟨ev, fe ?_⟩
  rw [show (ab_I (ab_I σ 107 (L + c.length) (nI x)) 108 (L + c.length) (nI v)).2.1 92 21 = nI (L + c.length) by simp [gI_I, h21], nI_1]
  refine fe ?_
  have f : FM (Sst L) σ (ab_I (ab_I (ab_I σ 107 (L + c.length) (nI x)) 108 (L + c.length) (nI v)) 92 21 (nI (L + c.length + 1))) := (((FM.rf _ σ).I (by simp [Sst])).I (by simp [Sst])).I (by simp [Sst])
  refine h _ f ⟨hF.tr (f.mono Sst_SX), ?_, ?_, ?_, ?_, hA.keep (fun i _ => ⟨f.1 124 i rfl, f.1 125 i rfl, f.1 126 i rfl⟩), hW.keep (fun i _ => f.1 127 i rfl), fun i hi => ?_⟩
  · rw [f.1 92 45 rfl]; exact h45
  · simp [gI_I, h49]
  · simp [gI_I, h51]
  · rw [List.length_append]; simp [gI_I]; rfl
  · rw [List.length_append, List.length_singleton] at hi
    by_cases ei : i = c.length
    · subst ei
      rw [gp_r (Nat.le_refl _), Nat.sub_self]
      simp [gI_I]
    · rw [gp_l (by omega)]
      have := hC i (by omega)
      simp [gI_I, ei, this]
/-- frames' numbers -/
theorem MY.top (hY : MY σ0 σ L ((k, b, w) :: r) c e) (hr : r.length < 40) : σ.2.1 92 45 - 1 = nI r.length ∧ (nI r.length).toNatClampNeg = r.length ∧ vp_in (nI r.length) 40 ∧ σ.2.1 124 r.length = nI k ∧ k < 5 ∧ σ.2.1 125 r.length = (if b then 1 else 0) ∧ σ.2.1 126 r.length = nI (fl r).length := by
  obtain ⟨hF, h45, h49, h51, h21, hA, hW, hC⟩ := hY
  refine ⟨by rw [h45]; exact nI_pred _, nI_clampE (by omega), by simp (disch := omega) only [nI_lit, nI_add, nI_mulE, nI_clampE, nI_eqE, nI_leE, nI_ltE, vp_nIE, true_and, and_true]; omega, hA.1, hA.2.1, hA.2.2.1, hA.2.2.2.1⟩
theorem m_settleL {l : Nat} (hl : l < 10) (hr : r.length < 40) {Q : ab_S → Prop} : ∀ (w : List Nat) (c : List (Nat × Nat)) (e : Nat) (σ : ab_S), MY σ0 σ L ((k, b, w) :: r) c e → w.length + (fl r).length ≤ 80 → L + c.length + w.length < 2500 → c30 w ≤ e → (∀ σ', FM (Sst L) σ σ' → MY σ0 σ' L ((k, b, wdr l w) :: r) (c ++ w0 (wtk l w)) (e - c30 (wtk l w)) → Q σ') → wX12_settle_l0 (nI l) Q E (w.length + 1) σ := by
  intro w
  induction w with
  | nil =>
    intro c e σ hY h80 hc he h
    obtain ⟨t1, t2, t3, t4, t5, t6, t7⟩ := hY.top hr
    show wX12_settle_l0_b (nI l) Q E _ σ
    unfold wX12_settle_l0_b
    rw [t1, t2, t7, hY.2.2.1]
    refine ⟨t3, yes ?_ ?_⟩
    · exact Int32.le_refl _
    · refine h σ (FM.rf _ _) ?_
      simpa [wdr, wtk, w0, c30] using hY
  | cons x w ih =>
    intro c e σ hY h80 hc he h
    obtain ⟨t1, t2, t3, t4, t5, t6, t7⟩ := hY.top hr
    have hY2 := hY
    obtain ⟨hF, h45, h49, h51, h21, hA, hW, hC⟩ := hY2
    have hW2 : σ.2.1 127 (w ++ fl r).length = nI x ∧ x < 128 ∧ WA σ (w ++ fl r) := hW
    have hlen : (fl ((k, b, x :: w) :: r)).length = (w ++ fl r).length + 1 := rfl
    have hlen2 : (w ++ fl r).length = w.length + (fl r).length := List.length_append
    rw [List.length_cons] at h80 hc
    have hws := wst_lt x
    show wX12_settle_l0_b (nI l) Q E (wX12_settle_l0 (nI l) Q E (w.length + 1)) σ
    unfold wX12_settle_l0_b
    rw [t1, t2, t7, h49, hlen, nI_pred]
    have ec : (nI (w ++ fl r).length).toNatClampNeg = (w ++ fl r).length := nI_clampE (by omega)
    have ev : vp_in (nI (w ++ fl r).length) 80 := by simp (disch := omega) only [nI_lit, nI_add, nI_mulE, nI_clampE, nI_eqE, nI_leE, nI_ltE, vp_nIE, true_and, and_true]; omega
    rw [ec, hW2.1]
    refine ⟨t3, no (by simp (disch := omega) only [nI_lit, nI_add, nI_mulE, nI_clampE, nI_eqE, nI_leE, nI_ltE, vp_nIE, true_and, and_true]; omega) ⟨ev, m_strength hW2.2.1 ?_⟩⟩
    by_cases hs : l ≤ wst x
    · refine no (by simp (disch := omega) only [nI_lit, nI_add, nI_mulE, nI_clampE, nI_eqE, nI_leE, nI_ltE, vp_nIE, true_and, and_true]; omega) (fe ?_)
      rw [h49, hlen, nI_pred]
      have f1 : FM (Sst L) σ (ab_I σ 92 49 (nI (w ++ fl r).length)) := (FM.rf _ σ).I rfl
      have Y1 : MY σ0 (ab_I σ 92 49 (nI (w ++ fl r).length)) L ((k, b, w) :: r) c e := by
        refine ⟨hF.tr (f1.mono Sst_SX), ?_, ?_, ?_, ?_, ?_, hW2.2.2.keep (fun i _ => f1.1 127 i rfl), hC.keep (fun i _ => ?_)⟩
        · simp [gI_I, h45]
        · simp [gI_I, fl]
        · simp [gI_I, h51]
        · simp [gI_I, h21]
        · have : FA (ab_I σ 92 49 (nI (w ++ fl r).length)) ((k, b, x :: w) :: r) := hA.keep (fun i _ => ⟨f1.1 124 i rfl, f1.1 125 i rfl, f1.1 126 i rfl⟩)
          exact this
        · simp [gI_I]
      rw [show (ab_I σ 92 49 (nI (w ++ fl r).length)).2.1 92 49 = nI (w ++ fl r).length by simp [gI_I], ec]
      refine ⟨ev, ?_⟩
      rw [show (ab_I σ 92 49 (nI (w ++ fl r).length)).2.1 127 (w ++ fl r).length = nI x by simp [gI_I]; rw [← List.length_append]; exact hW2.1]
      refine m_emit (v := 0) Y1 (by omega) (fun σ2 f2 Y2 => ?_)
      have g2 : FM (Sst L) σ σ2 := f1.tr f2
      rw [show σ2.2.1 92 49 = nI (w ++ fl r).length from Y2.2.2.1, ec]
      refine ⟨ev, ?_⟩
      rw [show σ2.2.1 127 (w ++ fl r).length = nI x by rw [g2.1 127 _ rfl]; exact hW2.1, show σ2.2.1 92 51 = nI e from Y2.2.2.2.1]
      have go : ∀ e2, e2 = e - (if x = 30 then 1 else 0) → wX12_settle_j88 (nI l) Q E (wX12_settle_l0 (nI l) Q E (w.length + 1)) (nI e2) σ2 := by
        intro e2 he2
        unfold wX12_settle_j88
        refine fe ?_
        have f3 : FM (Sst L) σ2 (ab_I σ2 92 51 (nI e2)) := (FM.rf _ σ2).I rfl
        have Y3 : MY σ0 (ab_I σ2 92 51 (nI e2)) L ((k, b, w) :: r) (c ++ [(x, 0)]) e2 := by
          obtain ⟨y1, y2, y3, y4, y5, y6, y7, y8⟩ := Y2
          refine ⟨y1.tr (f3.mono Sst_SX), ?_, ?_, ?_, ?_, y6.keep (fun i _ => ⟨f3.1 124 i rfl, f3.1 125 i rfl, f3.1 126 i rfl⟩), y7.keep (fun i _ => f3.1 127 i rfl), y8.keep (fun i _ => ?_)⟩
          · rw [f3.1 92 45 rfl]; exact y2
          · simpa [gI_I] using y3
          · simp [gI_I]
          · simpa [gI_I] using y5
          · simp [gI_I]
        rw [c30] at he
        refine ih _ _ _ Y3 (by omega) (by rw [List.length_append]; simp; omega) (by split at he2 <;> split at he <;> omega) (fun σ4 f4 Y4 => h σ4 (g2.tr (f3.tr f4)) ?_)
        rw [wdr, wtk, if_pos hs, if_pos hs, w0, c30]
        have e5 : e2 - c30 (wtk l w) = e - ((if x = 30 then 1 else 0) + c30 (wtk l w)) := by omega
        rw [e5] at Y4
        rw [List.append_assoc] at Y4
        exact Y4
      by_cases h30 : x = 30
      · rw [c30, if_pos h30] at he
        refine no (by rw [h30]; exact fun z => z rfl) ?_
        rw [show nI e - 1 = nI (e - 1) by show nI e - nI 1 = _; exact nI_subE (by omega)]
        exact go (e - 1) (by rw [if_pos h30])
      · refine yes ?_ (go e (by rw [if_neg h30]; rfl))
        have := hW2.2.1
        simp (disch := omega) only [nI_lit, nI_add, nI_mulE, nI_clampE, nI_eqE, nI_leE, nI_ltE, vp_nIE, true_and, and_true]
        exact h30
    · refine yes (by simp (disch := omega) only [nI_lit, nI_add, nI_mulE, nI_clampE, nI_eqE, nI_leE, nI_ltE, vp_nIE, true_and, and_true]; omega) (h σ (FM.rf _ _) ?_)
      rw [wdr, wtk, if_neg hs, if_neg hs]
      simpa [w0, c30] using hY
theorem m_settle {l : Nat} (hl : l < 10) (hY : MY σ0 σ L ((k, b, w) :: r) c e) (hr : r.length < 40) (h80 : w.length + (fl r).length ≤ 80) (hc : L + c.length + w.length < 2500) (he : c30 w ≤ e) {Q : ab_S → Prop} (h : ∀ σ', FM (Sst L) σ σ' → MY σ0 σ' L ((k, b, wdr l w) :: r) (c ++ w0 (wtk l w)) (e - c30 (wtk l w)) → Q σ') : wX12_settle (nI l) Q E σ := ⟨_, m_settleL hl hr w c e σ hY h80 hc he h⟩
theorem m_hold (hY : MY σ0 σ L ((k, b, w) :: r) c e) (hS : MS σ t n q) (h80 : w.length + (fl r).length < 80) {x : Nat} (hx : x < 128) {Q : ab_S → Prop} (h : ∀ σ', MS σ' t n (nx t n q) → MY σ0 σ' L ((k, b, x :: w) :: r) c e → Q σ') : wX12_hold (nI x) Q E σ := by
  obtain ⟨hF, h45, h49, h51, h21, hA, hW, hC⟩ := hY
  have hlen : (fl ((k, b, w) :: r)).length = w.length + (fl r).length := List.length_append
  have h80 : (fl ((k, b, w) :: r)).length < 80 := by omega
  have hW0 : WA σ (fl ((k, b, w) :: r)) := hW
  unfold wX12_hold
  rw [h49]
  rw [nI_clampE (by omega)]
  refine ⟨by simp (disch := omega) only [nI_lit, nI_add, nI_mulE, nI_clampE, nI_eqE, nI_leE, nI_ltE, vp_nIE, true_and, and_true]; omega, fe ?_⟩
  rw [show (ab_I σ 127 (fl ((k, b, w) :: r)).length (nI x)).2.1 92 49 = nI (fl ((k, b, w) :: r)).length by simp [gI_I]; exact h49, nI_1]
  refine fe ?_
  have f : FM (fun a i => a == 127 || (a == 92 && i == 49)) σ (ab_I (ab_I σ 127 (fl ((k, b, w) :: r)).length (nI x)) 92 49 (nI ((fl ((k, b, w) :: r)).length + 1))) := ((FM.rf _ σ).I rfl).I rfl
  have S1 := hS.fm f rfl (fun _ => rfl) (fun _ => rfl) rfl rfl rfl rfl
  have Y1 : MY σ0 (ab_I (ab_I σ 127 (fl ((k, b, w) :: r)).length (nI x)) 92 49 (nI ((fl ((k, b, w) :: r)).length + 1))) L ((k, b, x :: w) :: r) c e := by
    refine ⟨hF.tr (f.mono ?_), ?_, ?_, ?_, ?_, ?_, ⟨?_, hx, ?_⟩, hC.keep (fun i _ => ?_)⟩
    · intro a i z
      simp [SX] at z
      simp
      omega
    · simp [gI_I]; exact h45
    · simp [gI_I]; rfl
    · simp [gI_I]; exact h51
    · simp [gI_I]; exact h21
    · have : FA (ab_I (ab_I σ 127 (fl ((k, b, w) :: r)).length (nI x)) 92 49 (nI ((fl ((k, b, w) :: r)).length + 1))) ((k, b, w) :: r) := hA.keep (fun i _ => by simp [gI_I])
      exact this
    · show (ab_I (ab_I σ 127 (fl ((k, b, w) :: r)).length (nI x)) 92 49 (nI ((fl ((k, b, w) :: r)).length + 1))).2.1 127 (fl ((k, b, w) :: r)).length = nI x
      simp [gI_I]
    · exact hW0.keep (fun i hi => by have hi' : i ≠ (fl ((k, b, w) :: r)).length := (by omega); simp [gI_I, hi'])
    · simp [gI_I]
  exact m_next S1 (fun σ2 f2 s2 => h σ2 s2 (Y1.adv f2))
theorem m_frame (hY : MY σ0 σ L fs c e) (hS : MS σ t n q) (h40 : fs.length < 40) {x : Nat} (hx : x < 5) {Q : ab_S → Prop} (h : ∀ σ', MS σ' t n q → MY σ0 σ' L ((x, false, []) :: fs) c e → Q σ') : wX12_frame (nI x) Q E σ := by
  obtain ⟨hF, h45, h49, h51, h21, hA, hW, hC⟩ := hY
  have ec : (nI fs.length).toNatClampNeg = fs.length := nI_clampE (by omega)
  have ev : vp_in (nI fs.length) 40 := by simp (disch := omega) only [nI_lit, nI_add, nI_mulE, nI_clampE, nI_eqE, nI_leE, nI_ltE, vp_nIE, true_and, and_true]; omega
  unfold wX12_frame
  rw [h45, ec]
  refine ⟨ev, fe ?_⟩
  rw [show (ab_I σ 124 fs.length (nI x)).2.1 92 45 = nI fs.length by simp [gI_I, h45], ec]
  refine ⟨ev, fe ?_⟩
  rw [show vp_nar .boolean (0 : Int32) = 0 from by decide]
  rw [show (ab_I (ab_I σ 124 fs.length (nI x)) 125 fs.length 0).2.1 92 45 = nI fs.length by simp [gI_I, h45], ec]
  rw [show (ab_I (ab_I σ 124 fs.length (nI x)) 125 fs.length 0).2.1 92 49 = nI (fl fs).length by simp [gI_I, h49]]
  refine ⟨ev, fe ?_⟩
  rw [show (ab_I (ab_I (ab_I σ 124 fs.length (nI x)) 125 fs.length 0) 126 fs.length (nI (fl fs).length)).2.1 92 45 = nI fs.length by simp [gI_I, h45], nI_1]
  refine fe ?_
  have f : FM (fun a i => (decide (124 ≤ a ∧ a ≤ 126)) || (a == 92 && i == 45)) σ (ab_I (ab_I (ab_I (ab_I σ 124 fs.length (nI x)) 125 fs.length 0) 126 fs.length (nI (fl fs).length)) 92 45 (nI (fs.length + 1))) := ((((FM.rf _ σ).I rfl).I rfl).I rfl).I rfl
  refine h _ (hS.fm f rfl (fun _ => rfl) (fun _ => rfl) rfl rfl rfl rfl) ⟨hF.tr (f.mono ?_), ?_, ?_, ?_, ?_, ⟨?_, hx, ?_, ?_, hA.keep (fun i hi => ?_)⟩, hW.keep (fun i _ => ?_), hC.keep (fun i _ => ?_)⟩
  · intro a i z
    simp [SX] at z
    simp
    omega
  · simp [gI_I]
  · simp [gI_I, fl, h49]
  · simp [gI_I, h51]
  · simp [gI_I, h21]
  · simp [gI_I]
  · simp [gI_I]
  · simp [gI_I]
  · have : i ≠ fs.length := by omega
    simp [gI_I, this]
  · simp [gI_I]
  · simp [gI_I]
end ML
