/-! ===== expressions, the model's: steps ===== -/
theorem kind3 : ∀ k, k < 128 → vk k = true → (mk k = 2 ↔ k = 3) := by decide +kernel
section MK
variable {σ : ab_S} {t : Nat → Nat} {n q : Nat}
theorem MS.sg (hS : MS σ t n q) {w : Nat} (hw : w < 128) (hs : sgn w = true) : σ.2.1 92 40 = nI (mk w) ↔ tkK t n q = w := by
  have a := mk_lt _ (tkK_lt (t := t) (n := n) (q := q))
  have b := mk_lt w hw
  rw [hS.2.2.2.2.1, nI_eqE (by omega) (by omega), mk_inj _ tkK_lt (tkK_vk t n q) w hw hs]
theorem MS.nb (hS : MS σ t n q) : σ.2.1 92 40 = (2 : Int32) ↔ tkK t n q = 3 := by
  have a := mk_lt _ (tkK_lt (t := t) (n := n) (q := q))
  rw [hS.2.2.2.2.1]
  show nI _ = nI 2 ↔ _
  rw [nI_eqE (by omega) (by omega), kind3 _ tkK_lt (tkK_vk t n q)]
theorem MS.wd (hS : MS σ t n q) {w : Nat} (h0 : 0 < w) (h7 : w < 7) : σ.2.1 92 43 = nI w ↔ tkK t n q = w + 3 := by
  have a := mk_lt _ (tkK_lt (t := t) (n := n) (q := q))
  rw [hS.2.2.2.2.2, nI_eqE (by omega) (by omega), word_k _ tkK_lt (tkK_vk t n q) w h7 h0]
end MK
theorem nb_stl (l : Nat) (w : List Nat) : c30 (wtk l w) + c30 (wdr l w) = c30 w ∧ (wtk l w).length + (wdr l w).length = w.length := by
  have h := wtk_dr l w
  constructor
  · rw [← c30_app, h]
  · rw [← List.length_append, h]
def slk (s : Nat) (fs : FS) : Prop := (fl fs).length + s ≤ 3 * fs.length + c30 (fl fs)
def MX (σ0 σ : ab_S) (t : Nat → Nat) (n q L : Nat) (fs : FS) (c : List (Nat × Nat)) (e : Nat) : Prop := MY σ0 σ L fs c e ∧ MS σ t n q ∧ e + 1 = fs.length + c30 (fl fs) ∧ e ≤ 10 ∧ L + c.length + (fl fs).length + fs.length ≤ q + 1
def MCtx (σ0 : ab_S) (t : Nat → Nat) (n p : Nat) (K : PC) : Prop := MOk σ0 ∧ MSy σ0 K.1 ∧ GV K.1 ∧ MP σ0 p K ∧ n ≤ 2400
def QBh (p : Nat) (Q : ab_S → Prop) (E : String → ab_S → Prop) (f : Nat) : Int32 → ab_S → Prop := fun u6 σ5 => ((u6 ≤ 0) → wX12_expression_j112 (nI p) Q E (wX12_expression_l27 (nI p) Q E f) u6 (0 : Int32) σ5) ∧ (¬ (u6 ≤ 0) → wX12_expression_j112 (nI p) Q E (wX12_expression_l27 (nI p) Q E f) u6 (1 : Int32) σ5)
def KAe (R : Int32 → ab_S → Prop) (E : String → ab_S → Prop) : ab_S → Prop := fun σ9 => vp_in ((σ9.2.1 92 45) - (1 : Int32)) 40 ∧ (∀ v10 : Int32, v10 = (σ9.2.1 124 ((σ9.2.1 92 45) - (1 : Int32)).toNatClampNeg) → ((¬ (σ9.2.1 92 40) = (11 : Int32)) → wX12_behind_j176 R E v10 σ9) ∧ (¬ (¬ (σ9.2.1 92 40) = (11 : Int32)) → ((¬ v10 = (1 : Int32)) → wX12_behind_j176 R E v10 σ9) ∧ (¬ (¬ v10 = (1 : Int32)) → (∀ σ11 : ab_S, σ11 = ab_I σ9 92 45 ((σ9.2.1 92 45) - (1 : Int32)) → (∀ σ12 : ab_S, σ12 = ab_I σ11 92 51 ((σ11.2.1 92 51) - (1 : Int32)) → wX12_advance (fun σ13 => wX12_settle (4 : Int32) (fun σ14 => R (3 : Int32) σ14) E σ13) E σ12)))))
section ML
variable {σ0 σ : ab_S} {t : Nat → Nat} {n q L p e : Nat} {fs r : FS} {c : List (Nat × Nat)} {k : Nat} {b b' : Bool} {w : List Nat} {K : PC} {Q : ab_S → Prop} {E : String → ab_S → Prop}
theorem QB1 {f : Nat} (h : wX12_expression_l27 (nI p) Q E f 1 0 1 σ) : QBh p Q E f 1 σ := by
  unfold QBh
  refine no (by decide) ?_
  unfold wX12_expression_j112
  refine yes rfl ?_
  unfold wX12_expression_j126 wX12_expression_j131
  exact yes (by decide) h
theorem QB2 {f : Nat} (h : wX12_expression_l27 (nI p) Q E f 1 1 1 σ) : QBh p Q E f 2 σ := by
  unfold QBh
  refine no (by decide) ?_
  unfold wX12_expression_j112
  refine no (by decide) (no (fun z => z rfl) ?_)
  unfold wX12_expression_j126 wX12_expression_j131
  exact no (fun z => z rfl) h
theorem QB3 {f : Nat} (h : wX12_expression_l27 (nI p) Q E f 0 0 1 σ) : QBh p Q E f 3 σ := by
  unfold QBh
  refine no (by decide) ?_
  unfold wX12_expression_j112
  refine no (by decide) (yes (by decide) ?_)
  unfold wX12_expression_j131
  exact yes (by decide) h
theorem QB0 {f : Nat} (h : wX12_expression_l27 (nI p) Q E f 0 0 0 σ) : QBh p Q E f 0 σ := by
  unfold QBh
  refine yes (by decide) ?_
  unfold wX12_expression_j112
  refine no (by decide) (yes (by decide) ?_)
  unfold wX12_expression_j131
  exact yes (by decide) h
theorem e_off {f : Nat} {x2 x3 : Int32} (h : Q σ) : wX12_expression_l27 (nI p) Q E (f + 1) x2 x3 0 σ := by
  show wX12_expression_l27_b _ _ _ _ _ _ _ _
  unfold wX12_expression_l27_b
  exact yes rfl h
theorem e_bad {f v : Nat} {x2 x3 : Int32} (hb : MBad σ v) (h : Q σ) : wX12_expression_l27 (nI p) Q E (f + 1) x2 x3 1 σ := by
  show wX12_expression_l27_b _ _ _ _ _ _ _ _
  unfold wX12_expression_l27_b
  exact no (by decide) (m_goodN hb (yes rfl h))
theorem e_behind {f : Nat} (hG : MOk σ) (h : wX12_behind (QBh p Q E f) E σ) : wX12_expression_l27 (nI p) Q E (f + 1) 0 0 1 σ := by
  show wX12_expression_l27_b _ _ _ _ _ _ _ _
  unfold wX12_expression_l27_b
  exact no (by decide) (m_goodY hG (no (by decide) (yes rfl h)))
theorem e_part {f : Nat} (hG : MOk σ) (hS : MS σ t n q) (b : Bool) (h : wX12_expression_j69 (nI p) Q E (wX12_expression_l27 (nI p) Q E f) (if b then 1 else 0) 1 (if (b = true ∧ tkK t n q = 7) ∨ tkK t n q = 40 then 1 else 0) σ) : wX12_expression_l27 (nI p) Q E (f + 1) 1 (if b then 1 else 0) 1 σ := by
  show wX12_expression_l27_b _ _ _ _ _ _ _ _
  unfold wX12_expression_l27_b
  refine no (by decide) (m_goodY hG (no (by decide) (no (by decide) ?_)))
  have k7 : σ.2.1 92 43 = (4 : Int32) ↔ tkK t n q = 7 := hS.wd (w := 4) (by omega) (by omega)
  have k40 : σ.2.1 92 40 = (10 : Int32) ↔ tkK t n q = 40 := hS.sg (w := 40) (by omega) rfl
  have j55 : ¬ (b = true ∧ tkK t n q = 7) → wX12_expression_j55 (nI p) Q E (wX12_expression_l27 (nI p) Q E f) (if b then 1 else 0) 1 σ := by
    intro hb
    unfold wX12_expression_j55
    by_cases h40 : tkK t n q = 40
    · rw [show (if (b = true ∧ tkK t n q = 7) ∨ tkK t n q = 40 then (1 : Int32) else 0) = 1 from if_pos (Or.inr h40)] at h
      exact no (fun z => z (k40.mpr h40)) h
    · rw [show (if (b = true ∧ tkK t n q = 7) ∨ tkK t n q = 40 then (1 : Int32) else 0) = 0 from if_neg (fun z => z.elim hb h40)] at h
      exact yes (fun z => h40 (k40.mp z)) h
  cases b
  · exact yes rfl (j55 (fun z => absurd z.1 Bool.false_ne_true))
  · refine no (by decide) ?_
    by_cases h7 : tkK t n q = 7
    · rw [show (if (true = true ∧ tkK t n q = 7) ∨ tkK t n q = 40 then (1 : Int32) else 0) = 1 from if_pos (Or.inl ⟨rfl, h7⟩)] at h
      exact yes (k7.mpr h7) h
    · exact no (fun z => h7 (k7.mp z)) (j55 (fun z => h7 z.2))
theorem MY.ok (hY : MY σ0 σ L fs c e) (hG : MOk σ0) : MOk σ := hG.fm hY.1 (by simp [SX])
theorem MY.badv {v : Nat} (hY : MY (ab_I σ0 92 44 (nI v)) σ L fs c e) (hv : v ≤ 2400) : MBad σ v := ⟨by rw [hY.1.1 92 44 (by simp [SX])]; simp [gI_I], hv⟩
theorem MY.sy {G : SYT} (hY : MY σ0 σ L fs c e) (h : MSy σ0 G) : MSy σ G := h.fm hY.1 rfl (fun _ => rfl) (fun _ => rfl) (fun _ => rfl) (fun _ => rfl)
theorem MY.mp (hY : MY σ0 σ L fs c e) (h : MP σ0 p K) : MP σ p K := h.fm hY.1 (fun _ => rfl) (fun _ => rfl) (fun _ => rfl) (fun _ => rfl)
theorem MY.setd {e' : Nat} (hY : MY σ0 σ L fs c e) : MY σ0 (ab_I σ 92 51 (nI e')) L fs c e' := by
  obtain ⟨hF, h45, h49, h51, h21, hA, hW, hC⟩ := hY
  have f : FM (Sst L) σ (ab_I σ 92 51 (nI e')) := (FM.rf _ σ).I rfl
  exact ⟨hF.tr (f.mono Sst_SX), by rw [f.1 92 45 rfl]; exact h45, by simpa [gI_I] using h49, by simp [gI_I], by simpa [gI_I] using h21, hA.keep (fun i _ => by simp [gI_I]), hW.keep (fun i _ => by simp [gI_I]), hC.keep (fun i _ => by simp [gI_I])⟩
theorem MS.setd (hS : MS σ t n q) {x : Int32} : MS (ab_I σ 92 51 x) t n q := hS.fm (S := fun a i => a == 92 && i == 51) ((FM.rf _ σ).I rfl) rfl (fun _ => rfl) (fun _ => rfl) rfl rfl rfl rfl
theorem MS.set45 (hS : MS σ t n q) {x : Int32} : MS (ab_I σ 92 45 x) t n q := hS.fm (S := fun a i => a == 92 && i == 45) ((FM.rf _ σ).I rfl) rfl (fun _ => rfl) (fun _ => rfl) rfl rfl rfl rfl
theorem MS.set44 (hS : MS σ t n q) {x : Int32} : MS (ab_I σ 92 44 x) t n q := hS.fm (S := fun a i => a == 92 && i == 44) ((FM.rf _ σ).I rfl) rfl (fun _ => rfl) (fun _ => rfl) rfl rfl rfl rfl
theorem MY.pop {x : Nat} {y : Bool} (hY : MY σ0 σ L ((x, y, []) :: fs) c e) : MY σ0 (ab_I σ 92 45 (nI fs.length)) L fs c e := by
  obtain ⟨hF, h45, h49, h51, h21, hA, hW, hC⟩ := hY
  have f : FM (SX L) σ (ab_I σ 92 45 (nI fs.length)) := (FM.rf _ σ).I rfl
  exact ⟨hF.tr f, by simp [gI_I], by simpa [gI_I, fl] using h49, by simpa [gI_I] using h51, by simpa [gI_I] using h21, hA.2.2.2.2.keep (fun i _ => by simp [gI_I]), WA.keep (l := fl fs) hW (fun i _ => by simp [gI_I]), hC.keep (fun i _ => by simp [gI_I])⟩
theorem MY.setk {k' : Nat} (hk : k' < 5) (hY : MY σ0 σ L ((k, b, w) :: r) c e) : MY σ0 (ab_I (ab_I σ 124 r.length (nI k')) 125 r.length 0) L ((k', false, w) :: r) c e := by
  obtain ⟨hF, h45, h49, h51, h21, hA, hW, hC⟩ := hY
  have f : FM (SX L) σ (ab_I (ab_I σ 124 r.length (nI k')) 125 r.length 0) := ((FM.rf _ σ).I rfl).I rfl
  refine ⟨hF.tr f, by simpa [gI_I] using h45, by simpa [gI_I, fl] using h49, by simpa [gI_I] using h51, by simpa [gI_I] using h21, ⟨by simp [gI_I], hk, by simp [gI_I], by simpa [gI_I] using hA.2.2.2.1, hA.2.2.2.2.keep (fun i hi => ?_)⟩, WA.keep (l := fl ((k, b, w) :: r)) hW (fun i _ => by simp [gI_I]), hC.keep (fun i _ => by simp [gI_I])⟩
  have : i ≠ r.length := by omega
  simp [gI_I, this]
theorem MY.setc (hY : MY σ0 σ L ((k, b, w) :: r) c e) : MY σ0 (ab_I σ 125 r.length 1) L ((k, true, w) :: r) c e := by
  obtain ⟨hF, h45, h49, h51, h21, hA, hW, hC⟩ := hY
  have f : FM (SX L) σ (ab_I σ 125 r.length 1) := (FM.rf _ σ).I rfl
  refine ⟨hF.tr f, by simpa [gI_I] using h45, by simpa [gI_I, fl] using h49, by simpa [gI_I] using h51, by simpa [gI_I] using h21, ⟨by simpa [gI_I] using hA.1, hA.2.1, by simp [gI_I], by simpa [gI_I] using hA.2.2.2.1, hA.2.2.2.2.keep (fun i hi => ?_)⟩, WA.keep (l := fl ((k, b, w) :: r)) hW (fun i _ => by simp [gI_I]), hC.keep (fun i _ => by simp [gI_I])⟩
  have : i ≠ r.length := by omega
  simp [gI_I, this]
theorem m_deeper (hY : MY σ0 σ L fs c e) (hS : MS σ t n q) (hG : MOk σ) (he : e ≤ 10) (h1 : e < 10 → ∀ σ', MS σ' t n q → MY σ0 σ' L fs c (e + 1) → Q σ') (h0 : e = 10 → ∀ σ', MS σ' t n q → MY (ab_I σ0 92 44 (nI q)) σ' L fs c 11 → Q σ') : wX12_deeper Q E σ := by
  have h51 := hY.2.2.2.1
  unfold wX12_deeper
  by_cases h10 : e = 10
  · refine no (fun z => z (by rw [h51, h10]; rfl)) ?_
    rw [hS.2.2.1]
    refine m_failY hG ?_
    unfold wX12_deeper_j17
    rw [show (ab_I σ 92 44 (nI q)).2.1 92 51 = nI e by simp [gI_I, h51], nI_1, h10]
    exact fe (h0 h10 _ hS.set44.setd hY.fail.setd)
  · refine yes (by rw [h51]; simp (disch := omega) only [nI_lit, nI_add, nI_mulE, nI_clampE, nI_eqE, nI_leE, nI_ltE, vp_nIE, true_and, and_true]; exact h10) ?_
    unfold wX12_deeper_j17
    rw [h51, nI_1]
    exact fe (h1 (by omega) _ hS.setd hY.setd)
theorem m_settleX {l : Nat} (hl : l < 10) (hX : MX σ0 σ t n q L ((k, b, w) :: r) c e) (hs : slk 0 ((k, b, w) :: r)) (h : ∀ σ', MX σ0 σ' t n q L ((k, b, wdr l w) :: r) (c ++ w0 (wtk l w)) (e - c30 (wtk l w)) → Q σ') : wX12_settle (nI l) Q E σ := by
  obtain ⟨hY, hS, x1, x2, x3⟩ := hX
  have e1 : (fl ((k, b, w) :: r)).length = w.length + (fl r).length := List.length_append
  have e2 : c30 (fl ((k, b, w) :: r)) = c30 w + c30 (fl r) := c30_app _ _
  have e3 : (fl ((k, b, wdr l w) :: r)).length = (wdr l w).length + (fl r).length := List.length_append
  have e4 : c30 (fl ((k, b, wdr l w) :: r)) = c30 (wdr l w) + c30 (fl r) := c30_app _ _
  have hl1 : ((k, b, w) :: r : FS).length = r.length + 1 := rfl
  have hl2 : ((k, b, wdr l w) :: r : FS).length = r.length + 1 := rfl
  unfold slk at hs
  have hq := hS.2.1
  have hn := hS.1.1
  obtain ⟨s1, s2⟩ := nb_stl l w
  refine m_settle hl hY (by omega) (by omega) (by omega) (by omega) (fun σ' f Y => h σ' ⟨Y, hS.fm f rfl (fun _ => rfl) (fun _ => rfl) rfl rfl rfl rfl, ?_, ?_, ?_⟩)
  · omega
  · omega
  · rw [List.length_append, w0_len]; omega
def PT (σ0 : ab_S) (t : Nat → Nat) (n L p : Nat) (Q : ab_S → Prop) (E : String → ab_S → Prop) (b : Bool) (q : Nat) (fs : FS) (c : List (Nat × Nat)) (e : Nat) : Prop := ∃ f0, ∀ f, f0 ≤ f → ∀ σ, MX σ0 σ t n q L fs c e → wX12_expression_l27 (nI p) Q E f 1 (if b then 1 else 0) 1 σ
def BH (σ0 : ab_S) (t : Nat → Nat) (n L p : Nat) (Q : ab_S → Prop) (E : String → ab_S → Prop) (q : Nat) (fs : FS) (c : List (Nat × Nat)) (e : Nat) : Prop := ∃ f0, ∀ f, f0 ≤ f → ∀ σ, MX σ0 σ t n q L fs c e → wX12_expression_l27 (nI p) Q E f 0 0 1 σ
def AE (σ0 : ab_S) (t : Nat → Nat) (n L p : Nat) (Q : ab_S → Prop) (E : String → ab_S → Prop) (q : Nat) (fs : FS) (c : List (Nat × Nat)) (e : Nat) : Prop := ∃ f0 m0, ∀ f, f0 ≤ f → ∀ m, m0 ≤ m → ∀ σ, MX σ0 σ t n q L fs c e → wX12_endChoices_l5 (KAe (QBh p Q E f) E) E m σ
def FQ (σ0 : ab_S) (L : Nat) (Q : ab_S → Prop) (v : Nat) : Prop := v ≤ 2400 → ∀ σ', FM (SX L) (ab_I σ0 92 44 (nI v)) σ' → Q σ'
theorem o_j27 {R : Int32 → ab_S → Prop} (hS : MS σ t n q) (hb : b = true → tkK t n q ≠ 7) (h : wX12_operand_j27 (nI p) (if b then 1 else 0) R E σ) : wX12_operand (nI p) (if b then 1 else 0) R E σ := by
  have k7 : σ.2.1 92 43 = (4 : Int32) ↔ tkK t n q = 7 := hS.wd (w := 4) (by omega) (by omega)
  unfold wX12_operand
  cases b
  · exact yes rfl h
  · exact no (by decide) (yes (fun z => hb rfl (k7.mp z)) h)
theorem fs_up {f f0 : Nat} (h : f0 + 1 ≤ f) : ∃ g, f = g + 1 ∧ f0 ≤ g := ⟨f - 1, by omega, by omega⟩
theorem st_minus (hc : MCtx σ0 t n p K) (k45 : tkK t n q = 45) (hs : slk 0 ((k, b', w) :: r)) (h1 : e < 10 → PT σ0 t n L p Q E false (nx t n q) ((k, b', 30 :: w) :: r) c (e + 1)) (h0 : e = 10 → FQ σ0 L Q q) : PT σ0 t n L p Q E b q ((k, b', w) :: r) c e := by
  have e1 : (fl ((k, b', w) :: r)).length = w.length + (fl r).length := List.length_append
  have e2 : (fl ((k, b', 30 :: w) :: r)).length = w.length + (fl r).length + 1 := by show (30 :: w ++ fl r).length = _; rw [List.cons_append, List.length_cons, List.length_append]
  have e3 : c30 (fl ((k, b', 30 :: w) :: r)) = 1 + c30 (fl ((k, b', w) :: r)) := rfl
  have hl1 : ((k, b', w) :: r : FS).length = r.length + 1 := rfl
  have hl2 : ((k, b', 30 :: w) :: r : FS).length = r.length + 1 := rfl
  have hgt := nx_gt (t := t) (n := n) (q := q) (by omega)
  unfold slk at hs
  have main : ∀ g σ, MX σ0 σ t n q L ((k, b', w) :: r) c e → (e < 10 → ∀ σ', MX σ0 σ' t n (nx t n q) L ((k, b', 30 :: w) :: r) c (e + 1) → wX12_expression_l27 (nI p) Q E g 1 0 1 σ') → (e = 10 → ∃ g', g = g' + 1) → wX12_expression_l27 (nI p) Q E (g + 1) 1 (if b then 1 else 0) 1 σ := by
    intro g σ hX k1 k0
    obtain ⟨hY, hS, x1, x2, x3⟩ := hX
    have hG := hY.ok hc.1
    have hq := hS.2.1
    have hn := hc.2.2.2.2
    refine e_part hG hS b ?_
    rw [show (if (b = true ∧ tkK t n q = 7) ∨ tkK t n q = 40 then (1 : Int32) else 0) = 0 from if_neg (by omega)]
    unfold wX12_expression_j69
    refine o_j27 hS (fun _ => by omega) ?_
    unfold wX12_operand_j27
    refine no (fun z => z ((hS.sg (w := 45) (by omega) rfl).mpr k45)) ?_
    refine m_deeper hY hS hG x2 (fun he σ1 s1 y1 => ?_) (fun he σ1 s1 y1 => ?_)
    · refine m_hold (x := 30) y1 s1 (by omega) (by omega) (fun σ2 s2 y2 => no (fun z => z rfl) ?_)
      exact k1 he σ2 ⟨y2, s2, by omega, by omega, by omega⟩
    · refine m_hold (x := 30) y1 s1 (by omega) (by omega) (fun σ2 s2 y2 => no (fun z => z rfl) ?_)
      obtain ⟨g', hg'⟩ := k0 he
      subst hg'
      exact e_bad (v := q) (y2.badv (by omega)) (h0 he (by omega) σ2 y2.1)
  by_cases he : e < 10
  · obtain ⟨f0, h1⟩ := h1 he
    refine ⟨f0 + 1, fun f hf σ hX => ?_⟩
    obtain ⟨g, rfl, hg⟩ := fs_up hf
    exact main g σ hX (fun _ => h1 g hg) (fun z => by omega)
  · refine ⟨2, fun f hf σ hX => ?_⟩
    obtain ⟨g, rfl, hg⟩ := fs_up (f0 := 1) hf
    exact main g σ hX (fun z => absurd z he) (fun _ => ⟨g - 1, by omega⟩)
/-- if, ( : x the frame's kind -/
theorem st_frame (hc : MCtx σ0 t n p K) {x : Nat} (hx : (x = 2 ∧ b = true ∧ tkK t n q = 7) ∨ (x = 1 ∧ tkK t n q = 40)) (hs : slk 0 fs) (h1 : e < 10 → PT σ0 t n L p Q E true (nx t n q) ((x, false, []) :: fs) c (e + 1)) (h0 : e = 10 → FQ σ0 L Q q) : PT σ0 t n L p Q E b q fs c e := by
  have e2 : fl ((x, false, []) :: fs) = fl fs := rfl
  have hl2 : ((x, false, []) :: fs : FS).length = fs.length + 1 := rfl
  have hgt := nx_gt (t := t) (n := n) (q := q) (by omega)
  unfold slk at hs
  have main : ∀ g σ, MX σ0 σ t n q L fs c e → (e < 10 → ∀ σ', MX σ0 σ' t n (nx t n q) L ((x, false, []) :: fs) c (e + 1) → wX12_expression_l27 (nI p) Q E g 1 1 1 σ') → (e = 10 → ∃ g', g = g' + 1) → wX12_expression_l27 (nI p) Q E (g + 1) 1 (if b then 1 else 0) 1 σ := by
    intro g σ hX k1 k0
    obtain ⟨hY, hS, x1, x2, x3⟩ := hX
    have hG := hY.ok hc.1
    have hq := hS.2.1
    have hn := hc.2.2.2.2
    refine e_part hG hS b ?_
    rw [show (if (b = true ∧ tkK t n q = 7) ∨ tkK t n q = 40 then (1 : Int32) else 0) = 1 from if_pos (by rcases hx with z | z; exact Or.inl z.2; exact Or.inr z.2)]
    unfold wX12_expression_j69
    have go : wX12_deeper (fun σ13 => wX12_frame (nI x) (fun σ14 => wX12_advance (fun σ15 => (¬ (0 : Int32) = 0 → wX12_expression_j92 (nI p) Q E (wX12_expression_l27 (nI p) Q E g) 1 1 (0 : Int32) σ15) ∧ (¬ (¬ (0 : Int32) = 0) → wX12_expression_j92 (nI p) Q E (wX12_expression_l27 (nI p) Q E g) 1 1 (1 : Int32) σ15)) E σ14) E σ13) E σ := by
      refine m_deeper hY hS hG x2 (fun he σ1 s1 y1 => ?_) (fun he σ1 s1 y1 => ?_)
      · refine m_frame y1 s1 (by omega) (by omega) (fun σ2 s2 y2 => m_next s2 (fun σ3 f3 s3 => no (fun z => z rfl) ?_))
        exact k1 he σ3 ⟨y2.adv f3, s3, by rw [e2]; omega, by omega, by rw [e2]; omega⟩
      · refine m_frame y1 s1 (by omega) (by omega) (fun σ2 s2 y2 => m_next s2 (fun σ3 f3 s3 => no (fun z => z rfl) ?_))
        obtain ⟨g', hg'⟩ := k0 he
        subst hg'
        have y3 := y2.adv f3
        exact e_bad (v := q) (y3.badv (by omega)) (h0 he (by omega) σ3 y3.1)
    rcases hx with ⟨hx1, hb, k7⟩ | ⟨hx1, k40⟩
    · subst hx1
      subst hb
      unfold wX12_operand
      exact no (by decide) (no (fun z => z ((hS.wd (w := 4) (by omega) (by omega)).mpr k7)) go)
    · subst hx1
      refine o_j27 hS (fun _ => by omega) ?_
      unfold wX12_operand_j27
      have n45 : ¬ σ.2.1 92 40 = (14 : Int32) := fun z => by have := (hS.sg (w := 45) (by omega) rfl).mp z; omega
      exact yes n45 (no (fun z => z ((hS.sg (w := 40) (by omega) rfl).mpr k40)) go)
  by_cases he : e < 10
  · obtain ⟨f0, h1⟩ := h1 he
    refine ⟨f0 + 1, fun f hf σ hX => ?_⟩
    obtain ⟨g, rfl, hg⟩ := fs_up hf
    exact main g σ hX (fun _ => h1 g hg) (fun z => by omega)
  · refine ⟨2, fun f hf σ hX => ?_⟩
    obtain ⟨g, rfl, hg⟩ := fs_up (f0 := 1) hf
    exact main g σ hX (fun z => absurd z he) (fun _ => ⟨g - 1, by omega⟩)
end ML
