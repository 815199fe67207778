/-! ===== the machine, the model's ===== -/
def MSk (σ : ab_S) : List (Nat × Nat) → Prop
  | [] => True
  | z :: r => σ.2.1 154 r.length = nI z.1 ∧ (r ≠ [] → σ.2.1 155 r.length = abI z.2) ∧ MSk σ r
def MVs (σ : ab_S) : List VL8 → Prop
  | [] => True
  | v :: s => σ.2.1 157 s.length = vI v ∧ σ.2.1 158 s.length = vB v ∧ MVs σ s
theorem MSk.cg {σ τ : ab_S} : ∀ {r}, MSk σ r → (∀ i, i < r.length → τ.2.1 154 i = σ.2.1 154 i ∧ τ.2.1 155 i = σ.2.1 155 i) → MSk τ r
  | [], _, _ => trivial
  | z :: r, h, k => ⟨by rw [(k _ (by rw [List.length_cons]; omega)).1]; exact h.1, fun hr => by rw [(k _ (by rw [List.length_cons]; omega)).2]; exact h.2.1 hr, MSk.cg h.2.2 (fun i hi => k i (by rw [List.length_cons]; omega))⟩
theorem MVs.cg {σ τ : ab_S} : ∀ {r}, MVs σ r → (∀ i, i < r.length → τ.2.1 157 i = σ.2.1 157 i ∧ τ.2.1 158 i = σ.2.1 158 i) → MVs τ r
  | [], _, _ => trivial
  | z :: r, h, k => ⟨by rw [(k _ (by rw [List.length_cons]; omega)).1]; exact h.1, by rw [(k _ (by rw [List.length_cons]; omega)).2]; exact h.2.1, MVs.cg h.2.2 (fun i hi => k i (by rw [List.length_cons]; omega))⟩
def mPc (σ : ab_S) (c : Nat) : Prop := σ.2.1 92 84 = abI c
def mSkk (σ : ab_S) (sk : List (Nat × Nat)) : Prop := σ.2.1 92 86 = nI sk.length ∧ MSk σ sk
def mVi (σ : ab_S) (T : TST) (vi : Nat → Nat) : Prop := ∀ m, m < T.N → σ.2.1 156 m = nI (vi m)
def mPi (σ : ab_S) (vs : List VL8) : Prop := σ.2.1 92 90 = nI vs.length ∧ MVs σ vs
def mVa (σ : ab_S) (va : Nat → VL8) : Prop := ∀ i, i < 104 → σ.2.1 159 i = vI (va i) ∧ σ.2.1 160 i = vB (va i)
def mKp (σ : ab_S) (kp : Nat → Nat → VL8) : Prop := ∀ m a, m < 250 → a < 8 → σ.2.1 161 (8 * m + a) = vI (kp m a) ∧ σ.2.1 162 (8 * m + a) = vB (kp m a)
/-- the model's machine -/
def RMd (σ : ab_S) (T : TST) (S : MST) : Prop := mPc σ S.pc ∧ mSkk σ S.sk ∧ mVi σ T S.vi ∧ mPi σ S.vs ∧ mVa σ S.va ∧ mKp σ S.kp
def SMm : Nat → Nat → Bool := fun a i => decide ((a = 92 ∧ (i = 84 ∨ i = 85 ∨ i = 86 ∨ i = 90)) ∨ (154 ≤ a ∧ a ≤ 162))
section MM
variable {σ τ : ab_S} {S : Nat → Nat → Bool} {E : String → ab_S → Prop} {Q : ab_S → Prop} {T : TST} {Γ : GRT}
theorem mPc.fm {c : Nat} (h : mPc σ c) (f : FM S σ τ) (s : S 92 84 = false) : mPc τ c := by unfold mPc; rw [f.1 _ _ s]; exact h
theorem mSkk.fm {sk : List (Nat × Nat)} (h : mSkk σ sk) (f : FM S σ τ) (s : S 92 86 = false) (s2 : ∀ a i, a = 154 ∨ a = 155 → S a i = false) : mSkk τ sk := ⟨by rw [f.1 _ _ s]; exact h.1, h.2.cg (fun i _ => ⟨f.1 _ _ (s2 _ _ (Or.inl rfl)), f.1 _ _ (s2 _ _ (Or.inr rfl))⟩)⟩
theorem mVi.fm {vi : Nat → Nat} (h : mVi σ T vi) (f : FM S σ τ) (s : ∀ i, S 156 i = false) : mVi τ T vi := fun m hm => by rw [f.1 _ _ (s _)]; exact h m hm
theorem mPi.fm {vs : List VL8} (h : mPi σ vs) (f : FM S σ τ) (s : S 92 90 = false) (s2 : ∀ a i, a = 157 ∨ a = 158 → S a i = false) : mPi τ vs := ⟨by rw [f.1 _ _ s]; exact h.1, h.2.cg (fun i _ => ⟨f.1 _ _ (s2 _ _ (Or.inl rfl)), f.1 _ _ (s2 _ _ (Or.inr rfl))⟩)⟩
theorem mVa.fm {va : Nat → VL8} (h : mVa σ va) (f : FM S σ τ) (s2 : ∀ a i, a = 159 ∨ a = 160 → S a i = false) : mVa τ va := fun i hi => ⟨by rw [f.1 _ _ (s2 _ _ (Or.inl rfl))]; exact (h i hi).1, by rw [f.1 _ _ (s2 _ _ (Or.inr rfl))]; exact (h i hi).2⟩
theorem mKp.fm {kp : Nat → Nat → VL8} (h : mKp σ kp) (f : FM S σ τ) (s2 : ∀ a i, a = 161 ∨ a = 162 → S a i = false) : mKp τ kp := fun m a hm ha => ⟨by rw [f.1 _ _ (s2 _ _ (Or.inl rfl))]; exact (h m a hm ha).1, by rw [f.1 _ _ (s2 _ _ (Or.inr rfl))]; exact (h m a hm ha).2⟩
def SPs : Nat → Nat → Bool := fun a i => decide ((a = 92 ∧ i = 90) ∨ a = 157 ∨ a = 158)
theorem m_push {vs : List VL8} {v : VL8} {u w : Int32} (hR : mPi σ vs) (hl : vs.length ≤ 40) (hw : w = vB v) (hu : ∀ x, v = some x → u = x) (k : ∀ τ, FM SPs σ τ → mPi τ (v :: vs) → Q τ) : wX12_pushes u w Q E σ := by
  have ec : (nI vs.length).toNatClampNeg = vs.length := nI_clampE (by omega)
  have ev : vp_in (nI vs.length) 3000 := by simp (disch := omega) only [nI_lit, nI_add, nI_mulE, nI_clampE, nI_eqE, nI_leE, nI_ltE, vp_nIE, true_and, and_true]; omega
  have fin : wX12_pushes_j17 u w Q E (vI v) (nI vs.length) σ := by
    unfold wX12_pushes_j17
    rw [ec, hw, vB_n]
    refine ⟨ev, fe ?_⟩
    rw [gI_o (by decide), hR.1, ec]
    refine ⟨ev, fe ?_⟩
    rw [gI_o (by decide), gI_o (by decide), hR.1, nI_1]
    refine fe (k _ ((((FM.rf _ σ).I (decide_eq_true (by omega))).I (decide_eq_true (by omega))).I (decide_eq_true (by omega))) ⟨by rw [gI_s, if_pos rfl]; rfl, ?_, ?_, hR.2.cg (fun i hi => ?_)⟩)
    · rw [gI_o (by decide), gI_o (by decide), gI_s, if_pos rfl]
    · rw [gI_o (by decide), gI_s, if_pos rfl]
    · refine ⟨?_, ?_⟩
      · rw [gI_o (by decide), gI_o (by decide), gI_s, if_neg (by omega)]
      · rw [gI_o (by decide), gI_s, if_neg (by omega), gI_o (by decide)]
  unfold wX12_pushes
  rw [hR.1]
  cases hv : v with
  | none =>
    rw [hv] at hw fin
    exact no (by rw [hw]; decide) fin
  | some x =>
    rw [hv] at hw fin
    have hux : u = vI (some x) := hu x hv
    rw [← hux] at fin
    exact yes (by rw [hw]; rfl) fin
theorem mPi.pop {v : VL8} {vs : List VL8} (h : mPi σ (v :: vs)) (hl : vs.length < 1000) : σ.2.1 92 90 - (1 : Int32) = nI vs.length ∧ σ.2.1 157 vs.length = vI v ∧ σ.2.1 158 vs.length = vB v ∧ mPi (ab_I σ 92 90 (nI vs.length)) vs := by
  refine ⟨?_, h.2.1, h.2.2.1, by rw [gI_s, if_pos rfl], h.2.2.2.cg (fun i _ => ⟨gI_o (by decide), gI_o (by decide)⟩)⟩
  rw [h.1, List.length_cons]
  show _ - nI 1 = _
  rw [nI_subE (by omega)]; congr 1
theorem bo_r {k : Nat} (h1 : 7 ≤ k) (h2 : k ≤ 12) : ∃ o, o ∈ mops ∧ bo o = k := by
  have : k = 7 ∨ k = 8 ∨ k = 9 ∨ k = 10 ∨ k = 11 ∨ k = 12 := by omega
  rcases this with h | h | h | h | h | h
  · exact ⟨13, by decide, by rw [h]; decide⟩
  · exact ⟨14, by decide, by rw [h]; decide⟩
  · exact ⟨15, by decide, by rw [h]; decide⟩
  · exact ⟨16, by decide, by rw [h]; decide⟩
  · exact ⟨17, by decide, by rw [h]; decide⟩
  · exact ⟨4, by decide, by rw [h]; decide⟩
theorem m_w86 {o : Nat} (ho : o ∈ mops) {c a : VL8} {vs : List VL8} (hR : mPi σ (c :: a :: vs)) (hl : vs.length ≤ 34) {a0 : Int32} (k : ∀ τ, FM SPs σ τ → mPi τ (vbin (bo o) a c :: vs) → Q τ) : wX12_works_j86 a0 Q E (nI o) σ := by
  have hob : o = 13 ∨ o = 14 ∨ o = 15 ∨ o = 16 ∨ o = 17 ∨ o = 4 := by simpa [mops] using ho
  obtain ⟨r1, r2, r3, r4, r5, r6⟩ := hR
  have r1 : σ.2.1 92 90 = nI (vs.length + 2) := r1
  have r2 : σ.2.1 157 (vs.length + 1) = vI c := r2
  have r3 : σ.2.1 158 (vs.length + 1) = vB c := r3
  have e2 : nI (vs.length + 2) - (2 : Int32) = nI vs.length := by show _ - nI 2 = _; rw [nI_subE (by omega)]; congr 1
  unfold wX12_works_j86
  rw [r1, e2]
  refine fe ?_
  generalize hσ1 : ab_I σ 92 90 (nI vs.length) = σ1
  have F1 : FM SPs σ σ1 := by rw [← hσ1]; exact (FM.rf _ σ).I (decide_eq_true (by omega))
  have P1 : mPi σ1 vs := by rw [← hσ1]; exact ⟨by rw [gI_s, if_pos rfl], r6.cg (fun i _ => ⟨gI_o (by decide), gI_o (by decide)⟩)⟩
  rw [show σ.2.1 157 vs.length = σ1.2.1 157 vs.length by rw [← hσ1, gI_o (by decide)]] at r4
  rw [show σ.2.1 158 vs.length = σ1.2.1 158 vs.length by rw [← hσ1, gI_o (by decide)]] at r5
  rw [show σ.2.1 157 (vs.length + 1) = σ1.2.1 157 (vs.length + 1) by rw [← hσ1, gI_o (by decide)]] at r2
  rw [show σ.2.1 158 (vs.length + 1) = σ1.2.1 158 (vs.length + 1) by rw [← hσ1, gI_o (by decide)]] at r3
  clear hσ1
  have ec : (nI vs.length).toNatClampNeg = vs.length := nI_clampE (by omega)
  have ec1 : (nI (vs.length + 1)).toNatClampNeg = vs.length + 1 := nI_clampE (by omega)
  have ev : vp_in (nI vs.length) 3000 := by simp (disch := omega) only [nI_lit, nI_add, nI_mulE, nI_clampE, nI_eqE, nI_leE, nI_ltE, vp_nIE, true_and, and_true]; omega
  have ev1 : vp_in (nI (vs.length + 1)) 3000 := by simp (disch := omega) only [nI_lit, nI_add, nI_mulE, nI_clampE, nI_eqE, nI_leE, nI_ltE, vp_nIE, true_and, and_true]; omega
  have bad : vbin (bo o) a c = none → wX12_works_j143 a0 Q E (nI o) σ1 := by
    intro hb
    unfold wX12_works_j143 wX12_works_j148 wX12_works_j183
    refine no (by decide) (m_push P1 (by omega) (v := vbin (bo o) a c) (by rw [hb]; rfl) (fun x hx => by rw [hb] at hx; exact nomatch hx) (fun τ F P => k τ (F1.tr F) P))
  have good : ∀ xa xc, a = some xa → c = some xc → ¬ (o = 16 ∧ xc = 0) → wX12_works_j147 a0 Q E (nI o) σ1 := by
    intro xa xc ha hc hq
    rw [ha] at r4; rw [hc] at r2
    unfold wX12_works_j147 wX12_works_j148
    rw [P1.1, nI_1, ec, ec1, r4, r2]
    refine yes rfl ⟨ev, ev1, m_two ho (fun u hu => ?_)⟩
    unfold wX12_works_j183
    refine m_push P1 (by omega) (v := vbin (bo o) a c) ?_ (fun x hx => hu x (by rw [ha, hc] at hx; exact hx)) (fun τ F P => k τ (F1.tr F) P)
    rw [ha, hc]
    exact ((vB_0).mpr (vbin_some ho hq)).symm
  rw [P1.1, nI_1, ec, ec1, r5, r3]
  refine ⟨ev, ?_⟩
  cases ha : a with
  | none => exact yes (by decide) (bad (vbin_none (Or.inl ha)))
  | some xa =>
    refine no (fun q => q rfl) ⟨ev1, ?_⟩
    cases hc : c with
    | none => exact yes (by decide) (bad (vbin_none (Or.inr hc)))
    | some xc =>
      refine no (fun q => q rfl) ?_
      by_cases k16 : o = 16
      · refine no (fun q => q (by rw [k16]; rfl)) ⟨ev1, ?_⟩
        rw [hc] at r2
        have r2 : σ1.2.1 157 (vs.length + 1) = xc := r2
        rw [r2]
        by_cases kb : xc = 0
        · refine no (fun q => q kb) (bad ?_)
          rw [ha, hc, k16]
          show (if xc = 0 then none else some (xa / xc)) = none
          rw [if_pos kb]
        · exact yes kb (good xa xc ha hc (fun q => kb q.2))
      · exact yes (by show ¬ nI _ = nI 16; rw [nI_eqE (by omega) (by omega)]; exact k16) (good xa xc ha hc (fun q => k16 q.1))
theorem m_works {kd : Nat} (h6 : 6 ≤ kd) (h12 : kd ≤ 12) {vs vs' : List VL8} (hR : mPi σ vs) (hl : vs.length ≤ 34) (hv6 : kd = 6 → ∃ a s, vs = a :: s ∧ vs' = vneg a :: s) (hv7 : 7 ≤ kd → ∃ c a s, vs = c :: a :: s ∧ vs' = vbin kd a c :: s) (k : ∀ τ, FM SPs σ τ → mPi τ vs' → Q τ) : wX12_works (nI kd) Q E σ := by
  unfold wX12_works
  by_cases e6 : kd = 6
  · obtain ⟨a, s, e1, e2⟩ := hv6 e6
    rw [e1] at hR hl
    rw [List.length_cons] at hl
    obtain ⟨q1, q2, q3, q4⟩ := hR.pop (by omega)
    rw [q1, nI_clampE (show s.length < 2147483648 by omega)]
    refine no (fun q => q (by rw [e6]; rfl)) ⟨by simp (disch := omega) only [nI_lit, nI_add, nI_mulE, nI_clampE, nI_eqE, nI_leE, nI_ltE, vp_nIE, true_and, and_true]; omega, by simp (disch := omega) only [nI_lit, nI_add, nI_mulE, nI_clampE, nI_eqE, nI_leE, nI_ltE, vp_nIE, true_and, and_true]; omega, fe ?_⟩
    rw [e2] at k
    refine k _ ((FM.rf _ σ).I (decide_eq_true (by omega))) ⟨by rw [gI_o (by decide), hR.1]; rfl, ?_, ?_, hR.2.2.2.cg (fun i hi => ⟨by rw [gI_s, if_neg (by omega)], gI_o (by decide)⟩)⟩
    · rw [gI_s, if_pos rfl, q2]
      cases a with
      | none => decide
      | some x => show -x = 0 - x; exact (Int32.zero_sub x).symm
    · rw [gI_o (by decide), q3]
      cases a <;> rfl
  · obtain ⟨c, a, s, e1, e2⟩ := hv7 (by omega)
    rw [e1] at hR hl
    rw [e2] at k
    have hl : s.length + 2 ≤ 34 := hl
    have ne : ∀ x, x < 100 → kd ≠ x → ¬ nI kd = nI x := fun x hx hne => by rw [nI_eqE (by omega) (by omega)]; exact hne
    refine yes (ne 6 (by omega) e6) ?_
    by_cases e7 : kd = 7
    · rw [show kd = bo 13 by rw [e7]; decide] at k
      exact no (fun q => q (by rw [e7]; rfl)) (m_w86 (o := 13) (by decide) hR (by omega) k)
    refine yes (ne 7 (by omega) e7) ?_
    by_cases e8 : kd = 8
    · rw [show kd = bo 14 by rw [e8]; decide] at k
      exact no (fun q => q (by rw [e8]; rfl)) (m_w86 (o := 14) (by decide) hR (by omega) k)
    refine yes (ne 8 (by omega) e8) ?_
    by_cases e9 : kd = 9
    · rw [show kd = bo 15 by rw [e9]; decide] at k
      exact no (fun q => q (by rw [e9]; rfl)) (m_w86 (o := 15) (by decide) hR (by omega) k)
    refine yes (ne 9 (by omega) e9) ?_
    by_cases e10 : kd = 10
    · rw [show kd = bo 16 by rw [e10]; decide] at k
      exact no (fun q => q (by rw [e10]; rfl)) (m_w86 (o := 16) (by decide) hR (by omega) k)
    refine yes (ne 10 (by omega) e10) ?_
    by_cases e11 : kd = 11
    · rw [show kd = bo 17 by rw [e11]; decide] at k
      exact no (fun q => q (by rw [e11]; rfl)) (m_w86 (o := 17) (by decide) hR (by omega) k)
    · rw [show kd = bo 4 by rw [show kd = 12 by omega]; decide] at k
      exact yes (ne 11 (by omega) e11) (m_w86 (o := 4) (by decide) hR (by omega) k)
end MM
