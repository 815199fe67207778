/-! ===== order, the model's: what is induced ===== -/
def OM (σ : ab_S) (G : SYT) (P : PRO) (p : Nat) : Prop := p < 30 ∧ P.2.1 ≤ 3 ∧ G.1 ≤ 12 ∧ σ.2.1 103 p = nI P.2.1 ∧ (∀ o, o ≤ P.2.1 → σ.2.1 104 (4 * p + o) = nI (P.2.2.1 o) ∧ P.2.2.1 o < G.1) ∧ ∀ s, s < G.1 → G.2.2.1 s ≤ 8
theorem OM.fm {S : Nat → Nat → Bool} {σ σ' : ab_S} {p : Nat} {G : SYT} {P : PRO} (h : OM σ G P p) (f : FM S σ σ') (s3 : ∀ i, S 103 i = false) (s4 : ∀ i, S 104 i = false) : OM σ' G P p := by
  obtain ⟨b, c, d, e, k, l⟩ := h
  exact ⟨b, c, d, by rw [f.1 _ _ (s3 _)]; exact e, fun o ho => by rw [f.1 _ _ (s4 _)]; exact k o ho, l⟩
theorem MGr.of {σ : ab_S} {Γ : GRT} (hC : MGr σ Γ) (hV : GRV Γ) {p : Nat} (hp : p < Γ.2.1) : OM σ Γ.1 (Γ.2.2.1 p) p := by
  have hpv := (hV.2.2.2 p hp).2.1
  have h30 := hV.2.1
  have hc := hC.2.2.2 p hp
  exact ⟨by omega, hpv.1, hV.1.1, hc.2.1, fun o ho => ⟨hc.2.2.1 o (by omega), hpv.2.1 o ho⟩, fun s hs => (hV.1.2.2 s hs).2.1⟩
def Srm (p : Nat) : Nat → Nat → Bool := fun a i => decide (a = 109 ∧ 32 * p ≤ i ∧ i < 32 * p + 32)
def RwM (σ : ab_S) (p : Nat) (r : MX2) : Prop := ∀ x, x < 32 → B64 (σ.2.2.1 109 (32 * p + x)) (r x)
def InM (σ : ab_S) (I : MX3) : Prop := ∀ s, s < 13 → ∀ a, a < 8 → B64 (σ.2.2.1 110 (8 * s + a)) (I s a)
theorem nmA_take {k : Nat} {m : List (Nat × Nat)} {j : Nat} (hj : j < m.length) (y : Nat) : nmA k (m.take (j + 1)) y = (nmA k (m.take j) y || decide ((m.getD j (0, 0)).1 = k ∧ (m.getD j (0, 0)).2 = y)) := by
  have e : m[j]? = some (m.getD j (0, 0)) := by
    rw [List.getD_eq_getElem?_getD, List.getElem?_eq_getElem hj]; rfl
  rw [List.take_succ, nmA_app, e]
  congr 1
  unfold nmA
  simp
theorem CR_bd {ok : Nat → Prop} {lt : Bool} {h : Nat} {m c : List (Nat × Nat)} (hC : CR ok lt h m c) (hok : ∀ s, ok s → s < 1000000) : (∀ z, z ∈ m → z.1 < 60 ∧ z.2 < 1000000) ∧ ∀ z, z ∈ c → z.1 < 20 := by
  refine hC (fun _ m c => (∀ z, z ∈ m → z.1 < 60 ∧ z.2 < 1000000) ∧ ∀ z, z ∈ c → z.1 < 20) ⟨?_, ?_, ?_, ?_, ?_, ?_, ?_⟩
  · intro v hv
    refine ⟨fun z hz => ?_, fun z hz => ?_⟩ <;> (rw [List.mem_singleton] at hz; subst hz)
    · exact ⟨by show 40 < 60; omega, hv⟩
    · show 0 < 20; omega
  · intro _
    refine ⟨fun z hz => ?_, fun z hz => ?_⟩ <;> (rw [List.mem_singleton] at hz; subst hz) <;> decide
  · intro s hs
    refine ⟨fun z hz => ?_, fun z hz => ?_⟩ <;> (rw [List.mem_singleton] at hz; subst hz)
    · exact ⟨by show 50 < 60; omega, hok s hs⟩
    · show 2 < 20; omega
  · intro h m c ih
    refine ⟨fun z hz => ?_, fun z hz => ?_⟩
    · rcases List.mem_append.mp hz with y | y
      · exact ih.1 z y
      · rw [List.mem_singleton] at y; subst y; decide
    · rcases List.mem_append.mp hz with y | y
      · exact ih.2 z y
      · rw [List.mem_singleton] at y; subst y; decide
  · intro o ho h m c m2 c2 i1 i2
    have hb := bo_lt o ho
    refine ⟨fun z hz => ?_, fun z hz => ?_⟩
    · rcases List.mem_append.mp hz with y | y
      · rcases List.mem_append.mp y with y | y
        · exact i1.1 z y
        · exact i2.1 z y
      · rw [List.mem_singleton] at y; subst y; exact ⟨by show o < 60; omega, by show 0 < 1000000; omega⟩
    · rcases List.mem_append.mp hz with y | y
      · rcases List.mem_append.mp y with y | y
        · exact i1.2 z y
        · exact i2.2 z y
      · rw [List.mem_singleton] at y; subst y; show bo o < 20; omega
  · intro h m1 c1 m2 c2 m3 c3 i1 i2 i3
    refine ⟨fun z hz => ?_, fun z hz => ?_⟩
    · simp only [List.mem_append, List.mem_singleton] at hz
      rcases hz with ((y | y) | y) | y
      · exact i1.1 z y
      · exact i2.1 z y
      · exact i3.1 z y
      · subst y; decide
    · simp only [List.mem_append, List.mem_singleton] at hz
      rcases hz with (((y | y) | y) | y) | y
      · exact i1.2 z y
      · subst y; show 13 < 20; omega
      · exact i2.2 z y
      · subst y; show 14 < 20; omega
      · exact i3.2 z y
  · intro h m c ih; exact ih
theorem gd_mem {m : List (Nat × Nat)} {j : Nat} (hj : j < m.length) : m.getD j (0, 0) ∈ m := by
  have e : m.getD j (0, 0) = m[j] := by rw [List.getD_eq_getElem?_getD, List.getElem?_eq_getElem hj]; rfl
  rw [e]; exact List.getElem_mem hj
section ML
variable {σ : ab_S} {p : Nat} {G : SYT} {P : PRO} {I : MX3} {r : MX2} {E : String → ab_S → Prop}
theorem m_dirL {x : Nat} (hp : p < 30) (hx : x < 32) {fm : Nat} {m : List (Nat × Nat)} (hf : fm + m.length ≤ 2400) (hs : ∀ y, nmA 50 m y = true → y < 32) (hk60 : ∀ z, z ∈ m → z.1 < 60) {Q : ab_S → Prop} {K113 : Int32 → ab_S → Prop} (h6 : σ.2.1 106 (32 * p + x) = nI (fm + m.length)) (hM : MCode σ fm m) (h : ∀ τ, FM (fun a i => decide (a = 109 ∧ i = 32 * p + x)) σ τ → B64 (τ.2.2.1 109 (32 * p + x)) (nmA 50 m) → K113 (nI x) τ) : ∀ f j τ, m.length - j = f → j ≤ m.length → FM (fun a i => decide (a = 109 ∧ i = 32 * p + x)) σ τ → B64 (τ.2.2.1 109 (32 * p + x)) (nmA 50 (m.take j)) → wX12_direct_l32 (nI p) Q E K113 (f + 1) (nI x) (nI (fm + j)) τ := by
  have e32 : (32 : Int32) * nI p + nI x = nI (32 * p + x) := by show nI 32 * nI p + _ = _; rw [nI_mulE, nI_add]
  have ec : (nI (32 * p + x)).toNatClampNeg = 32 * p + x := nI_clampE (by omega)
  have ev : vp_in (nI (32 * p + x)) 992 := by simp (disch := omega) only [nI_lit, nI_add, nI_mulE, nI_clampE, nI_eqE, nI_leE, nI_ltE, vp_nIE, true_and, and_true]; omega
  intro f
  induction f with
  | zero =>
    intro j τ hf2 hj hF hB
    have e : j = m.length := by omega
    show wX12_direct_l32_b _ _ _ _ _ _ _ _
    unfold wX12_direct_l32_b
    rw [e32, ec, hF.1 _ _ (decide_eq_false (by omega)), h6]
    refine no (nI_pos (by omega)) ⟨ev, yes (by simp (disch := omega) only [nI_lit, nI_add, nI_mulE, nI_clampE, nI_eqE, nI_leE, nI_ltE, vp_nIE, true_and, and_true]; omega) (h τ hF ?_)⟩
    rw [e, List.take_length] at hB
    exact hB
  | succ f ih =>
    intro j τ hf2 hj hF hB
    have hj2 : j < m.length := by omega
    obtain ⟨m1, m2⟩ := hM j hj2
    show wX12_direct_l32_b (nI p) Q E K113 (wX12_direct_l32 (nI p) Q E K113 (f + 1)) (nI x) (nI (fm + j)) τ
    unfold wX12_direct_l32_b
    rw [e32, ec, nI_clampE (show fm + j < 2147483648 by omega), hF.1 106 _ (decide_eq_false (by omega)), hF.1 107 _ (decide_eq_false (by omega)), hF.1 108 _ (decide_eq_false (by omega)), h6, m1, m2]
    refine no (nI_pos (by omega)) ⟨ev, no (by simp (disch := omega) only [nI_lit, nI_add, nI_mulE, nI_clampE, nI_eqE, nI_leE, nI_ltE, vp_nIE, true_and, and_true]; omega) ⟨by simp (disch := omega) only [nI_lit, nI_add, nI_mulE, nI_clampE, nI_eqE, nI_leE, nI_ltE, vp_nIE, true_and, and_true]; omega, ?_⟩⟩
    have fin : ∀ v : Int64, B64 v (nmA 50 (m.take (j + 1))) → wX12_direct_j106 (nI p) Q E K113 (wX12_direct_l32 (nI p) Q E K113 (f + 1)) (nI x) (nI (fm + j)) v (nI (32 * p + x)) τ := by
      intro v hv
      unfold wX12_direct_j106
      rw [ec, nI_1]
      refine ⟨ev, fe (fe (ih (j + 1) _ (by omega) (by omega) (hF.L (decide_eq_true ⟨rfl, rfl⟩)) ?_))⟩
      rw [gL_L, if_pos rfl, if_pos rfl]; exact hv
    by_cases hk : (m.getD j (0, 0)).1 = 50
    · have hs32 : (m.getD j (0, 0)).2 < 32 := hs _ (by
        have := nmA_take (k := 50) hj2 (m.getD j (0, 0)).2
        rw [decide_eq_true ⟨hk, rfl⟩, Bool.or_true] at this
        have h2 : nmA 50 (m.take (j + 1) ++ m.drop (j + 1)) (m.getD j (0, 0)).2 = true := by rw [nmA_app, this]; rfl
        rw [List.take_append_drop] at h2; exact h2)
      refine no (fun z => z (by rw [hk]; rfl)) ⟨ev, by simp (disch := omega) only [nI_lit, nI_add, nI_mulE, nI_clampE, nI_eqE, nI_leE, nI_ltE, vp_nIE, true_and, and_true]; omega, fin _ ?_⟩
      refine (hB.or (B64.one hs32)).cg (fun i _ => ?_)
      rw [nmA_take hj2]
      congr 1
      by_cases z : i = (m.getD j (0, 0)).2
      · rw [decide_eq_true z, decide_eq_true ⟨hk, z.symm⟩]
      · rw [decide_eq_false z, decide_eq_false (fun w => z w.2.symm)]
    · have h60 := hk60 _ (gd_mem hj2)
      refine yes (by show ¬ nI _ = nI 50; rw [nI_eqE (by omega) (by omega)]; exact hk) ⟨ev, fin _ ?_⟩
      refine hB.cg (fun i _ => ?_)
      rw [nmA_take hj2, decide_eq_false (fun w => hk w.1), Bool.or_false]
/-- what the rules of p name -/
theorem m_dir {Γ : GRT} (hV : GRV Γ) (hp : p < Γ.2.1) (hlm : Γ.2.2.2.1 ≤ 2400) (hM : MPo σ p (Γ.2.2.1 p) ((Γ.2.2.1 p).2.1 + 1)) {Q : ab_S → Prop} (h : ∀ τ, FM (Srm p) σ τ → RwM τ p (nmd Γ p) → Q τ) : wX12_direct (nI p) Q E σ := by
  have h30 := hV.2.1
  have hpv := (hV.2.2.2 p hp).2.1
  refine ⟨33, ?_⟩
  suffices H : ∀ f x τ, 32 - x = f → x ≤ 32 → FM (Srm p) σ τ → (∀ y, y < x → B64 (τ.2.2.1 109 (32 * p + y)) (nmd Γ p y)) → wX12_direct_l2 (nI p) Q E (f + 1) (nI x) τ from H 32 0 σ rfl (by omega) (FM.rf _ _) (fun y hy => absurd hy (by omega))
  intro f
  induction f with
  | zero =>
    intro x τ hf hx hF hB
    exact yes (by simp (disch := omega) only [nI_lit, nI_add, nI_mulE, nI_clampE, nI_eqE, nI_leE, nI_ltE, vp_nIE, true_and, and_true]; omega) (h τ hF (fun y hy => hB y (by omega)))
  | succ f ih =>
    intro x τ hf hx hF hB
    have e32 : (32 : Int32) * nI p + nI x = nI (32 * p + x) := by show nI 32 * nI p + _ = _; rw [nI_mulE, nI_add]
    have ev : vp_in (nI (32 * p + x)) 992 := by simp (disch := omega) only [nI_lit, nI_add, nI_mulE, nI_clampE, nI_eqE, nI_leE, nI_ltE, vp_nIE, true_and, and_true]; omega
    show wX12_direct_l2_b (nI p) Q E (wX12_direct_l2 (nI p) Q E (f + 1)) (nI x) τ
    unfold wX12_direct_l2_b
    rw [e32, nI_clampE (by omega)]
    refine no (by simp (disch := omega) only [nI_lit, nI_add, nI_mulE, nI_clampE, nI_eqE, nI_leE, nI_ltE, vp_nIE, true_and, and_true]; omega) ⟨ev, fe ⟨ev, ?_⟩⟩
    generalize hτ : ab_L τ 109 (32 * p + x) 0 = τ1
    have F1 : FM (Srm p) σ τ1 := by rw [← hτ]; exact hF.L (decide_eq_true (by omega))
    have z1 : B64 (τ1.2.2.1 109 (32 * p + x)) (fun _ => false) := by rw [← hτ, gL_L, if_pos rfl, if_pos rfl]; exact B64.z
    have o1 : ∀ y, y < x → B64 (τ1.2.2.1 109 (32 * p + y)) (nmd Γ p y) := fun y hy => by rw [← hτ, gL_L, if_pos rfl, if_neg (by omega)]; exact hB y hy
    have next : ∀ τ2, FM (fun a i => decide (a = 109 ∧ i = 32 * p + x)) τ1 τ2 → B64 (τ2.2.2.1 109 (32 * p + x)) (nmd Γ p x) → wX12_direct_j113 (nI p) Q E (wX12_direct_l2 (nI p) Q E (f + 1)) (nI x) τ2 := by
      intro τ2 F2 B2
      unfold wX12_direct_j113
      rw [nI_1]
      refine fe (ih (x + 1) τ2 (by omega) (by omega) (F1.tr (F2.mono (fun a i y => by have y := of_decide_eq_false y; exact decide_eq_false (by omega)))) (fun y hy => ?_))
      by_cases e : y = x
      · rw [e]; exact B2
      · rw [F2.2.1 _ _ (decide_eq_false (by omega))]; exact o1 y (by omega)
    rw [F1.1 105 _ (decide_eq_false (by omega))]
    cases hd : (Γ.2.2.1 p).2.2.2.2.1 x
    · rw [(hM.2.2.2.2 x (by omega)).2 hd]
      refine fe ⟨1, ?_⟩
      show wX12_direct_l32_b _ _ _ _ _ _ _ _
      unfold wX12_direct_l32_b
      refine yes (by decide) (next τ1 (FM.rf _ _) (z1.cg (fun i _ => ?_)))
      rw [nmd_A, hd]; rfl
    · obtain ⟨a1, a2, a3⟩ := (hM.2.2.2.2 x (by omega)).1 hd
      obtain ⟨b1, b2, b3, b4, b5⟩ := hpv.2.2 x hd
      have hnm := CR_nm b5
      have hbd := CR_bd b5 (fun s hs => by have h1 : s / 8 ≤ (Γ.2.2.1 p).2.1 := hs.1; have := hpv.1; omega)
      rw [a1]
      refine fe ⟨((Γ.2.2.1 p).2.2.2.2.2 x).2.1.length + 1, ?_⟩
      refine m_dirL (σ := τ1) (by omega) (by omega) (by omega) (fun y hy => nmd_32 hV hp hd y (by rw [← hnm.1]; exact hy)) (fun z hz => (hbd.1 z hz).1) (by rw [F1.1 106 _ (decide_eq_false (by omega))]; exact a2) (a3.keep (fun i _ => ⟨F1.1 107 _ (decide_eq_false (by omega)), F1.1 108 _ (decide_eq_false (by omega))⟩)) (fun τ2 F2 B2 => next τ2 F2 (B2.cg (fun i _ => ?_))) _ 0 τ1 rfl (Nat.zero_le _) (FM.rf _ _) (z1.cg (fun i _ => ?_))
      · rw [nmd_A, hd, hnm.1]; rfl
      · rw [List.take_zero]; rfl
theorem m_foL (hp : p < 30) {y : Nat} (hy : y < 32) {Q : ab_S → Prop} {K90 : Int32 → ab_S → Prop} (h : ∀ τ, FM (Srm p) σ τ → RwM τ p (oW y r) → K90 (nI y) τ) : ∀ f x τ, 32 - x = f → x ≤ 32 → FM (Srm p) σ τ → RwM τ p (mixf x (oW y r) r) → wX12_follow_l10 (nI p) Q E K90 (f + 1) (nI y) (nI x) τ := by
  intro f
  induction f with
  | zero =>
    intro x τ hf hx hF hR
    refine yes (by simp (disch := omega) only [nI_lit, nI_add, nI_mulE, nI_clampE, nI_eqE, nI_leE, nI_ltE, vp_nIE, true_and, and_true]; omega) (h τ hF (fun x' hx' => ?_))
    have := hR x' hx'
    rw [mixf_l (by omega)] at this; exact this
  | succ f ih =>
    intro x τ hf hx hF hR
    have hrx := hR x (by omega)
    have hry := hR y (by omega)
    rw [mixf_r (by omega)] at hrx
    have hry' : B64 (τ.2.2.1 109 (32 * p + y)) (r y) := by
      by_cases z : y < x
      · rw [mixf_l z] at hry
        refine hry.cg (fun w _ => ?_)
        unfold oW
        cases r y w <;> simp
      · rw [mixf_r z] at hry; exact hry
    have e32 : ∀ z : Nat, (32 : Int32) * nI p + nI z = nI (32 * p + z) := fun z => by show nI 32 * nI p + _ = _; rw [nI_mulE, nI_add]
    have ev : vp_in (nI (32 * p + x)) 992 := by simp (disch := omega) only [nI_lit, nI_add, nI_mulE, nI_clampE, nI_eqE, nI_leE, nI_ltE, vp_nIE, true_and, and_true]; omega
    have evy : vp_in (nI (32 * p + y)) 992 := by simp (disch := omega) only [nI_lit, nI_add, nI_mulE, nI_clampE, nI_eqE, nI_leE, nI_ltE, vp_nIE, true_and, and_true]; omega
    have ec : (nI (32 * p + x)).toNatClampNeg = 32 * p + x := nI_clampE (by omega)
    show wX12_follow_l10_b (nI p) Q E K90 (wX12_follow_l10 (nI p) Q E K90 (f + 1)) (nI y) (nI x) τ
    unfold wX12_follow_l10_b
    rw [e32, e32, ec, nI_clampE (show 32 * p + y < 2147483648 by omega)]
    have hbit := hrx.bit (y := y) (by omega)
    have fin : ∀ v : Int64, B64 v (oW y r x) → wX12_follow_j83 (nI p) Q E K90 (wX12_follow_l10 (nI p) Q E K90 (f + 1)) (nI y) (nI x) v (nI (32 * p + x)) τ := by
      intro v hv
      unfold wX12_follow_j83
      rw [ec, nI_1]
      refine ⟨ev, fe (fe (ih (x + 1) _ (by omega) (by omega) (hF.L (decide_eq_true (by omega))) (fun x' hx' => ?_)))⟩
      rw [gL_L, if_pos rfl]
      by_cases e : x' = x
      · subst e; rw [if_pos rfl, mixf_l (by omega)]; exact hv
      · rw [if_neg (by omega)]
        have := hR x' hx'
        by_cases z : x' < x
        · rw [mixf_l z] at this; rw [mixf_l (by omega)]; exact this
        · rw [mixf_r z] at this; rw [mixf_r (by omega)]; exact this
    refine no (by simp (disch := omega) only [nI_lit, nI_add, nI_mulE, nI_clampE, nI_eqE, nI_leE, nI_ltE, vp_nIE, true_and, and_true]; omega) ⟨ev, ?_⟩
    by_cases hb : r x y = true
    · refine no (fun z => z (hbit.mpr hb)) ⟨ev, evy, fin _ ?_⟩
      refine (hrx.or hry').cg (fun w _ => ?_)
      unfold oW
      rw [hb, Bool.true_and]
    · refine yes (fun z => hb (hbit.mp z)) ⟨ev, fin _ ?_⟩
      refine hrx.cg (fun w _ => ?_)
      unfold oW
      rw [show r x y = false by simpa using hb, Bool.false_and, Bool.or_false]
theorem m_fo (hp : p < 30) (hR : RwM σ p r) {Q : ab_S → Prop} (h : ∀ τ, FM (Srm p) σ τ → RwM τ p (oCl 32 r) → Q τ) : wX12_follow (nI p) Q E σ := by
  refine ⟨33, ?_⟩
  suffices H : ∀ f y τ, 32 - y = f → y ≤ 32 → FM (Srm p) σ τ → RwM τ p (oCl y r) → wX12_follow_l2 (nI p) Q E (f + 1) (nI y) τ from H 32 0 σ rfl (Nat.zero_le _) (FM.rf _ _) hR
  intro f
  induction f with
  | zero =>
    intro y τ hf hy hF hr
    have e : y = 32 := by omega
    subst e
    exact yes (by simp (disch := omega) only [nI_lit, nI_add, nI_mulE, nI_clampE, nI_eqE, nI_leE, nI_ltE, vp_nIE, true_and, and_true]; omega) (h τ hF hr)
  | succ f ih =>
    intro y τ hf hy hF hr
    show wX12_follow_l2_b (nI p) Q E (wX12_follow_l2 (nI p) Q E (f + 1)) (nI y) τ
    unfold wX12_follow_l2_b
    refine no (by simp (disch := omega) only [nI_lit, nI_add, nI_mulE, nI_clampE, nI_eqE, nI_leE, nI_ltE, vp_nIE, true_and, and_true]; omega) ⟨33, ?_⟩
    refine m_foL hp (by omega) (fun τ2 F2 R2 => ?_) 32 0 τ rfl (Nat.zero_le _) (FM.rf _ _) (fun x hx => by rw [mixf_r (by omega)]; exact hr x hx)
    unfold wX12_follow_j90
    rw [nI_1]
    exact fe (ih (y + 1) τ2 (by omega) (by omega) (hF.tr F2) R2)
end ML
