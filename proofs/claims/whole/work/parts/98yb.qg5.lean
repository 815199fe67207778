/-! ===== visit ===== -/
theorem b_add256 {u w : Int32} {f h : Nat → Bool} (hu : B32 u f) (hw : B32 w h) (f8 : ∀ i, 8 ≤ i → i < 32 → f i = false) : B32 (u + 256 * w) (fun i => if i < 8 then f i else h (i - 8)) := by
  intro i hi
  unfold bt
  have e0 : (u + 256 * w).toBitVec = u.toBitVec + w.toBitVec <<< 8 := by
    rw [Int32.toBitVec_add, Int32.toBitVec_mul, show (256 : Int32).toBitVec = BitVec.twoPow 32 8 from by decide, BitVec.mul_comm, BitVec.mul_twoPow_eq_shiftLeft]
  have e1 : u.toBitVec &&& (w.toBitVec <<< 8) = 0#32 := by
    apply BitVec.eq_of_getLsbD_eq
    intro j hj
    rw [BitVec.getLsbD_and, BitVec.getLsbD_shiftLeft, BitVec.getLsbD_zero]
    by_cases q : j < 8
    · rw [decide_eq_true q]; simp
    · have : u.toBitVec.getLsbD j = false := by
        have := hu j hj
        unfold bt at this
        rw [this]; exact f8 j (by omega) hj
      rw [this, Bool.false_and]
  rw [e0, BitVec.add_eq_or_of_and_eq_zero _ _ e1, BitVec.getLsbD_or, BitVec.getLsbD_shiftLeft]
  have a1 := hu i hi
  unfold bt at a1
  show _ = (if i < 8 then f i else h (i - 8))
  by_cases q : i < 8
  · rw [if_pos q, a1, decide_eq_true q]; simp
  · rw [if_neg q, a1, f8 i (by omega) hi, Bool.false_or, decide_eq_false q, decide_eq_true hi]
    have a2 := hw (i - 8) (by omega)
    unfold bt at a2
    simp [a2]
theorem b_256 : ∀ a, a < 8 → ∀ i, i < 32 → bt ((256 : Int32) <<< (nI a &&& 31)) i = decide (i = a + 8) := by decide +kernel
section QX
variable {σ : ab_S} {A : AST} {g q x y : Nat} {a b d : Int32} {E : String → ab_S → Prop}
def visF (Γ : GRT) (s w n : Nat) : Nat → Bool := fun i => if i < 8 then decide (i < n) && (inV Γ s w i && Γ.1.2.2.2.1 s i) else decide (i - 8 < n) && (inV Γ s w (i - 8) && !(Γ.1.2.2.2.1 s (i - 8)))
theorem m_visL {Γ : GRT} (hX : MXg σ Γ) (hV : GRV Γ) (hL : LVF Γ) {s w : Nat} (hs : s < Γ.1.1) (hw : w < 100) {Q : Int32 → ab_S → Prop} (k : ∀ r, B32 r (visF Γ s w (Γ.1.2.2.1 s)) → Q r σ) : ∃ m, wX12_visit_l96 (nI s) (nI w) Q E m 0 0 σ := by
  have h12 := hV.1.1
  have h8 := (hV.1.2.2 s hs).2.1
  obtain ⟨_, m99, m100, _⟩ := hX.1.1.2 s hs
  have ecs : (nI s).toNatClampNeg = s := nI_clampE (by omega)
  have evs : vp_in (nI s) 13 := by simp (disch := omega) only [nI_lit, nI_add, nI_mulE, nI_clampE, nI_eqE, nI_leE, nI_ltE, vp_nIE, true_and, and_true]; omega
  refine ⟨Γ.1.2.2.1 s + 1, ?_⟩
  suffices H : ∀ f n r, Γ.1.2.2.1 s - n = f → n ≤ Γ.1.2.2.1 s → B32 r (visF Γ s w n) → wX12_visit_l96 (nI s) (nI w) Q E (f + 1) r (nI n) σ from H _ 0 0 rfl (Nat.zero_le _) (B32.z.cg (fun i hi => by unfold visF; split <;> rw [decide_eq_false (by omega), Bool.false_and]))
  intro f
  induction f with
  | zero =>
    intro n r hf hn hr
    have e : n = Γ.1.2.2.1 s := by clear hr; omega
    show wX12_visit_l96_b _ _ _ _ _ _ _ _
    unfold wX12_visit_l96_b
    rw [ecs, m99]
    rw [e] at hr
    exact ⟨evs, yes (by rw [e]; clear hr; simp (disch := omega) only [nI_lit, nI_add, nI_mulE, nI_clampE, nI_eqE, nI_leE, nI_ltE, vp_nIE, true_and, and_true]; omega) (k r hr)⟩
  | succ f ih =>
    intro n r hf hn hr
    have hn1 : n < Γ.1.2.2.1 s := by clear hr; omega
    have hf1 : Γ.1.2.2.1 s - (n + 1) = f := by clear hr; omega
    have n8 : n < 8 := by clear hr; omega
    have e8 : (8 : Int32) * nI s + nI n = nI (8 * s + n) := by show nI 8 * nI s + _ = _; rw [nI_mulE, nI_add]
    have hv := hL.vof s hs n hn1
    have hpos := hL.pos s hs n hn1
    have h5 := (hL.vis s hs).2
    show wX12_visit_l96_b (nI s) (nI w) Q E (wX12_visit_l96 (nI s) (nI w) Q E (f + 1)) r (nI n) σ
    unfold wX12_visit_l96_b
    rw [ecs, m99, e8, nI_clampE (show 8 * s + n < 2147483648 by clear hr; omega), (hX.2.1 s hs).2, (hX.2.1 s hs).1 n n8, m100]
    have ev : nI (svs Γ s) - (nI (slv Γ s n) - (1 : Int32)) / (2 : Int32) = nI (vOf Γ s n) := by
      rw [show nI (slv Γ s n) - 1 = nI (slv Γ s n - 1) by show nI _ - nI 1 = _; exact nI_subE (by clear hr; omega), i_div2 _ (by clear hr; omega)]
      have hle : (slv Γ s n - 1) / 2 ≤ svs Γ s := by have := hv.1; unfold vOf at this; clear hr; omega
      rw [nI_subE hle]
      congr 1; unfold vOf; clear hr; omega
    rw [ev]
    refine ⟨evs, no (by clear hr; simp (disch := omega) only [nI_lit, nI_add, nI_mulE, nI_clampE, nI_eqE, nI_leE, nI_ltE, vp_nIE, true_and, and_true]; omega) ⟨evs, by clear hr; simp (disch := omega) only [nI_lit, nI_add, nI_mulE, nI_clampE, nI_eqE, nI_leE, nI_ltE, vp_nIE, true_and, and_true]; omega, fe ⟨evs, ?_⟩⟩⟩
    have hb := b_one (bm (Γ.1.2.2.2.1 s) (Γ.1.2.2.1 s)) (a := n) (by clear hr; omega)
    rw [bm_bt (by clear hr; omega) (by clear hr; omega), decide_eq_true hn1, Bool.true_and] at hb
    have go : ∀ y0 (F : Nat → Bool), B32 y0 F → (∀ i, i < 32 → visF Γ s w (n + 1) i = (visF Γ s w n i || (decide (vOf Γ s n = w) && F i))) → wX12_visit_j160 (nI s) (nI w) Q E (wX12_visit_l96 (nI s) (nI w) Q E (f + 1)) r (nI n) (nI (vOf Γ s n)) y0 σ := by
      intro y0 F hF hx
      unfold wX12_visit_j160 wX12_visit_j178
      rw [nI_1]
      by_cases q : vOf Γ s n = w
      · refine no (fun z => z (by rw [q])) (fe (ih (n + 1) _ hf1 hn1 ((hr.or hF).cg (fun i hi => ?_))))
        rw [hx i hi, decide_eq_true q, Bool.true_and]
      · refine yes (by rw [nI_eqE (by clear hr hF hx; omega) (by clear hr hF hx; omega)]; exact q) (fe (ih (n + 1) _ hf1 hn1 (hr.cg (fun i hi => ?_))))
        rw [hx i hi, decide_eq_false q, Bool.false_and, Bool.or_false]
    have inn : inV Γ s w n = decide (vOf Γ s n = w) := by
      unfold inV
      by_cases q : vOf Γ s n = w
      · rw [decide_eq_true ⟨hn1, q⟩, decide_eq_true q]
      · rw [decide_eq_false (fun z => q z.2), decide_eq_false q]
    have ds : ∀ i, decide (i < n + 1) = (decide (i < n) || decide (i = n)) := fun i => by
      by_cases q : i = n
      · rw [decide_eq_true q, decide_eq_true (by omega), Bool.or_true]
      · rw [decide_eq_false q, Bool.or_false]
        by_cases q2 : i < n
        · rw [decide_eq_true q2, decide_eq_true (by omega)]
        · rw [decide_eq_false q2, decide_eq_false (by omega)]
    cases hdn : Γ.1.2.2.2.1 s n
    · rw [hdn] at hb
      refine yes (fun z => absurd (hb.mp z) (by decide)) (go _ (fun i => decide (i = n + 8)) (b_256 n n8) (fun i hi => ?_))
      unfold visF
      by_cases q : i < 8
      · rw [if_pos q, if_pos q, ds]
        by_cases q2 : i = n
        · rw [q2, hdn]; simp <;> omega
        · rw [decide_eq_false q2, Bool.or_false, decide_eq_false (show ¬ i = n + 8 by omega), Bool.and_false, Bool.or_false]
      · rw [if_neg q, if_neg q, ds]
        by_cases q2 : i - 8 = n
        · rw [q2, hdn, decide_eq_true (show i = n + 8 by omega), inn]; simp
        · rw [decide_eq_false q2, Bool.or_false, decide_eq_false (show ¬ i = n + 8 by omega), Bool.and_false, Bool.or_false]
    · rw [hdn] at hb
      refine no (fun z => z (hb.mpr rfl)) (go _ (fun i => decide (i = n)) (B32.one (by clear hr; omega)) (fun i hi => ?_))
      unfold visF
      by_cases q : i < 8
      · rw [if_pos q, if_pos q, ds]
        by_cases q2 : i = n
        · rw [q2, hdn, inn]; simp
        · rw [decide_eq_false q2, Bool.or_false, Bool.and_false, Bool.or_false]
      · rw [if_neg q, if_neg q, ds]
        by_cases q2 : i - 8 = n
        · rw [q2, hdn]; simp <;> omega
        · rw [decide_eq_false q2, Bool.or_false, decide_eq_false (show ¬ i = n by omega), Bool.and_false, Bool.or_false]
theorem q_vis (hC : CIv σ A g q x y) (hA : AOK A) : ∃ c v, CAns (fun Q => wL_visit a b Q E) σ c v ∧ ∀ σ', MIv σ' A → MAns (fun Q => wX12_visit a b Q E) σ' c v := by
  have h11 := hC.2.2.1.1
  have hgG := hC.2.1.1
  cases hg : A.hg with
  | false =>
    refine ⟨1, 0, ⟨by decide, fun Q k => ?_⟩, fun σ' hM Q k => ?_⟩
    · show wL_visit a b Q E σ
      unfold wL_visit wX11_visit
      exact c_nGn hC hg (Or.inl ⟨rfl, k σ (FM.rf _ _) (fun z => absurd z (by decide))⟩)
    · have h4 := hM.2.2.1.1
      rw [hg] at h4
      show wX12_visit a b Q E σ'
      unfold wX12_visit wX12_visit_j57 wX12_visit_j58 wX12_visit_j72 wX12_visit_j81
      rw [h4]
      exact yes rfl (no (fun z => z rfl) (no (fun z => z rfl) (m_r1 (no (by decide) (k _ _ fm920 e920 (fun z => absurd z (by decide)))))))
  | true =>
    obtain ⟨o1, o2, o3, o4⟩ := hA.1 hg
    have hV := o3.1
    have hF := o3.2.1
    have h12 := hV.1.1
    have hW := hC.2.2.2.2.2.1 hg
    have hX := hW.1.1.1
    have mm : ∀ σ', MIv σ' A → σ'.2.1 92 4 = 1 ∧ MWh σ' A.G := fun σ' hM => ⟨by rw [hM.2.2.1.1, hg]; rfl, (hM.2.2.2.1 hg).2⟩
    have mbad : ∀ σ', σ'.2.1 92 4 = 1 → ∀ Q : Int32 → ab_S → Prop, (∀ τ r, FM S920 σ' τ → τ.2.1 92 0 = nI 2 → (2 = 0 → r = 0) → Q r τ) → wX12_visit_j57 a b Q E σ' := by
      intro σ' h4 Q k
      unfold wX12_visit_j57 wX12_visit_j58 wX12_visit_j72 wX12_visit_j81
      rw [h4]
      exact yes (by decide) (no (fun z => z rfl) (m_r2 (no (by decide) (k _ _ fm920 e920 (fun z => absurd z (by decide))))))
    by_cases e1 : ∃ s, s < A.G.1.1 ∧ a = nI s ∧ isVx b (svs A.G s)
    · obtain ⟨s, s1, s2, v, v1, v2, v3⟩ := e1
      have h5 := (hF.vis _ s1).2
      have h8 := (hV.1.2.2 s s1).2.1
      refine ⟨0, bm (visF A.G s v (A.G.1.2.2.1 s)) 32, ⟨by decide, fun Q k => ?_⟩, fun σ' hM Q k => ?_⟩
      · show wL_visit a b Q E σ
        unfold wL_visit wX11_visit
        rw [s2, v3]
        refine c_nGy hC hg (c_nVy hgG h11 hX.2.2.1 hX.2.2.2 hV hF s1 v1 v2 ⟨g, h11, hgG, c_dns hX hV hF s1 (by omega) (fun u hu => ⟨g, h11, hgG, c_ups hX hV hF s1 (by omega) (fun w hw => ?_)⟩)⟩)
        have hB : B32 (u + 256 * w) (visF A.G s v (A.G.1.2.2.1 s)) := by
          refine (b_add256 hu hw (fun i i1 i2 => ?_)).cg (fun i hi => ?_)
          · have : inV A.G s v i = false := decide_eq_false (fun z => by have := z.1; omega)
            rw [this, Bool.false_and]
          · unfold visF
            have key : ∀ j, inV A.G s v j = (decide (j < A.G.1.2.2.1 s) && inV A.G s v j) := fun j => by
              unfold inV
              by_cases z : j < A.G.1.2.2.1 s
              · rw [decide_eq_true z, Bool.true_and]
              · rw [decide_eq_false z, Bool.false_and, decide_eq_false (fun w => z w.1)]
            by_cases z : i < 8
            · rw [if_pos z, if_pos z, ← Bool.and_assoc, ← key]
              cases A.G.1.2.2.2.1 s i <;> rfl
            · rw [if_neg z, if_neg z, ← Bool.and_assoc, ← key]
              cases A.G.1.2.2.2.1 s (i - 8) <;> rfl
        rw [hB.eq B32.bm]
        exact c_ans (FM.rf _ _) k
      · obtain ⟨h4, hG⟩ := mm σ' hM
        have hMG := hG.1.1.1
        show wX12_visit a b Q E σ'
        unfold wX12_visit
        rw [h4, hMG.1.1, s2, v3]
        refine no (by decide) (m_ixy (by omega) ⟨s, s1, rfl⟩ (no (by decide) ?_))
        rw [hMG.1.1]
        refine m_ixy (by omega) ⟨s, s1, rfl⟩ (no (by decide) ?_)
        unfold wX12_visit_j46
        rw [nI_clampE (show s < 2147483648 by omega), (hG.1.1.2.1 s s1).2]
        refine ⟨by simp (disch := omega) only [nI_lit, nI_add, nI_mulE, nI_clampE, nI_eqE, nI_leE, nI_ltE, vp_nIE, true_and, and_true]; omega, m_vxy (by omega) ⟨v, v1, v2, rfl⟩ (no (by decide) ?_)⟩
        unfold wX12_visit_j58 wX12_visit_j72 wX12_visit_j81
        rw [h4]
        refine yes (by decide) (yes (by decide) (m_r0 (yes rfl ?_)))
        refine m_visL (hG.1.1.fm hV fm920 ⟨decide_eq_false (by omega), decide_eq_false (by omega), decide_eq_false (by omega)⟩ (fun a i _ _ => decide_eq_false (by omega))) hV hF s1 (by omega) (fun r hr => ?_)
        rw [hr.eq B32.bm]
        exact k _ _ fm920 e920 (fun _ => rfl)
    · refine ⟨2, 0, ⟨by decide, fun Q k => ?_⟩, fun σ' hM Q k => ?_⟩
      · show wL_visit a b Q E σ
        unfold wL_visit wX11_visit
        exact c_nGy hC hg (c_nVn hgG h11 hX.2.2.1 hX.2.2.2 hV hF e1 (Or.inr ⟨rfl, k σ (FM.rf _ _) (fun z => absurd z (by decide))⟩))
      · obtain ⟨h4, hG⟩ := mm σ' hM
        have hMG := hG.1.1.1
        have hb := mbad σ' h4 Q k
        show wX12_visit a b Q E σ'
        unfold wX12_visit
        rw [h4, hMG.1.1]
        refine no (by decide) ?_
        by_cases ep : isIx a A.G.1.1
        · refine m_ixy (by omega) ep (no (by decide) ?_)
          rw [hMG.1.1]
          refine m_ixy (by omega) ep (no (by decide) ?_)
          obtain ⟨s, s1, s2⟩ := ep
          have h5 := (hF.vis _ s1).2
          have eb : ¬ isVx b (svs A.G s) := fun z => e1 ⟨s, s1, s2, z⟩
          unfold wX12_visit_j46
          rw [s2] at hb ⊢
          rw [nI_clampE (show s < 2147483648 by omega), (hG.1.1.2.1 s s1).2]
          exact ⟨by simp (disch := omega) only [nI_lit, nI_add, nI_mulE, nI_clampE, nI_eqE, nI_leE, nI_ltE, vp_nIE, true_and, and_true]; omega, m_vxn (by omega) eb (yes rfl hb)⟩
        · exact m_ixn (by omega) ep (yes rfl hb)
end QX
