/-! ===== machine, alone, top ===== -/
theorem Stk.at {σ : ab_S} {M : Nat} : ∀ {l : List VL8}, Stk σ M l → ∀ i, i < l.length → σ.2.2.1 (M + 3) (l.length - 1 - i) = vL (l.getD i none)
  | [], _, i, hi => absurd hi (Nat.not_lt_zero _)
  | v :: s, h, 0, _ => by rw [List.length_cons, show s.length + 1 - 1 - 0 = s.length by omega]; exact h.1
  | v :: s, h, i + 1, hi => by
    rw [List.length_cons] at hi ⊢
    rw [show s.length + 1 - 1 - (i + 1) = s.length - 1 - i by omega]
    exact Stk.at h.2 i (by omega)
theorem MVs.at {σ : ab_S} : ∀ {l : List VL8}, MVs σ l → ∀ i, i < l.length → σ.2.1 157 (l.length - 1 - i) = vI (l.getD i none) ∧ σ.2.1 158 (l.length - 1 - i) = vB (l.getD i none)
  | [], _, i, hi => absurd hi (Nat.not_lt_zero _)
  | v :: s, h, 0, _ => by rw [List.length_cons, show s.length + 1 - 1 - 0 = s.length by omega]; exact ⟨h.1, h.2.1⟩
  | v :: s, h, i + 1, hi => by
    rw [List.length_cons] at hi ⊢
    rw [show s.length + 1 - 1 - (i + 1) = s.length - 1 - i by omega]
    exact MVs.at h.2.2 i (by omega)
theorem MOL.bd {Γ : GRT} {T : TST} {S : MST} {b : Bool} (hG : GOK Γ) (hT : TOK Γ T) (h : MOL Γ T b S) : S.sk.length ≤ 250 ∧ S.vs.length ≤ 34 := by
  have hN := hT.2.1
  obtain ⟨e, κ, ⟨n, bk, r, h, _⟩ | h⟩ := h
  · have h1 := h.2.2.1.len
    have h2 := h.2.2.2.1.1
    have h3 := (mi_stp hG hT h).1.2.2.2.1
    rw [h.1, List.length_cons]
    exact ⟨by omega, h3⟩
  · rw [h.1, h.2.2.1]
    exact ⟨by decide, by decide⟩
section QX
variable {σ : ab_S} {A : AST} {g q x y : Nat} {a b d : Int32} {E : String → ab_S → Prop}
theorem isIx6 (h0 : a ≠ 0) (h1 : a ≠ 1) (h2 : a ≠ 2) (h3 : a ≠ 3) (h4 : a ≠ 4) (h5 : a ≠ 5) : ¬ isIx a 6 := by
  rintro ⟨j, j1, j2⟩
  have : j = 0 ∨ j = 1 ∨ j = 2 ∨ j = 3 ∨ j = 4 ∨ j = 5 := by omega
  rcases this with z | z | z | z | z | z
  · exact h0 (by rw [j2, z]; rfl)
  · exact h1 (by rw [j2, z]; rfl)
  · exact h2 (by rw [j2, z]; rfl)
  · exact h3 (by rw [j2, z]; rfl)
  · exact h4 (by rw [j2, z]; rfl)
  · exact h5 (by rw [j2, z]; rfl)
/-- the node on top -/
def skN : List (Nat × Nat) → Int32
  | [] => -1
  | z :: _ => nI z.1
theorem q_mac (hC : CIv σ A g q x y) (hA : AOK A) : ∃ c v, CAns (fun Q => wL_machine a Q E) σ c v ∧ ∀ σ', MIv σ' A → MAns (fun Q => wX12_machine a Q E) σ' c v := by
  cases hb : A.hb with
  | false =>
    refine ⟨1, 0, ⟨by decide, fun Q k => ?_⟩, fun σ' hM Q k => ?_⟩
    · show wL_machine a Q E σ
      unfold wL_machine wX11_machine
      exact c_nMn hC hb (Or.inl ⟨rfl, k σ (FM.rf _ _) (fun z => absurd z (by decide))⟩)
    · have h4 := hM.2.2.1.2.2
      rw [hb] at h4
      show wX12_machine a Q E σ'
      unfold wX12_machine wX12_machine_j13 wX12_machine_j33 wX12_machine_j34
      rw [h4]
      exact no (fun z => z rfl) (yes rfl (m_r1 (no (by decide) (k _ _ fm920 e920 (fun z => absurd z (by decide))))))
  | true =>
    have ht := hA.ht hb
    have hg := hA.hg ht
    obtain ⟨o1, o2, o3, o4⟩ := hA.1 hg
    have hT := (hA.2.1 ht).2
    obtain ⟨bd1, bd2⟩ := (hA.2.2 hb).2.bd o3 hT
    obtain ⟨_, hR, h13⟩ := hC.2.2.2.2.2.2.2 hb
    obtain ⟨r1, r2, r3, r4, r5, r6, r7, r8⟩ := hR
    have hPg := (hC.2.2.2.2.2.1 hg).2.1.1
    have cln : ∀ {Q : Int32 → ab_S → Prop} {E' : String → ab_S → Prop}, Q (skN A.S.sk) σ → wX2_lastNode 35 Q E' σ := by
      intro Q E' k
      unfold wX2_lastNode
      rw [r2]
      cases hs : A.S.sk with
      | nil =>
        rw [hs] at k
        exact no (fun z => z rfl) k
      | cons z r =>
        rw [hs] at k bd1 r4
        obtain ⟨z1, z2⟩ := z
        have : σ.2.1 40 r.length = nI z1 := r4.1
        rw [List.length_cons] at bd1 ⊢
        rw [show nI (r.length + 1) - (1 : Int32) = nI r.length by show _ - nI 1 = _; rw [nI_subE (by omega)]; congr 1, nI_clampE (show r.length < 2147483648 by omega), this]
        exact yes (by show ¬ _ = nI 0; rw [nI_eqE (by omega) (by omega)]; omega) ⟨by simp (disch := omega) only [nI_lit, nI_add, nI_mulE, nI_clampE, nI_eqE, nI_leE, nI_ltE, vp_nIE, true_and, and_true]; omega, k⟩
    have ml : ∀ σ', MIv σ' A → ∀ Q : Int32 → ab_S → Prop, (∀ z : Bool, (z = false → isIx a 6) → (z = true → ¬ isIx a 6) → wX12_machine_j34 a Q E (bI z) 0 σ') → wX12_machine a Q E σ' := by
      intro σ' hM Q hk
      obtain ⟨h4, hR', hd⟩ := hM.mc hb
      unfold wX12_machine
      rw [h4]
      refine yes (by decide) ?_
      unfold wX12_machine_j13
      rw [h4]
      refine no (by decide) ?_
      by_cases q2 : isIx a 6
      · have := m_ixy (σ := σ') (E := E) (N := 6) (by omega) q2 (Q := fun u4 σ3 => ((¬ u4 = 0) → wX12_machine_j33 a Q E 0 σ3) ∧ (¬ (¬ u4 = 0) → wX12_machine_j34 a Q E 1 0 σ3)) (yes (by decide) (hk false (fun _ => q2) (fun z => absurd z (by decide))))
        exact this
      · have := m_ixn (σ := σ') (E := E) (N := 6) (by omega) q2 (Q := fun u4 σ3 => ((¬ u4 = 0) → wX12_machine_j33 a Q E 0 σ3) ∧ (¬ (¬ u4 = 0) → wX12_machine_j34 a Q E 1 0 σ3)) (no (fun z => z rfl) (hk true (fun z => absurd z (by decide)) (fun _ => q2)))
        exact this
    have mi : ∀ σ', MIv σ' A → ∀ Q : Int32 → ab_S → Prop, isIx a 6 → ((a = 0 → Q (abI A.S.pc) (ab_I σ' 92 0 (nI 0))) ∧ (¬ a = 0 → (a = 1 → Q (nI A.S.sk.length) (ab_I σ' 92 0 (nI 0))) ∧ (¬ a = 1 → (a = 2 → Q (nI A.S.vs.length) (ab_I σ' 92 0 (nI 0))) ∧ (¬ a = 2 → (a = 3 → Q (nI A.dn) (ab_I σ' 92 0 (nI 0))) ∧ (¬ a = 3 → (a = 4 → Q (skN A.S.sk) (ab_I σ' 92 0 (nI 0))) ∧ (¬ a = 4 → Q (nI (PLs A.G A.G.2.1).length) (ab_I σ' 92 0 (nI 0)))))))) → wX12_machine a Q E σ' := by
      intro σ' hM Q h6 hk
      obtain ⟨h4, hR', hd⟩ := hM.mc hb
      obtain ⟨s1, s2, s3, s4, s5, s6⟩ := hR'
      have s1 : σ'.2.1 92 84 = abI A.S.pc := s1
      have hG := (hM.2.2.2.1 hg).2
      refine ml σ' hM Q (fun z z1 z2 => ?_)
      cases z with
      | true => exact absurd h6 (z2 rfl)
      | false =>
        unfold wX12_machine_j34
        refine m_r0 (yes rfl ?_)
        rw [n920 (by omega), n920 (by omega), n920 (by omega), n920 (by omega), n920 (by omega), n920 (by omega), s1, s2.1, s4.1, hd, hG.2.1.1.1]
        refine ⟨hk.1, fun z => ⟨(hk.2 z).1, fun z2 => ⟨((hk.2 z).2 z2).1, fun z3 => ⟨(((hk.2 z).2 z2).2 z3).1, fun z4 => ⟨fun z5 => ?_, ((((hk.2 z).2 z2).2 z3).2 z4).2⟩⟩⟩⟩⟩
        have k := ((((hk.2 z).2 z2).2 z3).2 z4).1 z5
        cases hs : A.S.sk with
        | nil =>
          rw [hs] at k
          exact yes (by decide) k
        | cons w r =>
          rw [hs] at k bd1 s2
          have e154 : σ'.2.1 154 r.length = nI w.1 := s2.2.1
          rw [List.length_cons] at bd1 ⊢
          rw [show nI (r.length + 1) - (1 : Int32) = nI r.length by show _ - nI 1 = _; rw [nI_subE (by omega)]; congr 1, nI_clampE (show r.length < 2147483648 by omega), e154]
          exact no (by show ¬ _ ≤ nI 0; simp (disch := omega) only [nI_lit, nI_add, nI_mulE, nI_clampE, nI_eqE, nI_leE, nI_ltE, vp_nIE, true_and, and_true]; omega) ⟨by simp (disch := omega) only [nI_lit, nI_add, nI_mulE, nI_clampE, nI_eqE, nI_leE, nI_ltE, vp_nIE, true_and, and_true]; omega, k⟩
    have fin : ∀ v, (∀ {Q : Int32 → ab_S → Prop} {E' : String → ab_S → Prop}, Q v σ → wX11_machine a Q E' σ) → (∀ σ', MIv σ' A → ∀ Q : Int32 → ab_S → Prop, Q v (ab_I σ' 92 0 (nI 0)) → wX12_machine a Q E σ') → ∃ c v, CAns (fun Q => wL_machine a Q E) σ c v ∧ ∀ σ', MIv σ' A → MAns (fun Q => wX12_machine a Q E) σ' c v := by
      intro v k1 k2
      refine ⟨0, v, ⟨by decide, fun Q k => ?_⟩, fun σ' hM Q k => ?_⟩
      · show wL_machine a Q E σ
        unfold wL_machine
        exact k1 (c_ans (FM.rf _ _) k)
      · exact k2 σ' hM Q (k _ _ fm920 e920 (fun _ => rfl))
    by_cases a0 : a = 0
    · refine fin (abI A.S.pc) (fun k => ?_) (fun σ' hM Q k => mi σ' hM Q ⟨0, by omega, a0⟩ (yes a0 k))
      unfold wX11_machine
      refine c_nMy hC hb (yes a0 ?_)
      rw [r1]; exact k
    by_cases a1 : a = 1
    · refine fin (nI A.S.sk.length) (fun k => ?_) (fun σ' hM Q k => mi σ' hM Q ⟨1, by omega, a1⟩ (no a0 (yes a1 k)))
      unfold wX11_machine
      refine c_nMy hC hb (no a0 (yes a1 ?_))
      rw [r2]; exact k
    by_cases a2 : a = 2
    · refine fin (nI A.S.vs.length) (fun k => ?_) (fun σ' hM Q k => mi σ' hM Q ⟨2, by omega, a2⟩ (no a0 (no a1 (yes a2 k))))
      unfold wX11_machine
      refine c_nMy hC hb (no a0 (no a1 (yes a2 ?_)))
      rw [r3]; exact k
    by_cases a3 : a = 3
    · refine fin (nI A.dn) (fun k => ?_) (fun σ' hM Q k => mi σ' hM Q ⟨3, by omega, a3⟩ (no a0 (no a1 (no a2 (yes a3 k)))))
      unfold wX11_machine
      refine c_nMy hC hb (no a0 (no a1 (no a2 (yes a3 ?_))))
      rw [h13]; exact k
    by_cases a4 : a = 4
    · refine fin (skN A.S.sk) (fun k => ?_) (fun σ' hM Q k => mi σ' hM Q ⟨4, by omega, a4⟩ (no a0 (no a1 (no a2 (no a3 (yes a4 k))))))
      unfold wX11_machine
      exact c_nMy hC hb (no a0 (no a1 (no a2 (no a3 (yes a4 (cln k))))))
    by_cases a5 : a = 5
    · refine fin (nI (PLs A.G A.G.2.1).length) (fun k => ?_) (fun σ' hM Q k => mi σ' hM Q ⟨5, by omega, a5⟩ (no a0 (no a1 (no a2 (no a3 (no a4 k))))))
      unfold wX11_machine
      refine c_nMy hC hb (no a0 (no a1 (no a2 (no a3 (no a4 (yes a5 ?_))))))
      rw [hPg.1]; exact k
    · refine ⟨2, 0, ⟨by decide, fun Q k => ?_⟩, fun σ' hM Q k => ?_⟩
      · show wL_machine a Q E σ
        unfold wL_machine wX11_machine
        exact c_nMy hC hb (no a0 (no a1 (no a2 (no a3 (no a4 (no a5 (Or.inr ⟨rfl, k σ (FM.rf _ _) (fun z => absurd z (by decide))⟩)))))))
      · refine ml σ' hM Q (fun z z1 z2 => ?_)
        cases z with
        | false => exact absurd (z1 rfl) (isIx6 a0 a1 a2 a3 a4 a5)
        | true =>
          unfold wX12_machine_j34
          exact m_r2 (no (by decide) (k _ _ fm920 e920 (fun z => absurd z (by decide))))
end QX
