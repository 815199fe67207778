/-! ===== the program: a choice; every rule's code ===== -/
section PG
variable {gk gn : Nat → Nat}
theorem PgP_if {ha hb hc hd : Nat} {m1 c1 m2 c2 m3 c3 : List (Nat × Nat)} (p1 : PgP gk gn ha m1 c1) (p2 : PgP gk gn hb m2 c2) (p3 : PgP gk gn hc m3 c3) : PgP gk gn hd (m1 ++ m2 ++ m3 ++ [(31, 0)]) (c1 ++ [(13, c2.length + 2)] ++ c2 ++ [(14, c3.length + 1)] ++ c3) := by
  obtain ⟨n1, h1⟩ := p1
  obtain ⟨n2, h2⟩ := p2
  obtain ⟨n3, h3⟩ := p3
  have l1 := ne_len n1
  have l2 := ne_len n2
  have l3 := ne_len n3
  refine ⟨by simp, fun L S hS => ?_⟩
  have e1 : (m1 ++ m2 ++ m3 ++ [(31, 0)]).length = m1.length + m2.length + m3.length + 1 := by simp only [List.length_append, List.length_cons, List.length_nil] <;> omega
  rw [e1] at hS ⊢
  obtain ⟨s2, hs2⟩ : ∃ s2, s2 = L + m1.length := ⟨_, rfl⟩
  obtain ⟨s3, hs3⟩ : ∃ s3, s3 = s2 + m2.length := ⟨_, rfl⟩
  obtain ⟨C, hC⟩ : ∃ C, C = s3 + m3.length := ⟨_, rfl⟩
  obtain ⟨a0, a1, a2, a3, a4⟩ := h1 L S (fun j z1 z2 => hS j z1 (by omega))
  rw [← hs2] at a1 a3 a4
  obtain ⟨S1, hS1⟩ : ∃ S1, S1 = fpR L m1 S := ⟨_, rfl⟩
  rw [← hS1] at a1 a2 a3 a4
  obtain ⟨b0, b1, b2, b3, b4⟩ := h2 s2 S1 (fun j z1 z2 => by rw [(a3 j (Or.inr z1)).1, (a3 j (Or.inr z1)).2]; exact hS j (by omega) (by omega))
  rw [← hs3] at b1 b3 b4
  obtain ⟨S2, hS2⟩ : ∃ S2, S2 = fpR s2 m2 S1 := ⟨_, rfl⟩
  rw [← hS2] at b1 b2 b3 b4
  obtain ⟨c0', c1', c2', c3', c4'⟩ := h3 s3 S2 (fun j z1 z2 => by rw [(b3 j (Or.inr z1)).1, (b3 j (Or.inr z1)).2, (a3 j (Or.inr (by omega))).1, (a3 j (Or.inr (by omega))).2]; exact hS j (by omega) (by omega))
  rw [← hC] at c1' c3' c4'
  obtain ⟨S3, hS3⟩ : ∃ S3, S3 = fpR s3 m3 S2 := ⟨_, rfl⟩
  rw [← hS3] at c1' c2' c3' c4'
  have e : fpR L (m1 ++ m2 ++ m3 ++ [(31, 0)]) S = (uf S3.1 C L, uf S3.2.1 s2 C, uf S3.2.2 s3 C) := by
    rw [fpR_app, fpR_app, fpR_app, ← hS1, ← hs2, ← hS2, show L + (m1 ++ m2).length = s3 by rw [List.length_append]; omega, ← hS3, show L + (m1 ++ m2 ++ m3).length = C by rw [List.length_append, List.length_append]; omega]
    show fp1 S3 C 31 = _
    unfold fp1
    rw [if_neg (by omega), if_neg (by omega), if_pos rfl, c1', c2' (s3 - 1) (by omega), b1, c2' (s2 - 1) (by omega), b2 (s2 - 1) (by omega), a1]
  have fok : ∀ L0, L0 ≤ L → fpOK L0 L (m1 ++ m2 ++ m3 ++ [(31, 0)]) S := by
    intro L0 h0
    have f1 := a0 L0 h0
    have f2 := b0 L0 (by omega)
    have f3 := c0' L0 (by omega)
    rw [hS1, hs2] at f2
    rw [hS2, hS1, hs3, hs2] at f3
    refine fpOK_app L0 _ _ _ _ (fpOK_app L0 _ _ _ _ (fpOK_app L0 _ _ _ _ f1 f2) ?_) ⟨Or.inr ?_, trivial⟩
    · rw [List.length_append, fpR_app, ← Nat.add_assoc]; exact f3
    · rw [fpR_app, fpR_app, ← hS1, ← hs2, ← hS2, show L + (m1 ++ m2).length = s3 by rw [List.length_append]; omega, ← hS3, show L + (m1 ++ m2 ++ m3).length = C by rw [List.length_append, List.length_append]; omega, c1', c2' (s3 - 1) (by omega), b1, c2' (s2 - 1) (by omega), b2 (s2 - 1) (by omega), a1]
      exact ⟨by omega, by omega, by omega, Or.inr ⟨by omega, by omega, by omega, fun _ => ⟨by omega, h0, by omega⟩⟩⟩
  refine ⟨fok, ?_⟩
  rw [e]
  have eL : L + (m1.length + m2.length + m3.length + 1) = C + 1 := by omega
  rw [eL] at hS ⊢
  refine ⟨?_, fun j hj => ?_, fun j hj => ?_, fun Md La hM W => ?_⟩
  · show uf _ _ _ _ = _
    rw [show C + 1 - 1 = C by omega, uf_s]
  · show uf _ _ _ _ = _
    rw [uf_o _ _ (by omega), c2' j (by omega), b2 j (by omega)]; exact a2 j hj
  · show uf S3.2.1 s2 C j = _ ∧ uf S3.2.2 s3 C j = _
    rw [uf_o _ _ (by omega), uf_o _ _ (by omega), (c3' j (by omega)).1, (c3' j (by omega)).2, (b3 j (by omega)).1, (b3 j (by omega)).2]
    exact a3 j (by omega)
  · have hM : ∀ j, L < j → j < C + 1 → Md j = uf S3.2.1 s2 C j ∧ La j = uf S3.2.2 s3 C j := hM
    have mA2 : Md s2 = C := by rw [(hM s2 (by omega) (by omega)).1, uf_s]
    have mB2 : La s2 = 0 := by rw [(hM s2 (by omega) (by omega)).2, uf_o _ _ (by omega), (c3' s2 (by omega)).2, (b3 s2 (by omega)).2, (a3 s2 (by omega)).2]; exact (hS s2 (by omega) (by omega)).2
    have mA3 : Md s3 = 0 := by rw [(hM s3 (by omega) (by omega)).1, uf_o _ _ (by omega), (c3' s3 (by omega)).1, (b3 s3 (by omega)).1, (a3 s3 (by omega)).1]; exact (hS s3 (by omega) (by omega)).1
    have mB3 : La s3 = C := by rw [(hM s3 (by omega) (by omega)).2, uf_s]
    have mAC : Md C = 0 := by rw [(hM C (by omega) (by omega)).1, uf_o _ _ (by omega), (c3' C (by omega)).1, (b3 C (by omega)).1, (a3 C (by omega)).1]; exact (hS C (by omega) (by omega)).1
    have mBC : La C = 0 := by rw [(hM C (by omega) (by omega)).2, uf_o _ _ (by omega), (c3' C (by omega)).2, (b3 C (by omega)).2, (a3 C (by omega)).2]; exact (hS C (by omega) (by omega)).2
    obtain ⟨w1, k1'⟩ := a4 Md La (fun j z1 z2 => by rw [(hM j z1 (by omega)).1, (hM j z1 (by omega)).2, uf_o _ _ (by omega), uf_o _ _ (by omega), (c3' j (by omega)).1, (c3' j (by omega)).2]; exact b3 j (by omega)) W
    have ez : zR gk gn Md La L (m1 ++ m2 ++ m3 ++ [(31, 0)]) W = in1 gk gn (zR gk gn Md La s3 m3 (mk1 Md La (zR gk gn Md La s2 m2 (mk1 Md La (zR gk gn Md La L m1 W) s2)) s3)) C (31, 0) := by
      rw [zR_app _ _ _ _ _ _ _ (by simp [n1]), zR_app _ _ _ _ _ _ _ (by simp [n1]), zR_app _ _ _ _ _ _ _ n1, show L + (m1 ++ m2 ++ m3).length = C by rw [List.length_append, List.length_append]; omega, show L + (m1 ++ m2).length = s3 by rw [List.length_append]; omega, ← hs2, wr_z _ _ _ _ _ _ n2, wr_z _ _ _ _ _ _ n3]
      show in1 gk gn (mk1 Md La _ C) C (31, 0) = _
      rw [mk_0 mAC mBC]
    suffices hh : EmS gk gn L (m1.length + m2.length + m3.length + 1) (c1 ++ [(13, c2.length + 2)] ++ c2 ++ [(14, c3.length + 1)] ++ c3) W (in1 gk gn (zR gk gn Md La s3 m3 (mk1 Md La (zR gk gn Md La s2 m2 (mk1 Md La (zR gk gn Md La L m1 W) s2)) s3)) C (31, 0)) ∧ (zOK gk gn Md La s2 m2 (mk1 Md La (zR gk gn Md La L m1 W) s2) ∧ mok Md La (zR gk gn Md La s2 m2 (mk1 Md La (zR gk gn Md La L m1 W) s2)) s3 ∧ zOK gk gn Md La s3 m3 (mk1 Md La (zR gk gn Md La s2 m2 (mk1 Md La (zR gk gn Md La L m1 W) s2)) s3) ∧ iok (zR gk gn Md La s3 m3 (mk1 Md La (zR gk gn Md La s2 m2 (mk1 Md La (zR gk gn Md La L m1 W) s2)) s3)) C (31, 0)) by
      rw [ez]
      obtain ⟨hh1, z1, z2, z3, z4⟩ := hh
      refine ⟨hh1, zOK_app _ _ _ _ _ _ _ (by simp [n1]) (zOK_app _ _ _ _ _ _ _ (by simp [n1]) (zOK_app _ _ _ _ _ _ _ n1 k1' ?_) ?_) ?_⟩
      · rw [← hs2]
        exact wrOK_z _ _ _ _ _ _ n2 (Or.inl mB2) z1
      · rw [zR_app _ _ _ _ _ _ _ n1, ← hs2, wr_z _ _ _ _ _ _ n2, show L + (m1 ++ m2).length = s3 by rw [List.length_append]; omega]
        exact wrOK_z _ _ _ _ _ _ n3 z2 z3
      · rw [zR_app _ _ _ _ _ _ _ (by simp [n1]), zR_app _ _ _ _ _ _ _ n1, show L + (m1 ++ m2 ++ m3).length = C by rw [List.length_append, List.length_append]; omega, show L + (m1 ++ m2).length = s3 by rw [List.length_append]; omega, ← hs2, wr_z _ _ _ _ _ _ n2, wr_z _ _ _ _ _ _ n3]
        exact ⟨Or.inl mBC, by rw [mk_0 mAC mBC]; exact z4, trivial⟩
    clear ez
    obtain ⟨W1, hW1⟩ : ∃ W1, W1 = zR gk gn Md La L m1 W := ⟨_, rfl⟩
    rw [← hW1] at w1 ⊢
    obtain ⟨V1, hV1⟩ : ∃ V1, V1 = mk1 Md La W1 s2 := ⟨_, rfl⟩
    rw [← hV1]
    have e1 : V1 = (W1.1 + 1, uf W1.2.1 W1.1 13, uf W1.2.2.1 W1.1 0, uf W1.2.2.2.1 C W1.1, W1.2.2.2.2) := by
      rw [hV1]; unfold mk1 mkB mkA; rw [if_pos mB2, mA2, if_neg (by omega)]
    obtain ⟨w2, k2'⟩ := b4 Md La (fun j z1 z2 => by rw [(hM j (by omega) (by omega)).1, (hM j (by omega) (by omega)).2, uf_o _ _ (by omega), uf_o _ _ (by omega)]; exact c3' j (by omega)) V1
    obtain ⟨W2, hW2⟩ : ∃ W2, W2 = zR gk gn Md La s2 m2 V1 := ⟨_, rfl⟩
    rw [← hW2] at w2 ⊢
    obtain ⟨V2, hV2⟩ : ∃ V2, V2 = mk1 Md La W2 s3 := ⟨_, rfl⟩
    rw [← hV2]
    have tC : W2.2.2.2.1 C = W1.1 := by rw [(w2.2.2.2 C (by omega)).1, e1]; exact uf_s _ _ _
    have e2 : V2 = (W2.1 + 1, uf W2.2.1 W2.1 14, uf (uf W2.2.2.1 W2.1 0) W1.1 (W2.1 + 1), W2.2.2.2.1, uf W2.2.2.2.2 C W2.1) := by
      rw [hV2]; unfold mk1 mkB mkA; rw [if_pos mA3, mB3, if_neg (by omega), tC]
    obtain ⟨w3, k3'⟩ := c4' Md La (fun j z1 z2 => by rw [(hM j (by omega) (by omega)).1, (hM j (by omega) (by omega)).2, uf_o _ _ (by omega), uf_o _ _ (by omega)]; exact ⟨rfl, rfl⟩) V2
    obtain ⟨W3, hW3⟩ : ∃ W3, W3 = zR gk gn Md La s3 m3 V2 := ⟨_, rfl⟩
    rw [← hW3] at w3 ⊢
    have jC : W3.2.2.2.2 C = W2.1 := by rw [(w3.2.2.2 C (by omega)).2, e2]; exact uf_s _ _ _
    obtain ⟨i1, k1, o1, t1⟩ := w1
    obtain ⟨i2, k2, o2, t2⟩ := w2
    obtain ⟨i3, k3, o3, t3⟩ := w3
    have v1 : V1.1 = W1.1 + 1 := by rw [e1]
    have v2 : V2.1 = W2.1 + 1 := by rw [e2]
    rw [v1] at i2 k2 o2
    rw [v2] at i3 k3 o3
    have vk1 : ∀ j, V1.2.1 j = uf W1.2.1 W1.1 13 j := fun j => by rw [e1]
    have vo1 : ∀ j, V1.2.2.1 j = uf W1.2.2.1 W1.1 0 j := fun j => by rw [e1]
    have vk2 : ∀ j, V2.2.1 j = uf W2.2.1 W2.1 14 j := fun j => by rw [e2]
    have vo2 : ∀ j, V2.2.2.1 j = uf (uf W2.2.2.1 W2.1 0) W1.1 (W2.1 + 1) j := fun j => by rw [e2]
    have vt1 : ∀ j, j ≠ C → V1.2.2.2.1 j = W1.2.2.2.1 j ∧ V1.2.2.2.2 j = W1.2.2.2.2 j := fun j hj => by rw [e1]; exact ⟨uf_o _ _ hj, rfl⟩
    have vt2 : ∀ j, j ≠ C → V2.2.2.2.1 j = W2.2.2.2.1 j ∧ V2.2.2.2.2 j = W2.2.2.2.2 j := fun j hj => by rw [e2]; exact ⟨rfl, uf_o _ _ hj⟩
    have g1 : mok Md La W2 s3 := by
      refine Or.inr ?_
      unfold mkA
      rw [if_pos mA3, mB3, tC]; omega
    have g2 : iok W3 C (31, 0) := Or.inr (by rw [jC]; omega)
    refine ⟨?_, k2', g1, k3', g2⟩
    clear hV1 hV2 hW1 hW2 hW3 e1 e2 a4 b4 c4' hM
    unfold in1
    rw [if_pos rfl, jC]
    have ln1 : (c1 ++ [((13 : Nat), c2.length + 2)]).length = c1.length + 1 := by simp only [List.length_append, List.length_cons, List.length_nil] <;> omega
    have ln2 : (c1 ++ [((13 : Nat), c2.length + 2)] ++ c2).length = c1.length + 1 + c2.length := by simp only [List.length_append, List.length_cons, List.length_nil] <;> omega
    have ln3 : (c1 ++ [((13 : Nat), c2.length + 2)] ++ c2 ++ [((14 : Nat), c3.length + 1)]).length = c1.length + 1 + c2.length + 1 := by simp only [List.length_append, List.length_cons, List.length_nil] <;> omega
    have lc : (c1 ++ [(13, c2.length + 2)] ++ c2 ++ [(14, c3.length + 1)] ++ c3).length = c1.length + 1 + c2.length + 1 + c3.length := by simp only [List.length_append, List.length_cons, List.length_nil] <;> omega
    refine ⟨?_, fun i hi => ?_, fun i hi => ?_, fun j hj => ?_⟩
    · show W3.1 = _
      rw [lc]; omega
    · show W3.2.1 (W.1 + i) = _ ∧ uf W3.2.2.1 W2.1 W3.1 (W.1 + i) = _
      rw [lc] at hi
      by_cases q1 : i < c1.length
      · rw [uf_o _ _ (by omega), (o3 (W.1 + i) (by omega)).1, (o3 (W.1 + i) (by omega)).2, vk2, vo2, uf_o _ _ (by omega), uf_o _ _ (by omega), uf_o _ _ (by omega), (o2 (W.1 + i) (by omega)).1, (o2 (W.1 + i) (by omega)).2, vk1, vo1, uf_o _ _ (by omega), uf_o _ _ (by omega)]
        rw [gp_l (by simp only [List.length_append, List.length_cons, List.length_nil] <;> omega), gp_l (by simp only [List.length_append, List.length_cons, List.length_nil] <;> omega), gp_l (by simp only [List.length_append, List.length_cons, List.length_nil] <;> omega), gp_l q1]
        exact k1 i q1
      · by_cases q2 : i = c1.length
        · have ei : W.1 + i = W1.1 := by omega
          rw [ei, uf_o _ _ (by omega), (o3 W1.1 (by omega)).1, (o3 W1.1 (by omega)).2, vk2, vo2, uf_o _ _ (by omega), uf_s, (o2 W1.1 (by omega)).1, vk1, uf_s]
          rw [gp_l (by simp only [List.length_append, List.length_cons, List.length_nil] <;> omega), gp_l (by simp only [List.length_append, List.length_cons, List.length_nil] <;> omega), gp_l (by simp only [List.length_append, List.length_cons, List.length_nil] <;> omega), gp_r (by omega), q2, Nat.sub_self]
          show 13 = xk gk (13, c2.length + 2) ∧ W2.1 + 1 = xo gn W1.1 (13, c2.length + 2)
          refine ⟨rfl, ?_⟩
          show W2.1 + 1 = W1.1 + (c2.length + 2)
          omega
        · by_cases q3 : i < c1.length + 1 + c2.length
          · rw [uf_o _ _ (by omega), (o3 (W.1 + i) (by omega)).1, (o3 (W.1 + i) (by omega)).2, vk2, vo2, uf_o _ _ (by omega), uf_o _ _ (by omega), uf_o _ _ (by omega)]
            rw [gp_l (by simp only [List.length_append, List.length_cons, List.length_nil] <;> omega), gp_l (by simp only [List.length_append, List.length_cons, List.length_nil] <;> omega), gp_r (by simp only [List.length_append, List.length_cons, List.length_nil] <;> omega)]
            have := k2 (i - (c1.length + 1)) (by omega)
            rw [show W1.1 + 1 + (i - (c1.length + 1)) = W.1 + i by omega] at this
            rw [ln1]
            exact this
          · by_cases q4 : i = c1.length + 1 + c2.length
            · have ei : W.1 + i = W2.1 := by omega
              rw [ei, uf_s, (o3 W2.1 (by omega)).1, vk2, uf_s]
              rw [gp_l (by simp only [List.length_append, List.length_cons, List.length_nil] <;> omega), gp_r (by simp only [List.length_append, List.length_cons, List.length_nil] <;> omega), q4, ln2, Nat.sub_self]
              show 14 = xk gk (14, c3.length + 1) ∧ W3.1 = xo gn W2.1 (14, c3.length + 1)
              refine ⟨rfl, ?_⟩
              show W3.1 = W2.1 + (c3.length + 1)
              omega
            · rw [uf_o _ _ (by omega)]
              rw [gp_r (by simp only [List.length_append, List.length_cons, List.length_nil] <;> omega)]
              have := k3 (i - (c1.length + 1 + c2.length + 1)) (by omega)
              rw [show W2.1 + 1 + (i - (c1.length + 1 + c2.length + 1)) = W.1 + i by omega] at this
              rw [ln3]
              exact this
    · show W3.2.1 i = _ ∧ uf W3.2.2.1 W2.1 W3.1 i = _
      rw [uf_o _ _ (by omega), (o3 i (by omega)).1, (o3 i (by omega)).2, vk2, vo2, uf_o _ _ (by omega), uf_o _ _ (by omega), uf_o _ _ (by omega), (o2 i (by omega)).1, (o2 i (by omega)).2, vk1, vo1, uf_o _ _ (by omega), uf_o _ _ (by omega)]
      exact o1 i hi
    · have hjC : j ≠ C := by omega
      show W3.2.2.2.1 j = _ ∧ W3.2.2.2.2 j = _
      rw [(t3 j (by omega)).1, (t3 j (by omega)).2, (vt2 j hjC).1, (vt2 j hjC).2, (t2 j (by omega)).1, (t2 j (by omega)).2, (vt1 j hjC).1, (vt1 j hjC).2]
      exact t1 j (by omega)
theorem CR_Pg {ok : Nat → Prop} {lt : Bool} {h : Nat} {m c : List (Nat × Nat)} (hC : CR ok lt h m c) : PgP gk gn h m c := by
  refine hC (PgP gk gn) ⟨fun v _ => ?_, fun _ => ?_, fun s _ => ?_, fun h m c z => PgP_neg z, fun o ho h m c m2 c2 z y => PgP_bin ho z y, fun h m1 c1 m2 c2 m3 c3 x y z => PgP_if x y z, fun h m c z => z⟩
  · exact PgP_leaf (Or.inl rfl) rfl (fun j => rfl)
  · exact PgP_leaf (Or.inr (Or.inl rfl)) rfl (fun j => rfl)
  · exact PgP_leaf (Or.inr (Or.inr rfl)) rfl (fun j => rfl)
end PG
