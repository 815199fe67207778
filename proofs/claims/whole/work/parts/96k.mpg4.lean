/-! ===== the program, the model's: all of it ===== -/
section MP
variable {σ : ab_S} {p : Nat} {Γ : GRT} {E : String → ab_S → Prop}
variable {K307 : ab_S → Prop} {Q : ab_S → Prop} {a1 x4 : Int32} {Bk : Int32 → Int32 → ab_S → Prop}
theorem S152_146 : ∀ a i, S146 a i = false → S152 a i = false := fun a i y => by have y := of_decide_eq_false y; exact decide_eq_false (by omega)
/-- its own instruction -/
theorem m_in1 (hW : MW σ Γ) (hV : GRV Γ) (hp : p < Γ.2.1) {L N : Nat} {Md La : Nat → Nat} {W : WRS} (hA : WrA σ L N Md La W) {j : Nat} (hj : j ≤ 2400) {z : Nat × Nat} (hz : z.1 < 60 ∧ z.2 < 1000000) (c1 : σ.2.1 107 j = nI z.1) (c2 : σ.2.1 108 j = nI z.2) (hs : z.1 = 50 → slOK (kOf Γ.1 (Γ.2.2.1 p)) z.2) (hi : iok W j z) (hl : (in1 (gK Γ p) (gN Γ p) W j z).1 ≤ 3000) (h : ∀ τ, FM S152 σ τ → WrA τ L N Md La (in1 (gK Γ p) (gN Γ p) W j z) → Bk x4 (nI (j + 1)) τ) : wX12_writeRule_j129 (nI p) a1 Q E K307 Bk x4 (nI j) σ := by
  have hpv := (hV.2.2.2 p hp).2.1
  have h3 := hpv.1
  have ec : (nI j).toNatClampNeg = j := nI_clampE (by omega)
  have ev : vp_in (nI j) 2500 := by simp (disch := omega) only [nI_lit, nI_add, nI_mulE, nI_clampE, nI_eqE, nI_leE, nI_ltE, vp_nIE, true_and, and_true]; omega
  have eq : ∀ w : Nat, w < 60 → (nI z.1 = nI w ↔ z.1 = w) := fun w hw => by rw [nI_eqE (by omega) (by omega)]
  unfold wX12_writeRule_j129
  rw [ec, c1]
  refine ⟨ev, fe ?_⟩
  by_cases e31 : z.1 = 31
  · have hJ := hi.resolve_left (fun q => q e31)
    have em : in1 (gK Γ p) (gN Γ p) W j z = (W.1, W.2.1, uf W.2.2.1 (W.2.2.2.2 j) W.1, W.2.2.2.1, W.2.2.2.2) := by unfold in1; rw [if_pos e31]
    rw [em] at h hl
    have hl : W.1 ≤ 3000 := hl
    refine no (fun q => q ((eq 31 (by omega)).mpr e31)) ⟨ev, ?_⟩
    obtain ⟨a1, a2, a3, a4, a5⟩ := hA
    have t1 : σ.2.1 153 j = nI (W.2.2.2.2 j) := a4 j (by omega)
    rw [t1, nI_clampE (show W.2.2.2.2 j < 2147483648 by omega), a1]
    refine ⟨by simp (disch := omega) only [nI_lit, nI_add, nI_mulE, nI_clampE, nI_eqE, nI_leE, nI_ltE, vp_nIE, true_and, and_true]; omega, fe ?_⟩
    unfold wX12_writeRule_j301
    rw [nI_1]
    refine fe (h _ ((FM.rf _ σ).I (decide_eq_true (by omega))) ⟨by rw [gI_I, if_neg (by decide)]; exact a1, fun i hi => ?_, fun i hi => by rw [gI_I, if_neg (by decide)]; exact a3 i hi, fun i hi => by rw [gI_I, if_neg (by decide)]; exact a4 i hi, fun i i1 i2 => by rw [gI_I, if_neg (by decide), gI_I, if_neg (by decide)]; exact a5 i i1 i2⟩)
    obtain ⟨b1, b2⟩ := a2 i hi
    rw [gI_I, if_neg (by decide), gI_I, if_pos rfl]
    refine ⟨b1, ?_⟩
    show _ = nI (uf W.2.2.1 (W.2.2.2.2 j) W.1 i)
    by_cases e2 : i = W.2.2.2.2 j
    · rw [if_pos e2, e2, uf_s]
    · rw [if_neg e2, uf_o _ _ e2]; exact b2
  · have em : in1 (gK Γ p) (gN Γ p) W j z = (W.1 + 1, uf W.2.1 W.1 (ik (gK Γ p) z), uf W.2.2.1 W.1 (io (gN Γ p) z), W.2.2.2.1, W.2.2.2.2) := by unfold in1; rw [if_neg e31]
    rw [em] at h hl
    have hl : W.1 + 1 ≤ 3000 := hl
    have wr : ∀ k v, k = ik (gK Γ p) z → v = io (gN Γ p) z → wX12_write (nI k) (nI v) (fun σ7 => wX12_writeRule_j301 (nI p) a1 Q E K307 Bk x4 (nI j) σ7) E σ := by
      intro k v hk hv
      refine hA.wr (by omega) (fun τ F A => ?_)
      unfold wX12_writeRule_j301
      rw [nI_1]
      rw [hk, hv] at A
      exact fe (h τ F A)
    refine yes (fun q => e31 ((eq 31 (by omega)).mp q)) ?_
    by_cases e40 : z.1 = 40
    · refine yes ((eq 40 (by omega)).mpr e40) ?_
      unfold wX12_writeRule_j178
      refine no (fun q => q ((eq 40 (by omega)).mpr e40)) ?_
      unfold wX12_writeRule_j191
      refine no (fun q => q ((eq 40 (by omega)).mpr e40)) ?_
      rw [ec, c2]
      refine ⟨ev, ?_⟩
      unfold wX12_writeRule_j209
      exact wr 0 z.2 (by unfold ik; rw [if_pos e40]) (by unfold io; rw [if_pos e40])
    · refine no (fun q => e40 ((eq 40 (by omega)).mp q)) ?_
      by_cases e41 : z.1 = 41
      · refine no (fun q => q ((eq 41 (by omega)).mpr e41)) ?_
        unfold wX12_writeRule_j178
        refine yes (fun q => e40 ((eq 40 (by omega)).mp q)) ?_
        unfold wX12_writeRule_j191
        refine yes (fun q => e40 ((eq 40 (by omega)).mp q)) ?_
        unfold wX12_writeRule_j209
        exact wr 1 0 (by unfold ik; rw [if_neg e40, if_pos e41]) (by unfold io; rw [if_neg e40, if_neg (by omega)])
      · refine yes (fun q => e41 ((eq 41 (by omega)).mp q)) ?_
        by_cases e50 : z.1 = 50
        · refine no (fun q => q ((eq 50 (by omega)).mpr e50)) ⟨ev, ?_⟩
          obtain ⟨s1, s2, s3⟩ := hs e50
          have s1 : z.2 / 8 ≤ (Γ.2.2.1 p).2.1 := s1
          have s2 : z.2 % 8 < Γ.1.2.2.1 (oSy Γ p (z.2 / 8)) := s2
          have hst := stv_le Γ (oSy Γ p (z.2 / 8)) (z.2 % 8)
          have j273 : ∀ k, k = gK Γ p z.2 → wX12_writeRule_j273 (nI p) a1 Q E K307 Bk x4 (nI j) (nI k) σ := by
            intro k hk
            unfold wX12_writeRule_j273
            rw [ec, c2]
            refine ⟨ev, ?_⟩
            refine m_tB hW hV hp (by omega) s1 s2 ?_
            exact wr k _ (by rw [hk]; unfold ik; rw [if_neg e40, if_neg e41, if_pos e50]) (by unfold io; rw [if_neg e40, if_pos e50])
          rw [c2]
          refine m_stA hW hV hp (by omega) s1 s2 ?_
          by_cases t2 : stv Γ (oSy Γ p (z.2 / 8)) (z.2 % 8) = 2
          · exact no (fun q => q (by rw [t2]; rfl)) (j273 2 (by unfold gK; rw [if_neg (by omega), if_neg (by omega)]))
          · refine yes (by show ¬ _ = nI 2; rw [nI_eqE (by omega) (by omega)]; exact t2) ?_
            by_cases t0 : stv Γ (oSy Γ p (z.2 / 8)) (z.2 % 8) = 0
            · exact no (fun q => q (by rw [t0]; rfl)) (j273 3 (by unfold gK; rw [if_pos t0]))
            · refine yes (by show ¬ _ = nI 0; rw [nI_eqE (by omega) (by omega)]; exact t0) ⟨ev, ?_⟩
              rw [c2]
              by_cases x8 : z.2 < 8
              · exact no (by simp (disch := omega) only [nI_lit, nI_add, nI_mulE, nI_clampE, nI_eqE, nI_leE, nI_ltE, vp_nIE, true_and, and_true]; omega) (j273 5 (by unfold gK; rw [if_neg t0, if_pos (by omega), if_pos x8]))
              · exact yes (by simp (disch := omega) only [nI_lit, nI_add, nI_mulE, nI_clampE, nI_eqE, nI_leE, nI_ltE, vp_nIE, true_and, and_true]; omega) (j273 4 (by unfold gK; rw [if_neg t0, if_pos (by omega), if_neg x8]))
        · refine yes (fun q => e50 ((eq 50 (by omega)).mp q)) ?_
          have hio : (0 : Nat) = io (gN Γ p) z := by unfold io; rw [if_neg e40, if_neg e50]
          have hik : ∀ k, (z.1 = 30 ∧ k = 6) ∨ (z.1 ≠ 30 ∧ k = bo z.1) → k = ik (gK Γ p) z := by
            intro k hk
            unfold ik
            rw [if_neg e40, if_neg e41, if_neg e50]
            rcases hk with ⟨q, r⟩ | ⟨q, r⟩
            · rw [if_pos q]; exact r
            · rw [if_neg q]; exact r
          unfold wX12_kindOf
          by_cases e30 : z.1 = 30
          · exact no (fun q => q ((eq 30 (by omega)).mpr e30)) (wr 6 0 (hik 6 (Or.inl ⟨e30, rfl⟩)) hio)
          · refine yes (fun q => e30 ((eq 30 (by omega)).mp q)) ?_
            by_cases e13 : z.1 = 13
            · exact no (fun q => q ((eq 13 (by omega)).mpr e13)) (wr 7 0 (hik 7 (Or.inr ⟨e30, by rw [e13]; rfl⟩)) hio)
            · refine yes (fun q => e13 ((eq 13 (by omega)).mp q)) ?_
              by_cases e14 : z.1 = 14
              · exact no (fun q => q ((eq 14 (by omega)).mpr e14)) (wr 8 0 (hik 8 (Or.inr ⟨e30, by rw [e14]; rfl⟩)) hio)
              · refine yes (fun q => e14 ((eq 14 (by omega)).mp q)) ?_
                by_cases e15 : z.1 = 15
                · exact no (fun q => q ((eq 15 (by omega)).mpr e15)) (wr 9 0 (hik 9 (Or.inr ⟨e30, by rw [e15]; rfl⟩)) hio)
                · refine yes (fun q => e15 ((eq 15 (by omega)).mp q)) ?_
                  by_cases e16 : z.1 = 16
                  · exact no (fun q => q ((eq 16 (by omega)).mpr e16)) (wr 10 0 (hik 10 (Or.inr ⟨e30, by rw [e16]; rfl⟩)) hio)
                  · refine yes (fun q => e16 ((eq 16 (by omega)).mp q)) ?_
                    by_cases e17 : z.1 = 17
                    · exact no (fun q => q ((eq 17 (by omega)).mpr e17)) (wr 11 0 (hik 11 (Or.inr ⟨e30, by rw [e17]; rfl⟩)) hio)
                    · refine yes (fun q => e17 ((eq 17 (by omega)).mp q)) (wr 12 0 (hik 12 (Or.inr ⟨e30, ?_⟩)) hio)
                      unfold bo
                      rw [if_neg e13, if_neg e14, if_neg e15, if_neg e16, if_neg e17]
theorem m_wrL (hW : MW σ Γ) (hV : GRV Γ) (hp : p < Γ.2.1) {m : List (Nat × Nat)} {L : Nat} {Md La : Nat → Nat} (hl : L + m.length ≤ 2400) (hk60 : ∀ z, z ∈ m → z.1 < 60 ∧ z.2 < 1000000) (h50 : ∀ z, z ∈ m → z.1 = 50 → slOK (kOf Γ.1 (Γ.2.2.1 p)) z.2) (hM : MCode σ L m) (hb : ∀ j, Md j ≤ 2400 ∧ La j ≤ 2400) : ∀ r k W τ, m.drop k = r → k ≤ m.length → wrOK (gK Γ p) (gN Γ p) Md La (L + k) r W → (wrR (gK Γ p) (gN Γ p) Md La (L + k) r W).1 ≤ 3000 → FM S152 σ τ → WrA τ L m.length Md La W → (∀ τ', FM S152 σ τ' → WrA τ' L m.length Md La (wrR (gK Γ p) (gN Γ p) Md La (L + k) r W) → K307 τ') → wX12_writeRule_l35 (nI p) a1 Q E K307 (r.length + 1) (nI (L + m.length)) (nI (L + k)) τ := by
  intro r
  induction r with
  | nil =>
    intro k W τ hr hk _ _ hF hA h
    have e : k = m.length := by
      have := congrArg List.length hr
      rw [List.length_drop, List.length_nil] at this
      omega
    show wX12_writeRule_l35_b _ _ _ _ _ _ _ _ _
    unfold wX12_writeRule_l35_b
    exact yes (by simp (disch := omega) only [nI_lit, nI_add, nI_mulE, nI_clampE, nI_eqE, nI_leE, nI_ltE, vp_nIE, true_and, and_true]; omega) (h τ hF hA)
  | cons z r ih =>
    intro k W τ hr hk ho hI hF hA h
    have hlen : m.length - k = r.length + 1 := by
      have := congrArg List.length hr
      rw [List.length_drop, List.length_cons] at this
      exact this
    have hk1 : k < m.length := by omega
    have hz : m.getD k (0, 0) = z := by
      rw [List.getD_eq_getElem?_getD]
      have : m[k]? = some z := by
        have := List.getElem?_drop (xs := m) (i := k) (j := 0)
        rw [hr, Nat.add_zero] at this
        exact this.symm
      rw [this]; rfl
    have hmem := gd_mem hk1
    rw [hz] at hmem
    have hb0 := hk60 _ hmem
    obtain ⟨c1, c2⟩ := hM k hk1
    rw [hz] at c1 c2
    have hr' : m.drop (k + 1) = r := by
      have := List.drop_drop (i := 1) (j := k) (l := m)
      rw [hr] at this
      rw [show k + 1 = 1 + k by omega] at *
      first | exact this.symm | (rw [Nat.add_comm] at this; exact this.symm)
    obtain ⟨o1, o2, o3⟩ := ho
    have hI : (wrR (gK Γ p) (gN Γ p) Md La (L + k + 1) r (in1 (gK Γ p) (gN Γ p) (mk1 Md La W (L + k)) (L + k) z)).1 ≤ 3000 := hI
    have i1 := wrR_mo (gk := gK Γ p) (gn := gN Γ p) (Md := Md) (La := La) r (L + k + 1) (in1 (gK Γ p) (gN Γ p) (mk1 Md La W (L + k)) (L + k) z)
    have i2 := in1_mo (gk := gK Γ p) (gn := gN Γ p) (W := mk1 Md La W (L + k)) (j := L + k) (z := z)
    have i3 := mkB_mo (La := La) (W := mkA Md W (L + k)) (j := L + k)
    have i4 : (mk1 Md La W (L + k)).1 = (mkB La (mkA Md W (L + k)) (L + k)).1 := rfl
    show wX12_writeRule_l35_b (nI p) a1 Q E K307 (wX12_writeRule_l35 (nI p) a1 Q E K307 (r.length + 1)) (nI (L + m.length)) (nI (L + k)) τ
    refine m_mkTe hA (by omega) (by omega) hl (hb _).1 (by omega) (by simp (disch := omega) only [nI_lit, nI_add, nI_mulE, nI_clampE, nI_eqE, nI_leE, nI_ltE, vp_nIE, true_and, and_true]; omega) (fun τ1 F1 A1 => ?_)
    refine m_mkJu A1 (by omega) (by omega) hl (hb _).2 o1 (by omega) (fun τ2 F2 A2 => ?_)
    have F02 : FM S152 σ τ2 := (hF.tr F1).tr F2
    refine m_in1 (hW.s146 hV (F02.mono S152_146)) hV hp A2 (by omega) hb0 (by rw [F02.1 _ _ (decide_eq_false (by omega))]; exact c1) (by rw [F02.1 _ _ (decide_eq_false (by omega))]; exact c2) (h50 z hmem) o2 (by show (in1 (gK Γ p) (gN Γ p) (mk1 Md La W (L + k)) (L + k) z).1 ≤ 3000; omega) (fun τ3 F3 A3 => ?_)
    exact ih (k + 1) _ τ3 hr' hk1 o3 hI (F02.tr F3) A3 h
/-- what is written so far -/
def PgM (σ : ab_S) (A : List (Nat × Nat × Nat)) : Prop := σ.2.1 92 74 = nI A.length ∧ ∀ j, j < A.length → σ.2.1 146 j = nI (A.getD j (0, 0, 0)).1 ∧ σ.2.1 147 j = nI (A.getD j (0, 0, 0)).2.1
theorem PgM.fm {S : Nat → Nat → Bool} {σ σ' : ab_S} {A : List (Nat × Nat × Nat)} (h : PgM σ A) (f : FM S σ σ') (e : ∀ a i, (a = 92 ∧ i = 74) ∨ a = 146 ∨ a = 147 → S a i = false) : PgM σ' A := by
  refine ⟨by rw [f.1 _ _ (e _ _ (by omega))]; exact h.1, fun j hj => ?_⟩
  rw [f.1 146 _ (e _ _ (by omega)), f.1 147 _ (e _ _ (by omega))]
  exact h.2 j hj
theorem m_pad {A : List (Nat × Nat × Nat)} (hA : PgM σ A) (hl : A.length < 3000) {k n s : Nat} {Q : ab_S → Prop} (h : ∀ τ, FM S146 σ τ → (∀ j, τ.2.1 148 j = σ.2.1 148 j) → PgM τ (A ++ [(k, n, s)]) → Q τ) : wX12_write (nI k) (nI n) Q E σ := by
  refine m_wr hA.1 hl (h _ ((((FM.rf _ σ).I (decide_eq_true (by omega))).I (decide_eq_true (by omega))).I (decide_eq_true (by omega))) (fun j => by rw [gI_I, if_neg (by decide), gI_I, if_neg (by decide), gI_I, if_neg (by decide)]) ⟨?_, fun j hj => ?_⟩)
  · rw [gI_I, if_pos rfl, if_pos rfl, List.length_append]; rfl
  · rw [List.length_append, List.length_singleton] at hj
    refine ⟨?_, ?_⟩
    · rw [gI_I, if_neg (by decide), gI_I, if_neg (by decide), gI_I, if_pos rfl]
      by_cases e : j = A.length
      · rw [if_pos e, e, ge_e]
      · rw [if_neg e, ge_l (by omega)]; exact (hA.2 j (by omega)).1
    · rw [gI_I, if_neg (by decide), gI_I, if_pos rfl]
      by_cases e : j = A.length
      · rw [if_pos e, e, ge_e]
      · rw [if_neg e, ge_l (by omega), gI_I, if_neg (by decide)]; exact (hA.2 j (by omega)).2
theorem ge_r {a b : List (Nat × Nat × Nat)} {i : Nat} (h : a.length ≤ i) : (a ++ b).getD i (0, 0, 0) = b.getD (i - a.length) (0, 0, 0) := by simp [List.getD_eq_getElem?_getD, List.getElem?_append_right h]
theorem m_rul (hW : MW σ Γ) (hV : GRV Γ) (hp : p < Γ.2.1) {x : Nat} (hd : (Γ.2.2.1 p).2.2.2.2.1 x = true) (ho : x / 8 ≤ (Γ.2.2.1 p).2.1) (ha : x % 8 < Γ.1.2.2.1 (oSy Γ p (x / 8))) {A : List (Nat × Nat × Nat)} (hA : PgM σ A) (hl : A.length + (rC Γ p x).length < 3000) {Q : ab_S → Prop} (h : ∀ τ, FM S146 σ τ → (∀ j, τ.2.1 148 j = σ.2.1 148 j) → PgM τ (A ++ (exL Γ p A.length (rC Γ p x) ++ [(gK Γ p x + 13, gN Γ p x, x)])) → Q τ) : wX12_writeRule (nI p) (nI x) Q E σ := by
  have h30 := hV.2.1
  have hpv := (hV.2.2.2 p hp).2.1
  have h3 := hpv.1
  have hlm := hW.1.2.2
  obtain ⟨q1, q2, q3, q4, q5⟩ := hpv.2.2 x hd
  obtain ⟨b1, b2, b3⟩ := ((hW.1.1.2.2.2 p hp).2.2.2.2 x q1).1 hd
  have hbd := CR_bd q5 (fun s hs => by have h1 : s / 8 ≤ (Γ.2.2.1 p).2.1 := hs.1; omega)
  have hok : ∀ z, z ∈ ((Γ.2.2.1 p).2.2.2.2.2 x).2.1 → z.1 = 50 → slOK (kOf Γ.1 (Γ.2.2.1 p)) z.2 := by
    intro z hz h2
    refine (CR_nm q5).2 z.2 ?_
    rw [← (CR_nm q5).1]
    unfold nmA
    rw [List.any_eq_true]
    exact ⟨z, hz, decide_eq_true ⟨h2, rfl⟩⟩
  have hPg : PgP (gK Γ p) (gN Γ p) 34 ((Γ.2.2.1 p).2.2.2.2.2 x).2.1 (rC Γ p x) := CR_Pg q5
  have e32 : (32 : Int32) * nI p + nI x = nI (32 * p + x) := by show nI 32 * nI p + _ = _; rw [nI_mulE, nI_add]
  have ec : (nI (32 * p + x)).toNatClampNeg = 32 * p + x := nI_clampE (by omega)
  have ev : vp_in (nI (32 * p + x)) 992 := by simp (disch := omega) only [nI_lit, nI_add, nI_mulE, nI_clampE, nI_eqE, nI_leE, nI_ltE, vp_nIE, true_and, and_true]; omega
  have hbd1 := hbd.1
  clear q4 q5 hbd
  generalize rC Γ p x = c at *
  generalize ((Γ.2.2.1 p).2.2.2.2.2 x).2.1 = m at *
  generalize ((Γ.2.2.1 p).2.2.2.2.2 x).1 = L at *
  unfold wX12_writeRule
  rw [e32, ec, b1]
  refine ⟨ev, fe ⟨ev, ?_⟩⟩
  rw [b2]
  refine fe ?_
  refine m_fP (by omega) hbd1 b3 hPg (fun τ F1 A1 => ⟨m.length + 1, ?_⟩)
  obtain ⟨S, hS⟩ : ∃ S, S = fpR L m (fun _ => 0, fun _ => 0, fun _ => 0) := ⟨_, rfl⟩
  have hSb : ∀ j, S.2.1 j ≤ 2400 ∧ S.2.2 j ≤ 2400 := by rw [hS]; exact fpR_b m L _ (fun j => ⟨Nat.zero_le _, Nat.zero_le _⟩) (by omega)
  obtain ⟨g0, g1, g2, g3, g4⟩ := hPg.2 L (fun _ => 0, fun _ => 0, fun _ => 0) (fun _ _ _ => ⟨rfl, rfl⟩)
  rw [← hS] at g1 g2 g3 g4 A1
  obtain ⟨W0, hW0⟩ : ∃ W0 : WRS, W0 = (A.length, fun j => (A.getD j (0, 0, 0)).1, fun j => (A.getD j (0, 0, 0)).2.1, fun _ => 9999, fun _ => 9999) := ⟨_, rfl⟩
  obtain ⟨em, ok⟩ := g4 S.2.1 S.2.2 (fun j _ _ => ⟨rfl, rfl⟩) W0
  have z0 := g3 L (Or.inl (Nat.le_refl _))
  have em0 : mk1 S.2.1 S.2.2 W0 L = W0 := mk_0 z0.1 z0.2
  have ewr : wrR (gK Γ p) (gN Γ p) S.2.1 S.2.2 L m W0 = zR (gK Γ p) (gN Γ p) S.2.1 S.2.2 L m W0 := by rw [wr_z _ _ _ _ _ _ hPg.1, em0]
  have okw : wrOK (gK Γ p) (gN Γ p) S.2.1 S.2.2 L m W0 := wrOK_z _ _ _ _ _ _ hPg.1 (Or.inl z0.2) (by rw [em0]; exact ok)
  rw [← ewr] at em
  have F146 : FM S146 σ τ := F1.mono (fun a i y => by have y := of_decide_eq_false y; exact decide_eq_false (by omega))
  have W1 := hW.s146 hV F146
  have hM1 : MCode τ L m := fun i hi => by rw [F146.1 107 _ (decide_eq_false (by omega)), F146.1 108 _ (decide_eq_false (by omega))]; exact b3 i hi
  have A0 : WrA τ L m.length S.2.1 S.2.2 W0 := by
    rw [hW0]
    refine ⟨by rw [F1.1 _ _ (decide_eq_false (by omega))]; exact hA.1, fun j hj => ?_, fun j hj => ?_, fun j hj => ?_, A1.2⟩
    · rw [F1.1 146 _ (decide_eq_false (by omega)), F1.1 147 _ (decide_eq_false (by omega))]; exact hA.2 j hj
    · have hj : 9999 < 7000 := hj; omega
    · have hj : 9999 < 7000 := hj; omega
  have w01 : W0.1 = A.length := by rw [hW0]
  refine m_wrL W1 hV hp (by omega) hbd1 hok hM1 hSb m 0 W0 τ rfl (Nat.zero_le _) okw (by rw [Nat.add_zero, em.1, w01]; omega) (FM.rf _ _) A0 (fun τ2 F2 A2 => ?_)
  rw [Nat.add_zero] at A2
  have F12 : FM S146 σ τ2 := F146.tr (F2.mono S152_146)
  have W2 := hW.s146 hV F12
  have P2 : PgM τ2 (A ++ exL Γ p A.length c) := by
    obtain ⟨i1, i2, i3, i4⟩ := em
    refine ⟨by rw [A2.1, i1, w01, List.length_append, exL_len], fun j hj => ?_⟩
    rw [List.length_append, exL_len] at hj
    obtain ⟨k1, k2⟩ := A2.2.1 j (by rw [i1, w01]; exact hj)
    rw [k1, k2]
    by_cases hjA : j < A.length
    · rw [ge_l hjA, (i3 j (by rw [w01]; exact hjA)).1, (i3 j (by rw [w01]; exact hjA)).2, hW0]
      exact ⟨rfl, rfl⟩
    · rw [ge_r (by omega), exL_get Γ p c A.length (j - A.length) (by omega)]
      have := i2 (j - A.length) (by omega)
      rw [w01, show A.length + (j - A.length) = j by omega] at this
      rw [this.1, this.2, show A.length + (j - A.length) = j by omega]
      exact ⟨rfl, rfl⟩
  clear em ok okw ewr em0 A2 A0 A1 hA
  unfold wX12_writeRule_j307
  have hst := stv_le Γ (oSy Γ p (x / 8)) (x % 8)
  refine m_stA W2 hV hp q1 ho ha ?_
  have fin : ∀ k, k = gK Γ p x + 13 → wX12_writeRule_j350 (nI p) (nI x) Q E (nI k) τ2 := by
    intro k hk
    unfold wX12_writeRule_j350
    refine m_tB W2 hV hp q1 ho ha ?_
    refine m_pad P2 (s := x) (by rw [List.length_append, exL_len]; omega) (fun τ3 F3 h3 P3 => h τ3 (F12.tr F3) (fun j => by rw [h3, F2.1 _ _ (decide_eq_false (by omega)), F1.1 _ _ (decide_eq_false (by omega))]) ?_)
    rw [hk, List.append_assoc] at P3
    exact P3
  by_cases t2 : stv Γ (oSy Γ p (x / 8)) (x % 8) = 2
  · exact no (fun q => q (by rw [t2]; rfl)) (fin 15 (by unfold gK; rw [if_neg (by omega), if_neg (by omega)]))
  · refine yes (by show ¬ _ = nI 2; rw [nI_eqE (by omega) (by omega)]; exact t2) ?_
    by_cases t0 : stv Γ (oSy Γ p (x / 8)) (x % 8) = 0
    · exact no (fun q => q (by rw [t0]; rfl)) (fin 16 (by unfold gK; rw [if_pos t0]))
    · refine yes (by show ¬ _ = nI 0; rw [nI_eqE (by omega) (by omega)]; exact t0) ?_
      by_cases x8 : x < 8
      · exact no (by simp (disch := omega) only [nI_lit, nI_add, nI_mulE, nI_clampE, nI_eqE, nI_leE, nI_ltE, vp_nIE, true_and, and_true]; omega) (fin 18 (by unfold gK; rw [if_neg t0, if_pos (by omega), if_pos x8]))
      · exact yes (by simp (disch := omega) only [nI_lit, nI_add, nI_mulE, nI_clampE, nI_eqE, nI_leE, nI_ltE, vp_nIE, true_and, and_true]; omega) (fin 17 (by unfold gK; rw [if_neg t0, if_pos (by omega), if_neg x8]))
end MP
