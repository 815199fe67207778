/-! ===== the program, the model's: the parts of a rule ===== -/
/-- a mark as the model keeps it -/
def mkI (n : Nat) : Int32 := if n = 0 then -1 else nI n
theorem mkI_lt {n : Nat} (h : n < 2500) : (mkI n < 0) ↔ n = 0 := by
  unfold mkI
  by_cases e : n = 0
  · rw [if_pos e]; exact ⟨fun _ => e, fun _ => by decide⟩
  · rw [if_neg e]; exact ⟨fun z => absurd z (nI_pos (by omega)), fun z => absurd z e⟩
def S149 : Nat → Nat → Bool := fun a _ => decide (149 ≤ a ∧ a ≤ 151)
/-- the first pass's rows between L and L + N; k of them are done -/
def FpA (σ : ab_S) (L k N : Nat) (S : FPS) : Prop := (∀ j, L ≤ j → j < L + k → σ.2.1 149 j = nI (S.1 j)) ∧ ∀ j, L ≤ j → j < L + N → σ.2.1 150 j = mkI (S.2.1 j) ∧ σ.2.1 151 j = mkI (S.2.2 j)
theorem fpR_b {B : Nat} : ∀ (m : List (Nat × Nat)) (L : Nat) (S : FPS), (∀ j, S.2.1 j ≤ B ∧ S.2.2 j ≤ B) → L + m.length ≤ B + 1 → ∀ j, (fpR L m S).2.1 j ≤ B ∧ (fpR L m S).2.2 j ≤ B
  | [], L, S, h, _ => h
  | z :: r, L, S, h, hb => by
    rw [List.length_cons] at hb
    refine fpR_b r (L + 1) (fp1 S L z.1) (fun j => ?_) (by omega)
    unfold fp1
    split
    · exact h j
    · split
      · exact h j
      · split
        · show uf S.2.1 _ L j ≤ B ∧ uf S.2.2 _ L j ≤ B
          refine ⟨?_, ?_⟩
          · unfold uf; split
            · omega
            · exact (h j).1
          · unfold uf; split
            · omega
            · exact (h j).2
        · exact h j
section MP
variable {σ : ab_S} {p : Nat} {Γ : GRT} {E : String → ab_S → Prop}
theorem m_fp1 {m : List (Nat × Nat)} {L : Nat} (hl : L + m.length ≤ 2400) (hk60 : ∀ z, z ∈ m → z.1 < 60 ∧ z.2 < 1000000) (hM : MCode σ L m) (hok : fpOK L L m (fun _ => 0, fun _ => 0, fun _ => 0)) {a0 : Int32} {Q : ab_S → Prop} (h : ∀ τ, FM S149 σ τ → FpA τ L m.length m.length (fpR L m (fun _ => 0, fun _ => 0, fun _ => 0)) → Q τ) : ∀ r k S τ, m.drop k = r → k ≤ m.length → S = fpR L (m.take k) (fun _ => 0, fun _ => 0, fun _ => 0) → fpOK L (L + k) r S → (∀ j, L ≤ j → j < L + k → L ≤ S.1 j ∧ S.1 j ≤ j) → FM S149 σ τ → FpA τ L k m.length S → wX12_findParts_l29 a0 (nI (L + m.length)) Q E (r.length + 1) (nI (L + k)) τ := by
  intro r
  induction r with
  | nil =>
    intro k S τ hr hk hS _ _ hF hA
    have e : k = m.length := by
      have := congrArg List.length hr
      rw [List.length_drop, List.length_nil] at this
      omega
    show wX12_findParts_l29_b _ _ _ _ _ _ _
    unfold wX12_findParts_l29_b
    rw [e, List.take_length] at hS
    rw [e] at hA
    rw [hS] at hA
    exact yes (by simp (disch := omega) only [nI_lit, nI_add, nI_mulE, nI_clampE, nI_eqE, nI_leE, nI_ltE, vp_nIE, true_and, and_true]; omega) (h τ hF hA)
  | cons z r ih =>
    intro k S τ hr hk hS ho hB hF hA
    have hlen : m.length - k = r.length + 1 := by
      have := congrArg List.length hr
      rw [List.length_drop, List.length_cons] at this
      exact this
    have hk1 : k < m.length := by omega
    have hz : m.getD k (0, 0) = z := by
      rw [List.getD_eq_getElem?_getD]
      have : m[k]? = some z := by
        have := List.getElem?_drop (xs := m) (i := k) (j := 0)
        rw [hr, Nat.add_zero] at this
        exact this.symm
      rw [this]; rfl
    have hmem := gd_mem hk1
    rw [hz] at hmem
    have hb := hk60 _ hmem
    obtain ⟨c1, c2⟩ := hM k hk1
    rw [hz] at c1
    rw [← hF.1 107 _ (decide_eq_false (by omega))] at c1
    have hS' : fp1 S (L + k) z.1 = fpR L (m.take (k + 1)) (fun _ => 0, fun _ => 0, fun _ => 0) := by
      have e1 : m.take (k + 1) = m.take k ++ [z] := by
        rw [List.take_succ, ← hz, List.getD_eq_getElem?_getD, List.getElem?_eq_getElem hk1]; rfl
      rw [e1, fpR_app, ← hS, List.length_take, Nat.min_eq_left (by omega)]; rfl
    have hr' : m.drop (k + 1) = r := by
      have := List.drop_drop (i := 1) (j := k) (l := m)
      rw [hr] at this
      rw [show k + 1 = 1 + k by omega] at *
      first | exact this.symm | (rw [Nat.add_comm] at this; exact this.symm)
    obtain ⟨o1, o2⟩ := ho
    have ecx : (nI (L + k)).toNatClampNeg = L + k := nI_clampE (by omega)
    have evx : vp_in (nI (L + k)) 2500 := by simp (disch := omega) only [nI_lit, nI_add, nI_mulE, nI_clampE, nI_eqE, nI_leE, nI_ltE, vp_nIE, true_and, and_true]; omega
    -- the rest, the row written
    have go : ∀ τ', FM S149 τ τ' → FpA τ' L (k + 1) m.length (fp1 S (L + k) z.1) → (∀ j, L ≤ j → j < L + (k + 1) → L ≤ (fp1 S (L + k) z.1).1 j ∧ (fp1 S (L + k) z.1).1 j ≤ j) → wX12_findParts_j168 a0 (nI (L + m.length)) Q E (wX12_findParts_l29 a0 (nI (L + m.length)) Q E (r.length + 1)) (nI (L + k)) τ' := by
      intro τ' F' A' B'
      unfold wX12_findParts_j168
      rw [nI_1]
      exact fe (ih (k + 1) _ τ' hr' hk1 hS' o2 B' (hF.tr F') A')
    show wX12_findParts_l29_b a0 (nI (L + m.length)) Q E (wX12_findParts_l29 a0 (nI (L + m.length)) Q E (r.length + 1)) (nI (L + k)) τ
    unfold wX12_findParts_l29_b
    rw [ecx, c1]
    refine no (by simp (disch := omega) only [nI_lit, nI_add, nI_mulE, nI_clampE, nI_eqE, nI_leE, nI_ltE, vp_nIE, true_and, and_true]; omega) ⟨evx, fe ?_⟩
    have eq : ∀ w : Nat, w < 60 → (nI z.1 = nI w ↔ z.1 = w) := fun w hw => by rw [nI_eqE (by omega) (by omega)]
    by_cases hlf : z.1 = 40 ∨ z.1 = 41 ∨ z.1 = 50
    · have ef : fp1 S (L + k) z.1 = (uf S.1 (L + k) (L + k), S.2) := by unfold fp1; rw [if_pos hlf]
      have j63 : wX12_findParts_j63 a0 (nI (L + m.length)) Q E (wX12_findParts_l29 a0 (nI (L + m.length)) Q E (r.length + 1)) (nI (L + k)) τ := by
        unfold wX12_findParts_j63
        rw [ecx]
        refine ⟨evx, fe (go _ ((FM.rf _ τ).I (decide_eq_true (by omega))) ?_ ?_)⟩
        · rw [ef]
          refine ⟨fun j j1 j2 => ?_, fun j j1 j2 => ?_⟩
          · rw [gI_I, if_pos rfl]
            show _ = nI (uf S.1 (L + k) (L + k) j)
            by_cases e : j = L + k
            · rw [if_pos e, e, uf_s]
            · rw [if_neg e, uf_o _ _ e]; exact hA.1 j j1 (by omega)
          · rw [gI_I, if_neg (by decide), gI_I, if_neg (by decide)]; exact hA.2 j j1 j2
        · rw [ef]
          intro j j1 j2
          show L ≤ uf S.1 (L + k) (L + k) j ∧ uf S.1 (L + k) (L + k) j ≤ j
          by_cases e : j = L + k
          · rw [e, uf_s]; omega
          · rw [uf_o _ _ e]; exact hB j j1 (by omega)
      by_cases e40 : z.1 = 40
      · exact yes ((eq 40 (by omega)).mpr e40) j63
      · refine no (fun q => e40 ((eq 40 (by omega)).mp q)) ?_
        by_cases e41 : z.1 = 41
        · exact yes ((eq 41 (by omega)).mpr e41) j63
        · refine no (fun q => e41 ((eq 41 (by omega)).mp q)) ?_
          exact no (fun q => q ((eq 50 (by omega)).mpr (by omega))) j63
    · obtain ⟨p1, p2, p3, p4⟩ := o1.resolve_left hlf
      have esub : nI (L + k) - 1 = nI (L + k - 1) := by show nI _ - nI 1 = _; exact nI_subE (by omega)
      have ecs : (nI (L + k - 1)).toNatClampNeg = L + k - 1 := nI_clampE (by omega)
      have evs : vp_in (nI (L + k - 1)) 2500 := by simp (disch := omega) only [nI_lit, nI_add, nI_mulE, nI_clampE, nI_eqE, nI_leE, nI_ltE, vp_nIE, true_and, and_true]; omega
      have w1 : τ.2.1 149 (L + k - 1) = nI (S.1 (L + k - 1)) := hA.1 _ (by omega) (by omega)
      refine no (fun q => hlf (Or.inl ((eq 40 (by omega)).mp q))) (no (fun q => hlf (Or.inr (Or.inl ((eq 41 (by omega)).mp q)))) (yes (fun q => hlf (Or.inr (Or.inr ((eq 50 (by omega)).mp q)))) ?_))
      rw [esub, ecs, w1]
      by_cases e30 : z.1 = 30
      · refine no (fun q => q ((eq 30 (by omega)).mpr e30)) ⟨evs, evx, fe ?_⟩
        have ef : fp1 S (L + k) z.1 = (uf S.1 (L + k) (S.1 (L + k - 1)), S.2) := by unfold fp1; rw [if_neg hlf, if_pos e30]
        refine go _ ((FM.rf _ τ).I (decide_eq_true (by omega))) ?_ ?_
        · rw [ef]
          refine ⟨fun j j1 j2 => ?_, fun j j1 j2 => ?_⟩
          · rw [gI_I, if_pos rfl]
            show _ = nI (uf S.1 (L + k) (S.1 (L + k - 1)) j)
            by_cases e : j = L + k
            · rw [if_pos e, e, uf_s]
            · rw [if_neg e, uf_o _ _ e]; exact hA.1 j j1 (by omega)
          · rw [gI_I, if_neg (by decide), gI_I, if_neg (by decide)]; exact hA.2 j j1 j2
        · rw [ef]
          intro j j1 j2
          show L ≤ uf S.1 (L + k) (S.1 (L + k - 1)) j ∧ uf S.1 (L + k) (S.1 (L + k - 1)) j ≤ j
          by_cases e : j = L + k
          · rw [e, uf_s]; omega
          · rw [uf_o _ _ e]; exact hB j j1 (by omega)
      · obtain ⟨p5, p6, p7, p8⟩ := p4.resolve_left e30
        have esub2 : nI (S.1 (L + k - 1)) - 1 = nI (S.1 (L + k - 1) - 1) := by show nI _ - nI 1 = _; exact nI_subE (by omega)
        have ecs2 : (nI (S.1 (L + k - 1) - 1)).toNatClampNeg = S.1 (L + k - 1) - 1 := nI_clampE (by omega)
        have evs2 : vp_in (nI (S.1 (L + k - 1) - 1)) 2500 := by simp (disch := omega) only [nI_lit, nI_add, nI_mulE, nI_clampE, nI_eqE, nI_leE, nI_ltE, vp_nIE, true_and, and_true]; omega
        have w2 : τ.2.1 149 (S.1 (L + k - 1) - 1) = nI (S.1 (S.1 (L + k - 1) - 1)) := hA.1 _ (by omega) (by omega)
        refine yes (fun q => e30 ((eq 30 (by omega)).mp q)) ⟨evs, fe ?_⟩
        rw [esub2, ecs2, w2]
        refine ⟨evs2, evx, fe ?_⟩
        generalize hr1 : S.1 (L + k - 1) = r1 at *
        generalize hb1 : S.1 (r1 - 1) = b1 at *
        by_cases e31 : z.1 = 31
        · obtain ⟨p9, p10, p11⟩ := p8 e31
          have ef : fp1 S (L + k) z.1 = (uf S.1 (L + k) (S.1 (b1 - 1)), uf S.2.1 b1 (L + k), uf S.2.2 r1 (L + k)) := by unfold fp1; rw [if_neg hlf, if_neg e30, if_pos e31, hr1, hb1]
          have ecr : (nI r1).toNatClampNeg = r1 := nI_clampE (by omega)
          have ecb : (nI b1).toNatClampNeg = b1 := nI_clampE (by omega)
          refine no (fun q => q ((eq 31 (by omega)).mpr e31)) ⟨by simp (disch := omega) only [nI_lit, nI_add, nI_mulE, nI_clampE, nI_eqE, nI_leE, nI_ltE, vp_nIE, true_and, and_true]; omega, fe ⟨evx, ?_⟩⟩
          rw [ecr]
          rw [gI_I, if_neg (by decide), gI_I, if_pos rfl, if_pos rfl, ecb]
          refine ⟨by simp (disch := omega) only [nI_lit, nI_add, nI_mulE, nI_clampE, nI_eqE, nI_leE, nI_ltE, vp_nIE, true_and, and_true]; omega, fe ⟨evx, ?_⟩⟩
          rw [gI_I, if_neg (by decide), gI_I, if_neg (by decide), gI_I, if_pos rfl, if_pos rfl]
          have esub3 : nI b1 - 1 = nI (b1 - 1) := by show nI _ - nI 1 = _; exact nI_subE (by omega)
          rw [esub3, nI_clampE (show b1 - 1 < 2147483648 by omega)]
          refine ⟨by simp (disch := omega) only [nI_lit, nI_add, nI_mulE, nI_clampE, nI_eqE, nI_leE, nI_ltE, vp_nIE, true_and, and_true]; omega, evx, fe ?_⟩
          rw [gI_I, if_neg (by decide), gI_I, if_neg (by decide), gI_I, if_pos rfl, if_neg (by omega), hA.1 (b1 - 1) (by omega) (by omega)]
          refine go _ (((((FM.rf _ τ).I (decide_eq_true (by omega))).I (decide_eq_true (by omega))).I (decide_eq_true (by omega))).I (decide_eq_true (by omega))) ?_ ?_
          · rw [ef]
            refine ⟨fun j j1 j2 => ?_, fun j j1 j2 => ?_⟩
            · rw [gI_I, if_pos rfl]
              show _ = nI (uf S.1 (L + k) (S.1 (b1 - 1)) j)
              by_cases e : j = L + k
              · rw [if_pos e, e, uf_s]
              · rw [if_neg e, uf_o _ _ e, gI_I, if_neg (by decide), gI_I, if_neg (by decide), gI_I, if_pos rfl, if_neg e]; exact hA.1 j j1 (by omega)
            · obtain ⟨m1, m2⟩ := hA.2 j j1 j2
              have hmk : mkI (L + k) = nI (L + k) := by unfold mkI; rw [if_neg (by omega)]
              refine ⟨?_, ?_⟩
              · show _ = mkI (uf S.2.1 b1 (L + k) j)
                rw [gI_I, if_neg (by decide), gI_I, if_pos rfl]
                by_cases e : j = b1
                · rw [if_pos e, e, uf_s, hmk]
                · rw [if_neg e, uf_o _ _ e, gI_I, if_neg (by decide), gI_I, if_neg (by decide)]; exact m1
              · show _ = mkI (uf S.2.2 r1 (L + k) j)
                rw [gI_I, if_neg (by decide), gI_I, if_neg (by decide), gI_I, if_pos rfl]
                by_cases e : j = r1
                · rw [if_pos e, e, uf_s, hmk]
                · rw [if_neg e, uf_o _ _ e, gI_I, if_neg (by decide)]; exact m2
          · rw [ef]
            intro j j1 j2
            show L ≤ uf S.1 (L + k) (S.1 (b1 - 1)) j ∧ uf S.1 (L + k) (S.1 (b1 - 1)) j ≤ j
            by_cases e : j = L + k
            · rw [e, uf_s]; omega
            · rw [uf_o _ _ e]; exact hB j j1 (by omega)
        · have ef : fp1 S (L + k) z.1 = (uf S.1 (L + k) b1, S.2) := by unfold fp1; rw [if_neg hlf, if_neg e30, if_neg e31, hr1, hb1]
          refine yes (fun q => e31 ((eq 31 (by omega)).mp q)) ?_
          refine go _ ((FM.rf _ τ).I (decide_eq_true (by omega))) ?_ ?_
          · rw [ef]
            refine ⟨fun j j1 j2 => ?_, fun j j1 j2 => ?_⟩
            · rw [gI_I, if_pos rfl]
              show _ = nI (uf S.1 (L + k) b1 j)
              by_cases e : j = L + k
              · rw [if_pos e, e, uf_s]
              · rw [if_neg e, uf_o _ _ e]; exact hA.1 j j1 (by omega)
            · rw [gI_I, if_neg (by decide), gI_I, if_neg (by decide)]; exact hA.2 j j1 j2
          · rw [ef]
            intro j j1 j2
            show L ≤ uf S.1 (L + k) b1 j ∧ uf S.1 (L + k) b1 j ≤ j
            by_cases e : j = L + k
            · rw [e, uf_s]; omega
            · rw [uf_o _ _ e]; exact hB j j1 (by omega)
end MP
