/-! ===== the machine goes on with another literal ===== -/
def FV3 (Γ : GRT) (T : TST) (S : MST) (e κ : Nat → Nat) (n : Nat) : Prop := ∀ x j, x < 32 → (plP Γ (T.pr n)).ev x = true → (gE (plP Γ (T.pr n)) (e n)).1 = enc x → (gE (plP Γ (T.pr n)) (e n)).2.1 = S.vi n → S.pc = eP Γ (T.pr n) (e n) + j + 1 → j ≤ (rC Γ (T.pr n) x).length → κ n + pgB Γ (T.pr n) = eP Γ (T.pr n) (e n) + j → ∃ A, ACl (rC Γ (T.pr n) x) 0 (rC Γ (T.pr n) x).length 34 1 A ∧ A j S.vs.length
def MOL (Γ : GRT) (T : TST) (b : Bool) (S : MST) : Prop := ∃ e κ, (∃ n bk r, MIr Γ T b S e κ n bk r ∧ FV3 Γ T S e κ n) ∨ MIe Γ T S e κ
section LT
variable {Γ : GRT} {T : TST} {b : Bool} {S : MST} {e κ : Nat → Nat} {n bk : Nat} {r : List (Nat × Nat)}
theorem MOL.ok (h : MOL Γ T b S) : MOK Γ T b S := by
  obtain ⟨e, κ, ⟨n, bk, r, h, _⟩ | h⟩ := h
  · exact ⟨e, κ, Or.inl ⟨n, bk, r, h⟩⟩
  · exact ⟨e, κ, Or.inr h⟩
theorem fv3_at (hG : GOK Γ) (hT : TOK Γ T) (hn : n < T.N) (hs : S.vs = []) (h0 : (gE (plP Γ (T.pr n)) (e n)).2.1 = S.vi n → κ n + pgB Γ (T.pr n) ≤ eP Γ (T.pr n) (e n)) : FV3 Γ T S e κ n := by
  intro x j t2 t3 t5 t6 t7 t8 t10
  obtain ⟨hV, hL, hx, _⟩ := id hG
  have hp : T.pr n < Γ.2.1 := ((hT.2.2 n hn).1).1
  have hd := (plI_A hL hV hp (svs Γ (hdS Γ (T.pr n)))).1 x t3
  obtain ⟨q1, q2, q3, q4, q5⟩ := (hV.2.2.2 _ hp).2.1.2.2 x hd
  have hj : j = 0 := by have := h0 t6; omega
  obtain ⟨A, a1, a2⟩ := (CR_PA q5).2 [] [] 0
  have e3 : ([] : List (Nat × Nat)) ++ ((Γ.2.2.1 (T.pr n)).2.2.2.2.2 x).2.2.2 ++ [] = rC Γ (T.pr n) x := by simp [rC]
  rw [e3] at a2
  refine ⟨A, ?_, by rw [hj, hs]; exact a1⟩
  simpa [rC] using a2
theorem MOL.s (hG : GOK Γ) (hT : TOK Γ T) (h : MOL Γ T b S) : MOL Γ T b (mS1 Γ T b S S.sk) := by
  obtain ⟨e, κ, ⟨n, bk, r, h, hF⟩ | h⟩ := h
  · obtain ⟨_, e', κ', hs, hM, hI⟩ := mi_st4 hG hT h
    have es : mS1 Γ T b S S.sk = mTp Γ T b S n bk r (ins Γ S) := by rw [h.1]; rfl
    rw [es]
    have h4 := h.2.2.2.1.1
    generalize mTp Γ T b S n bk r (ins Γ S) = S' at *
    have bnd : S'.vs = [] → (∀ n' bk' r', S'.sk = (n', bk') :: r' → κ' n' = pgS Γ (T.pr n') (e' n') + (S'.vi n' - 1)) → MOL Γ T b S' := by
      intro hvs hb
      rcases hM with ⟨n', bk', r', hM⟩ | hM
      · refine ⟨e', κ', Or.inl ⟨n', bk', r', hM, fv3_at hG hT hM.2.2.2.1.1 hvs (fun t6 => ?_)⟩⟩
        have hk := hb n' bk' r' hM.1
        have ee : eP Γ (T.pr n') (e' n') = pgB Γ (T.pr n') + (pgS Γ (T.pr n') (e' n') + (S'.vi n' - 1)) := by unfold eP; rw [t6]
        omega
      · exact ⟨e', κ', Or.inr hM⟩
    rcases hI with ⟨x, j, j1, s1, i1, i2, i3, i4, i5⟩ | ⟨x, v, i1, i2, i3, i4, i5⟩ | ⟨o, w, i1, i2, i3, i4, i5⟩ | ⟨i1, i2, i3, i4, i5⟩
    · rcases hM with ⟨n', bk', r', hM⟩ | hM
      · have hsk : S'.sk = S.sk := by rw [i4]
        have hh := hM.1
        rw [hsk, h.1] at hh
        injection hh with z1 z2
        injection z1 with z3 z4
        refine ⟨e', κ', Or.inl ⟨n', bk', r', hM, ?_⟩⟩
        rw [← z3]
        intro y jy u2 u3 u5 u6 u7 u8 u10
        rw [i5] at u5 u6 u7
        obtain ⟨t1, t2, t3, t4, t5, t6, t7, t8, t9, t10⟩ := id i1
        have exy : y = x := by
          have d1 := dx_enc u2
          have d2 := dx_enc t2
          rw [← u5, t5, d2] at d1
          exact d1.symm
        have ej : jy = j1 := by rw [i4] at u7; have u7 : eP Γ (T.pr n) (e n) + j1 + 1 = eP Γ (T.pr n) (e n) + jy + 1 := u7; omega
        rw [exy, ej]
        obtain ⟨A, a1, a2⟩ := hF x j t2 t3 t5 t6 t7 t8 t10
        obtain ⟨j2, s2, b1, b2, b3⟩ := A_stp a1 (gV Γ T b S n) (some (T.li n)) a2 i2
        rw [b1] at i3
        injection i3 with i3
        injection i3 with c1 c2
        refine ⟨A, a1, ?_⟩
        rw [i4, ← c1]
        show A j2 s1.length
        rw [← c2]; exact b3
      · exact ⟨e', κ', Or.inr hM⟩
    · refine bnd ?_ i5
      rw [i3]
      by_cases q : b = false ∧ gK Γ (T.pr n) x + 13 = 16
      · have e2 : mSt T b S n (gK Γ (T.pr n) x + 13, gN Γ (T.pr n) x, x) [v] = (S.pc + 1, S.sk, S.vi, [], S.kp, uf S.va (gN Γ (T.pr n) x) v) := if_pos q
        rw [e2]
      · have e2 : mSt T b S n (gK Γ (T.pr n) x + 13, gN Γ (T.pr n) x, x) [v] = (S.pc + 1, S.sk, S.vi, [], uf2 S.kp (T.ch n (x / 8)) (x % 8) v, S.va) := if_neg q
        rw [e2]
    · exact bnd i3 i5
    · exact bnd i3 i5
  · rw [h.1]
    exact ⟨e, κ, Or.inr h⟩
theorem MOL.runs (hG : GOK Γ) (hT : TOK Γ T) : ∀ k S, MOL Γ T b S → MOL Γ T b (mRun Γ T b k S)
  | 0, _, h => h
  | k + 1, S, h => MOL.runs hG hT k _ (h.s hG hT)
theorem mSt0_ol (hG : GOK Γ) (hT : TOK Γ T) : MOL Γ T b (mSt0 Γ T) := by
  have h0 : 0 < T.N := hT.1
  refine ⟨fun _ => 0, fun _ => 0, Or.inl ⟨0, 0, [], mi_start hG hT _ _, fv3_at hG hT h0 rfl (fun _ => ?_)⟩⟩
  rw [Nat.zero_add]; exact Nat.le_add_right _ _
/-- a tree with another literal -/
def tLv (T : TST) (li : Nat → Int32) : TST := (T.N, T.pr, T.pa, li, T.nc, T.ch, T.pl, T.ab)
theorem TOK.lv (h : TOK Γ T) (li : Nat → Int32) : TOK Γ (tLv T li) := h
theorem MOL.lv (h : MOL Γ T b S) (li : Nat → Int32) : MOL Γ (tLv T li) b S := by
  obtain ⟨e, κ, ⟨n, bk, r, h, hF⟩ | h⟩ := h
  · refine ⟨e, κ, Or.inl ⟨n, bk, r, ?_, hF⟩⟩
    obtain ⟨h1, h2, h3, ⟨h4, h5, h7⟩, h6⟩ := h
    refine ⟨h1, h2, ?_, ⟨h4, h5, ?_⟩, h6⟩
    · have H : ∀ r n bk, SkT Γ T S.vi e κ n bk r → SkT Γ (tLv T li) S.vi e κ n bk r := by
        intro r
        induction r with
        | nil => intro n bk hk; exact hk
        | cons z r ih => intro n bk hk; exact ⟨hk.1, ih _ _ hk.2⟩
      exact H _ _ _ h3
    · rcases h7 with ⟨x, j, ht⟩ | ht
      · refine Or.inl ⟨x, j, ?_⟩
        obtain ⟨t1, t2, t3, t4, t5, t6, t7, t8, t9, t10⟩ := ht
        obtain ⟨A, a1, a2⟩ := hF x j t2 t3 t5 t6 t7 t8 t10
        obtain ⟨k, s', d1, d2⟩ := A_run a1 (gV Γ (tLv T li) b S n) (some (li n)) _ j S.vs (Nat.le_refl _) a2
        have es : ∃ v, s' = [v] := by
          match s', d2 with
          | [v], _ => exact ⟨v, rfl⟩
        obtain ⟨v, es⟩ := es
        rw [es] at d1
        exact ⟨t1, t2, t3, t4, t5, t6, t7, t8, ⟨k, v, d1⟩, t10⟩
      · exact Or.inr ht
  · exact ⟨e, κ, Or.inr h⟩
end LT
