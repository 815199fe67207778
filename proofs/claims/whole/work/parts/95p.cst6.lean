/-! ===== stores, the class's: the store of an attribute ===== -/
def allS (Γ : GRT) (s a : Nat) : Prop := ∀ p o, p < Γ.2.1 → o ≤ (Γ.2.2.1 p).2.1 → oSy Γ p o = s → shA Γ p o a
def allA (Γ : GRT) (s a : Nat) : Prop := ∀ p o, p < Γ.2.1 → o ≤ (Γ.2.2.1 p).2.1 → oSy Γ p o = s → alA Γ p o a
section CS
variable {σ : ab_S} {g : Nat} {Γ : GRT} {E : String → ab_S → Prop}
theorem c_kOf (hZ : CZ σ g Γ) (hD : CDf σ Γ) (hV : GRV Γ) (hL : LVF Γ) (hx : ∀ p, p < Γ.2.1 → crc (xR Γ p) = false) {s a : Nat} (hs : s < Γ.1.1) (ha : a < Γ.1.2.2.1 s) {Q : Int32 → ab_S → Prop} (h2 : ¬ allS Γ s a → Q 2 σ) (h1 : allS Γ s a → ¬ allA Γ s a → Q 1 σ) (h0 : allS Γ s a → allA Γ s a → Q 0 σ) : wX7_kindOf (nI s) (nI a) Q E σ := by
  have h30 := hV.2.1
  have h12 := hV.1.1
  have second : allS Γ s a → wX7_kindOf_j69 (nI s) (nI a) Q E σ := by
    intro hall
    refine ⟨Γ.2.1 + 1, ?_⟩
    suffices H : ∀ f p, Γ.2.1 - p = f → p ≤ Γ.2.1 → (∀ p' o, p' < p → o ≤ (Γ.2.2.1 p').2.1 → oSy Γ p' o = s → alA Γ p' o a) → wX7_kindOf_l71 (nI s) (nI a) Q E (f + 1) (nI p) σ from H _ 0 rfl (Nat.zero_le _) (fun p' o hp' => absurd hp' (Nat.not_lt_zero _))
    intro f
    induction f with
    | zero =>
      intro p hf hp hd
      show wX7_kindOf_l71_b _ _ _ _ _ _ _
      unfold wX7_kindOf_l71_b
      refine ⟨g, hZ.2.1, hZ.1.1, ?_⟩
      rw [hZ.1.2.2.1.2.1]
      exact yes (by simp (disch := omega) only [nI_lit, nI_add, nI_mulE, nI_clampE, nI_eqE, nI_leE, nI_ltE, vp_nIE, true_and, and_true]; omega) (h0 hall (fun p' o q1 q2 q3 => hd p' o (by omega) q2 q3))
    | succ f ih =>
      intro p hf hp hd
      have hp1 : p < Γ.2.1 := by omega
      have h3 := (hV.2.2.2 p hp1).2.1.1
      have hO := hZ.1.2.2.1.of hV hZ.1.1 hp1
      show wX7_kindOf_l71_b (nI s) (nI a) Q E (wX7_kindOf_l71 (nI s) (nI a) Q E (f + 1)) (nI p) σ
      unfold wX7_kindOf_l71_b
      refine ⟨g, hZ.2.1, hZ.1.1, ?_⟩
      rw [hZ.1.2.2.1.2.1]
      refine no (by simp (disch := omega) only [nI_lit, nI_add, nI_mulE, nI_clampE, nI_eqE, nI_leE, nI_ltE, vp_nIE, true_and, and_true]; omega) ⟨(Γ.2.2.1 p).2.1 + 2, ?_⟩
      suffices H2 : ∀ f2 o, (Γ.2.2.1 p).2.1 + 1 - o = f2 → o ≤ (Γ.2.2.1 p).2.1 + 1 → (∀ o', o' < o → oSy Γ p o' = s → alA Γ p o' a) → wX7_kindOf_l85 (nI s) (nI a) Q E (wX7_kindOf_j132 (nI s) (nI a) Q E (wX7_kindOf_l71 (nI s) (nI a) Q E (f + 1))) (f2 + 1) (nI p) (nI o) σ from H2 _ 0 rfl (Nat.zero_le _) (fun o' ho' => absurd ho' (Nat.not_lt_zero _))
      intro f2
      induction f2 with
      | zero =>
        intro o hf2 ho hd2
        show wX7_kindOf_l85_b _ _ _ _ _ _ _ _ _
        unfold wX7_kindOf_l85_b
        refine ⟨g, hZ.2.1, hZ.1.1, by simp (disch := omega) only [nI_lit, nI_add, nI_mulE, nI_clampE, nI_eqE, nI_leE, nI_ltE, vp_nIE, true_and, and_true]; omega, ?_⟩
        rw [nI_clampE (show p < 2147483648 by omega), hO.2.2.2.2.1]
        refine yes (by simp (disch := omega) only [nI_lit, nI_add, nI_mulE, nI_clampE, nI_eqE, nI_leE, nI_ltE, vp_nIE, true_and, and_true]; omega) ?_
        unfold wX7_kindOf_j132
        rw [nI_1]
        refine fe (ih (p + 1) (by omega) (by omega) (fun p' o' q1 q2 q3 => ?_))
        by_cases e : p' = p
        · rw [e] at q2 q3 ⊢; exact hd2 o' (by omega) q3
        · exact hd p' o' (by omega) q2 q3
      | succ f2 ih2 =>
        intro o hf2 ho hd2
        have ho1 : o ≤ (Γ.2.2.1 p).2.1 := by omega
        have hs1 : oSy Γ p o < Γ.1.1 := (hV.2.2.2 p hp1).2.1.2.1 o ho1
        have q1 : (Γ.2.2.1 p).2.1 + 1 - (o + 1) = f2 := by omega
        show wX7_kindOf_l85_b (nI s) (nI a) Q E (wX7_kindOf_j132 (nI s) (nI a) Q E (wX7_kindOf_l71 (nI s) (nI a) Q E (f + 1))) (wX7_kindOf_l85 (nI s) (nI a) Q E (wX7_kindOf_j132 (nI s) (nI a) Q E (wX7_kindOf_l71 (nI s) (nI a) Q E (f + 1))) (f2 + 1)) (nI p) (nI o) σ
        unfold wX7_kindOf_l85_b
        refine ⟨g, hZ.2.1, hZ.1.1, by simp (disch := omega) only [nI_lit, nI_add, nI_mulE, nI_clampE, nI_eqE, nI_leE, nI_ltE, vp_nIE, true_and, and_true]; omega, ?_⟩
        rw [nI_clampE (show p < 2147483648 by omega), hO.2.2.2.2.1]
        refine no (by simp (disch := omega) only [nI_lit, nI_add, nI_mulE, nI_clampE, nI_eqE, nI_leE, nI_ltE, vp_nIE, true_and, and_true]; omega) ⟨g, hZ.2.1, hZ.1.1, ?_⟩
        refine c_sym hZ hV hp1 ho1 ?_
        have next : (oSy Γ p o = s → alA Γ p o a) → wX7_kindOf_j126 (nI s) (nI a) Q E (wX7_kindOf_j132 (nI s) (nI a) Q E (wX7_kindOf_l71 (nI s) (nI a) Q E (f + 1))) (wX7_kindOf_l85 (nI s) (nI a) Q E (wX7_kindOf_j132 (nI s) (nI a) Q E (wX7_kindOf_l71 (nI s) (nI a) Q E (f + 1))) (f2 + 1)) (nI p) (nI o) σ := by
          intro hh
          unfold wX7_kindOf_j126
          rw [nI_1]
          refine fe (ih2 (o + 1) q1 (by omega) (fun o' ho' => ?_))
          by_cases e : o' = o
          · rw [e]; exact hh
          · exact hd2 o' (by omega)
        by_cases e : oSy Γ p o = s
        · refine no (fun q => q (by rw [e])) ?_
          refine c_alA hZ hD hV hL hp1 (hx p hp1) ho1 (by rw [e]; exact ha) (fun q => yes (by decide) (next (fun _ => q))) (fun q => no (fun z => z rfl) (h1 hall (fun z => q (z p o hp1 ho1 e))))
        · exact yes (by rw [nI_eqE (by omega) (by omega)]; exact e) (next (fun q => absurd q e))
  refine ⟨Γ.2.1 + 1, ?_⟩
  suffices H : ∀ f p, Γ.2.1 - p = f → p ≤ Γ.2.1 → (∀ p' o, p' < p → o ≤ (Γ.2.2.1 p').2.1 → oSy Γ p' o = s → shA Γ p' o a) → wX7_kindOf_l2 (nI s) (nI a) Q E (wX7_kindOf_j69 (nI s) (nI a) Q E) (f + 1) (nI p) σ from H _ 0 rfl (Nat.zero_le _) (fun p' o hp' => absurd hp' (Nat.not_lt_zero _))
  intro f
  induction f with
  | zero =>
    intro p hf hp hd
    show wX7_kindOf_l2_b _ _ _ _ _ _ _ _
    unfold wX7_kindOf_l2_b
    refine ⟨g, hZ.2.1, hZ.1.1, ?_⟩
    rw [hZ.1.2.2.1.2.1]
    exact yes (by simp (disch := omega) only [nI_lit, nI_add, nI_mulE, nI_clampE, nI_eqE, nI_leE, nI_ltE, vp_nIE, true_and, and_true]; omega) (second (fun p' o q1 q2 q3 => hd p' o (by omega) q2 q3))
  | succ f ih =>
    intro p hf hp hd
    have hp1 : p < Γ.2.1 := by omega
    have h3 := (hV.2.2.2 p hp1).2.1.1
    have hO := hZ.1.2.2.1.of hV hZ.1.1 hp1
    show wX7_kindOf_l2_b (nI s) (nI a) Q E (wX7_kindOf_j69 (nI s) (nI a) Q E) (wX7_kindOf_l2 (nI s) (nI a) Q E (wX7_kindOf_j69 (nI s) (nI a) Q E) (f + 1)) (nI p) σ
    unfold wX7_kindOf_l2_b
    refine ⟨g, hZ.2.1, hZ.1.1, ?_⟩
    rw [hZ.1.2.2.1.2.1]
    refine no (by simp (disch := omega) only [nI_lit, nI_add, nI_mulE, nI_clampE, nI_eqE, nI_leE, nI_ltE, vp_nIE, true_and, and_true]; omega) ⟨(Γ.2.2.1 p).2.1 + 2, ?_⟩
    suffices H2 : ∀ f2 o, (Γ.2.2.1 p).2.1 + 1 - o = f2 → o ≤ (Γ.2.2.1 p).2.1 + 1 → (∀ o', o' < o → oSy Γ p o' = s → shA Γ p o' a) → wX7_kindOf_l16 (nI s) (nI a) Q E (wX7_kindOf_j63 (nI s) (nI a) Q E (wX7_kindOf_j69 (nI s) (nI a) Q E) (wX7_kindOf_l2 (nI s) (nI a) Q E (wX7_kindOf_j69 (nI s) (nI a) Q E) (f + 1))) (f2 + 1) (nI p) (nI o) σ from H2 _ 0 rfl (Nat.zero_le _) (fun o' ho' => absurd ho' (Nat.not_lt_zero _))
    intro f2
    induction f2 with
    | zero =>
      intro o hf2 ho hd2
      show wX7_kindOf_l16_b _ _ _ _ _ _ _ _ _
      unfold wX7_kindOf_l16_b
      refine ⟨g, hZ.2.1, hZ.1.1, by simp (disch := omega) only [nI_lit, nI_add, nI_mulE, nI_clampE, nI_eqE, nI_leE, nI_ltE, vp_nIE, true_and, and_true]; omega, ?_⟩
      rw [nI_clampE (show p < 2147483648 by omega), hO.2.2.2.2.1]
      refine yes (by simp (disch := omega) only [nI_lit, nI_add, nI_mulE, nI_clampE, nI_eqE, nI_leE, nI_ltE, vp_nIE, true_and, and_true]; omega) ?_
      unfold wX7_kindOf_j63
      rw [nI_1]
      refine fe (ih (p + 1) (by omega) (by omega) (fun p' o' q1 q2 q3 => ?_))
      by_cases e : p' = p
      · rw [e] at q2 q3 ⊢; exact hd2 o' (by omega) q3
      · exact hd p' o' (by omega) q2 q3
    | succ f2 ih2 =>
      intro o hf2 ho hd2
      have ho1 : o ≤ (Γ.2.2.1 p).2.1 := by omega
      have hs1 : oSy Γ p o < Γ.1.1 := (hV.2.2.2 p hp1).2.1.2.1 o ho1
      have q1 : (Γ.2.2.1 p).2.1 + 1 - (o + 1) = f2 := by omega
      show wX7_kindOf_l16_b (nI s) (nI a) Q E _ (wX7_kindOf_l16 (nI s) (nI a) Q E (wX7_kindOf_j63 (nI s) (nI a) Q E (wX7_kindOf_j69 (nI s) (nI a) Q E) (wX7_kindOf_l2 (nI s) (nI a) Q E (wX7_kindOf_j69 (nI s) (nI a) Q E) (f + 1))) (f2 + 1)) (nI p) (nI o) σ
      unfold wX7_kindOf_l16_b
      refine ⟨g, hZ.2.1, hZ.1.1, by simp (disch := omega) only [nI_lit, nI_add, nI_mulE, nI_clampE, nI_eqE, nI_leE, nI_ltE, vp_nIE, true_and, and_true]; omega, ?_⟩
      rw [nI_clampE (show p < 2147483648 by omega), hO.2.2.2.2.1]
      refine no (by simp (disch := omega) only [nI_lit, nI_add, nI_mulE, nI_clampE, nI_eqE, nI_leE, nI_ltE, vp_nIE, true_and, and_true]; omega) ⟨g, hZ.2.1, hZ.1.1, ?_⟩
      refine c_sym hZ hV hp1 ho1 ?_
      have next : (oSy Γ p o = s → shA Γ p o a) → wX7_kindOf_j57 (nI s) (nI a) Q E (wX7_kindOf_j63 (nI s) (nI a) Q E (wX7_kindOf_j69 (nI s) (nI a) Q E) (wX7_kindOf_l2 (nI s) (nI a) Q E (wX7_kindOf_j69 (nI s) (nI a) Q E) (f + 1))) (wX7_kindOf_l16 (nI s) (nI a) Q E (wX7_kindOf_j63 (nI s) (nI a) Q E (wX7_kindOf_j69 (nI s) (nI a) Q E) (wX7_kindOf_l2 (nI s) (nI a) Q E (wX7_kindOf_j69 (nI s) (nI a) Q E) (f + 1))) (f2 + 1)) (nI p) (nI o) σ := by
        intro hh
        unfold wX7_kindOf_j57
        rw [nI_1]
        refine fe (ih2 (o + 1) q1 (by omega) (fun o' ho' => ?_))
        by_cases e : o' = o
        · rw [e]; exact hh
        · exact hd2 o' (by omega)
      by_cases e : oSy Γ p o = s
      · refine no (fun q => q (by rw [e])) ?_
        refine c_shA hZ hV hL hp1 (hx p hp1) ho1 (by rw [e]; exact ha) (fun q => yes (by decide) (next (fun _ => q))) (fun q => no (fun z => z rfl) (h2 (fun z => q (z p o hp1 ho1 e))))
      · exact yes (by rw [nI_eqE (by omega) (by omega)]; exact e) (next (fun q => absurd q e))
end CS
