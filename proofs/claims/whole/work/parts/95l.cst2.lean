/-! ===== stores, the class's: the last that names; what is free ===== -/
theorem m1_lt : ∀ n, n < 1500 → (-1 : Int32) < nI n := by decide +kernel
theorem m1_le : ∀ n, n < 1500 → (-1 : Int32) ≤ nI n := by decide +kernel
section CS
variable {σ : ab_S} {g p y : Nat} {Γ : GRT} {E : String → ab_S → Prop}
theorem lNm_le (hV : GRV Γ) (hL : LVF Γ) (hp : p < Γ.2.1) (hx : crc (xR Γ p) = false) : ∀ k, lNm Γ p y k ≤ plN Γ p
  | 0 => Nat.zero_le _
  | k + 1 => by
    have ih := lNm_le hV hL hp hx k
    rw [lNm]
    split
    · next h =>
      have := (nm_ev hV hL hp hx h).2
      exact Nat.max_le.mpr ⟨ih, this⟩
    · exact ih
theorem c_lN (hZ : CZ σ g Γ) (hV : GRV Γ) (hL : LVF Γ) (hp : p < Γ.2.1) (hx : crc (xR Γ p) = false) (hy : y < 32) {Q : Int32 → ab_S → Prop} (h : Q (lnI Γ p (lNm Γ p y 32)) σ) : wX7_lastNaming (nI p) (nI y) Q E σ := by
  have h30 := hV.2.1
  have hB := plB_le hL hV p (by omega)
  have hN := plN_le hL hV hp
  refine ⟨33, ?_⟩
  suffices H : ∀ f k, 32 - k = f → k ≤ 32 → wX7_lastNaming_l5 (nI p) (nI y) Q E (f + 1) (lnI Γ p (lNm Γ p y k)) (nI k) σ from H 32 0 rfl (Nat.zero_le _)
  intro f
  induction f with
  | zero =>
    intro k hf hk
    have e : k = 32 := by omega
    show wX7_lastNaming_l5_b _ _ _ _ _ _ _ _
    unfold wX7_lastNaming_l5_b
    rw [e]
    exact yes (by decide) h
  | succ f ih =>
    intro k hf hk
    have q1 : 32 - (k + 1) = f := by omega
    have q2 : k + 1 ≤ 32 := by omega
    have IH := ih (k + 1) q1 q2
    have hle := lNm_le hV hL hp hx (y := y) k
    show wX7_lastNaming_l5_b (nI p) (nI y) Q E (wX7_lastNaming_l5 (nI p) (nI y) Q E (f + 1)) _ (nI k) σ
    unfold wX7_lastNaming_l5_b
    refine no (by simp (disch := omega) only [nI_lit, nI_add, nI_mulE, nI_clampE, nI_eqE, nI_leE, nI_ltE, vp_nIE, true_and, and_true]; omega) ?_
    refine c_nms hZ hV hp q2 hy ?_
    rw [lNm] at IH
    cases hn : nmd Γ p k y
    · rw [hn] at IH
      refine yes rfl ?_
      unfold wX7_lastNaming_j38
      rw [nI_1]
      exact fe IH
    · rw [hn, if_pos rfl] at IH
      refine no (by decide) ?_
      obtain ⟨he, hlt⟩ := nm_ev hV hL hp hx hn
      refine c_eR hZ hV hp q2 he (fe ?_)
      unfold wX7_lastNaming_j38
      rw [nI_1]
      refine fe ?_
      have e : (if lnI Γ p (lNm Γ p y k) < nI (plB Γ p + (plP Γ p).ea k) then nI (plB Γ p + (plP Γ p).ea k) else lnI Γ p (lNm Γ p y k)) = lnI Γ p (max (lNm Γ p y k) ((plP Γ p).ea k + 1)) := by
        generalize lNm Γ p y k = m at hle
        generalize (plP Γ p).ea k = n at hlt
        unfold lnI
        by_cases hm : m = 0
        · rw [if_pos hm, if_pos (m1_lt _ (by omega)), hm, if_neg (by omega)]
          congr 2
        · rw [if_neg hm, if_neg (show ¬ max m (n + 1) = 0 by omega)]
          by_cases hc : plB Γ p + (m - 1) < plB Γ p + n
          · rw [if_pos (by rw [nI_ltE (by omega) (by omega)]; exact hc)]; congr 1; omega
          · rw [if_neg (by rw [nI_ltE (by omega) (by omega)]; exact hc)]; congr 1; omega
      rw [e]; exact IH
theorem lnI_le (hm : y ≤ 47) (hB : plB Γ p ≤ 1410) : ∀ j, j ≤ 48 → ((lnI Γ p y ≤ nI (plB Γ p + j)) ↔ y - 1 ≤ j) := by
  intro j hj
  unfold lnI
  by_cases hz : y = 0
  · rw [if_pos hz]
    exact ⟨fun _ => by omega, fun _ => m1_le _ (by omega)⟩
  · rw [if_neg hz, nI_leE (by omega) (by omega)]
    omega
end CS
