/-! ===== trees, the class's: read ===== -/
theorem isT_b {x : Nat} (h : isT x) : 80 ≤ x ∧ x ≤ 86 := by rcases h with rfl | rfl <;> omega
def abI (a : Nat) : Int32 := if a = 0 then -1 else nI (a - 1)
theorem abI_0 {a : Nat} (h : a < 2000) : abI a = -1 ↔ a = 0 := by
  unfold abI
  by_cases e : a = 0
  · rw [if_pos e]; exact ⟨fun _ => e, fun _ => rfl⟩
  · rw [if_neg e]; exact ⟨fun z => absurd z (nI_m1 (by omega)), fun z => absurd z e⟩
theorem abI_s {a : Nat} (h : a ≠ 0) : abI a = nI (a - 1) := by unfold abI; rw [if_neg h]
/-- a tree as the class has it -/
def CTr (σ : ab_S) (x : Nat) (T : TST) : Prop := σ.2.1 x 0 = nI T.N ∧ ∀ k, k < T.N → σ.2.1 (x + 1) k = nI (T.pr k) ∧ σ.2.1 (x + 2) k = abI (T.pa k) ∧ σ.2.1 (x + 3) k = T.li k ∧ σ.2.1 (x + 4) k = nI (T.nc k) ∧ ∀ o, o ≤ T.nc k → σ.2.1 (x + 5) (k * 4 + o) = nI (T.ch k o)
def Str (x : Nat) : Nat → Nat → Bool := fun a _ => decide (x ≤ a ∧ a ≤ x + 5)
def Stx (x : Nat) : Nat → Nat → Bool := fun a i => decide (a = 3 ∨ (a = 8 ∧ i = 3) ∨ (x ≤ a ∧ a ≤ x + 5))
theorem CTr.fm {S : Nat → Nat → Bool} {σ σ' : ab_S} {x : Nat} {T : TST} (h : CTr σ x T) (f : FM S σ σ') (e : ∀ a i, x ≤ a → a ≤ x + 5 → S a i = false) : CTr σ' x T := by
  refine ⟨by rw [f.1 _ _ (e _ _ (by omega) (by omega))]; exact h.1, fun k hk => ?_⟩
  obtain ⟨a1, a2, a3, a4, a5⟩ := h.2 k hk
  refine ⟨by rw [f.1 _ _ (e _ _ (by omega) (by omega))]; exact a1, by rw [f.1 _ _ (e _ _ (by omega) (by omega))]; exact a2, by rw [f.1 _ _ (e _ _ (by omega) (by omega))]; exact a3, by rw [f.1 _ _ (e _ _ (by omega) (by omega))]; exact a4, fun o ho => by rw [f.1 _ _ (e _ _ (by omega) (by omega))]; exact a5 o ho⟩
theorem gI_o {σ : ab_S} {a i b j : Nat} {x : Int32} (h : b ≠ a) : (ab_I σ a i x).2.1 b j = σ.2.1 b j := by rw [gI_I, if_neg h]
theorem gI_s {σ : ab_S} {a i j : Nat} {x : Int32} : (ab_I σ a i x).2.1 a j = if j = i then x else σ.2.1 a j := by rw [gI_I]; exact if_pos rfl
section CR
variable {σ : ab_S} {t : Nat → Nat} {n q g x : Nat} {Γ : GRT} {T : TST} {E : String → ab_S → Prop}
theorem c_tad (hx : isT x) (h : CTr σ x T) (hN : T.N < 250) (hab : T.ab ≤ T.N) (hf : T.ab ≠ 0 → T.nc (T.ab - 1) < 3) (hn : ∀ k, k < T.N → T.nc k ≤ 3) {p : Nat} {Q : ab_S → Prop} (k : ∀ τ, FM (Str x) σ τ → CTr τ x (tAd T p) → Q τ) : wX9_add x (nI p) (abI T.ab) Q E σ := by
  have hxb := isT_b hx
  have ec : (nI T.N).toNatClampNeg = T.N := nI_clampE (by omega)
  have ev : vp_in (nI T.N) 250 := by simp (disch := omega) only [nI_lit, nI_add, nI_mulE, nI_clampE, nI_eqE, nI_leE, nI_ltE, vp_nIE, true_and, and_true]; omega
  have e4 : nI T.N * 4 = nI (T.N * 4) := by show nI _ * nI 4 = _; rw [nI_mulE]
  unfold wX9_add
  rw [h.1, ec]
  refine ⟨ev, fe ?_⟩
  rw [gI_o (by omega), h.1, ec]
  refine ⟨ev, fe ?_⟩
  rw [gI_o (by omega), gI_o (by omega), h.1, ec]
  refine ⟨ev, fe ?_⟩
  rw [gI_o (by omega), gI_o (by omega), gI_o (by omega), h.1, ec]
  refine ⟨ev, fe ?_⟩
  rw [gI_o (by omega), gI_o (by omega), gI_o (by omega), gI_o (by omega), h.1, e4, nI_clampE (show T.N * 4 < 2147483648 by omega)]
  refine ⟨by simp (disch := omega) only [nI_lit, nI_add, nI_mulE, nI_clampE, nI_eqE, nI_leE, nI_ltE, vp_nIE, true_and, and_true]; omega, fe ?_⟩
  generalize hσ1 : ab_I (ab_I (ab_I (ab_I (ab_I σ (x + 1) T.N (nI p)) (x + 2) T.N (abI T.ab)) (x + 3) T.N 0) (x + 4) T.N 0) (x + 5) (T.N * 4) (nI T.N) = σ1
  have F1 : FM (Str x) σ σ1 := by
    rw [← hσ1]
    exact (((((FM.rf _ σ).I (decide_eq_true (by omega))).I (decide_eq_true (by omega))).I (decide_eq_true (by omega))).I (decide_eq_true (by omega))).I (decide_eq_true (by omega))
  have w0 : σ1.2.1 x 0 = nI T.N := by
    rw [← hσ1, gI_o (by omega), gI_o (by omega), gI_o (by omega), gI_o (by omega), gI_o (by omega)]; exact h.1
  have w1 : ∀ j, σ1.2.1 (x + 1) j = if j = T.N then nI p else σ.2.1 (x + 1) j := fun j => by
    rw [← hσ1, gI_o (by omega), gI_o (by omega), gI_o (by omega), gI_o (by omega), gI_s]
  have w2 : ∀ j, σ1.2.1 (x + 2) j = if j = T.N then abI T.ab else σ.2.1 (x + 2) j := fun j => by
    rw [← hσ1, gI_o (by omega), gI_o (by omega), gI_o (by omega), gI_s, gI_o (by omega)]
  have w3 : ∀ j, σ1.2.1 (x + 3) j = if j = T.N then 0 else σ.2.1 (x + 3) j := fun j => by
    rw [← hσ1, gI_o (by omega), gI_o (by omega), gI_s, gI_o (by omega), gI_o (by omega)]
  have w4 : ∀ j, σ1.2.1 (x + 4) j = if j = T.N then 0 else σ.2.1 (x + 4) j := fun j => by
    rw [← hσ1, gI_o (by omega), gI_s, gI_o (by omega), gI_o (by omega), gI_o (by omega)]
  have w5 : ∀ j, σ1.2.1 (x + 5) j = if j = T.N * 4 then nI T.N else σ.2.1 (x + 5) j := fun j => by
    rw [← hσ1, gI_s, gI_o (by omega), gI_o (by omega), gI_o (by omega), gI_o (by omega)]
  clear hσ1
  by_cases e0 : T.ab = 0
  · refine yes ((abI_0 (by omega)).mpr e0) ?_
    unfold wX9_add_j89
    rw [w0, nI_1]
    refine fe (k _ (F1.I (decide_eq_true (by omega))) ⟨by rw [gI_s, if_pos rfl]; rfl, fun j hj => ?_⟩)
    have hj : j < T.N + 1 := hj
    rw [gI_o (by omega), gI_o (by omega), gI_o (by omega), gI_o (by omega), w1, w2, w3, w4]
    by_cases ej : j = T.N
    · have q1 : (tAd T p).nc j = 0 := by show (if T.ab = 0 then uf T.nc T.N 0 else _) j = 0; rw [if_pos e0, ej, uf_s]
      refine ⟨by rw [if_pos ej, ej]; show _ = nI (uf T.pr T.N p T.N); rw [uf_s], by rw [if_pos ej, ej]; show _ = abI (uf T.pa T.N T.ab T.N); rw [uf_s], by rw [if_pos ej, ej]; show _ = uf T.li T.N 0 T.N; rw [uf_s], by rw [if_pos ej, q1]; rfl, fun o ho => ?_⟩
      rw [q1] at ho
      have o0 : o = 0 := by omega
      rw [gI_o (by omega), w5, o0, ej, if_pos (by omega)]
      show _ = nI ((if T.ab = 0 then uf T.ch T.N (uf (T.ch T.N) 0 T.N) else _) T.N 0)
      rw [if_pos e0, uf_s, uf_s]
    · obtain ⟨a1, a2, a3, a4, a5⟩ := h.2 j (by omega)
      have q1 : (tAd T p).nc j = T.nc j := by show (if T.ab = 0 then uf T.nc T.N 0 else _) j = _; rw [if_pos e0, uf_o _ _ ej]
      refine ⟨by rw [if_neg ej, a1]; show _ = nI (uf T.pr T.N p j); rw [uf_o _ _ ej], by rw [if_neg ej, a2]; show _ = abI (uf T.pa T.N T.ab j); rw [uf_o _ _ ej], by rw [if_neg ej, a3]; show _ = uf T.li T.N 0 j; rw [uf_o _ _ ej], by rw [if_neg ej, q1, a4], fun o ho => ?_⟩
      rw [q1] at ho
      have := hn j (by omega)
      rw [gI_o (by omega), w5, if_neg (by omega), a5 o ho]
      show _ = nI ((if T.ab = 0 then uf T.ch T.N (uf (T.ch T.N) 0 T.N) else _) j o)
      rw [if_pos e0, uf_o _ _ ej]
  · refine no (fun z => e0 ((abI_0 (by omega)).mp z)) ?_
    have hf := hf e0
    have eca : (nI (T.ab - 1)).toNatClampNeg = T.ab - 1 := nI_clampE (by omega)
    have eva : vp_in (nI (T.ab - 1)) 250 := by simp (disch := omega) only [nI_lit, nI_add, nI_mulE, nI_clampE, nI_eqE, nI_leE, nI_ltE, vp_nIE, true_and, and_true]; omega
    have c4 : σ1.2.1 (x + 4) (T.ab - 1) = nI (T.nc (T.ab - 1)) := by rw [w4, if_neg (by omega)]; exact (h.2 _ (by omega)).2.2.2.1
    rw [abI_s e0, eca, c4, nI_1]
    refine ⟨eva, eva, fe ⟨eva, ?_⟩⟩
    have e44 : nI (T.ab - 1) * 4 + nI (T.nc (T.ab - 1) + 1) = nI ((T.ab - 1) * 4 + (T.nc (T.ab - 1) + 1)) := by show nI _ * nI 4 + _ = _; rw [nI_mulE, nI_add]
    rw [gI_s, if_pos rfl, e44, nI_clampE (show (T.ab - 1) * 4 + (T.nc (T.ab - 1) + 1) < 2147483648 by omega), gI_o (by omega), w0]
    refine ⟨by simp (disch := omega) only [nI_lit, nI_add, nI_mulE, nI_clampE, nI_eqE, nI_leE, nI_ltE, vp_nIE, true_and, and_true]; omega, fe ?_⟩
    unfold wX9_add_j89
    rw [gI_o (by omega), gI_o (by omega), w0, nI_1]
    refine fe (k _ (((F1.I (decide_eq_true (by omega))).I (decide_eq_true (by omega))).I (decide_eq_true (by omega))) ⟨by rw [gI_s, if_pos rfl]; rfl, fun j hj => ?_⟩)
    have hj : j < T.N + 1 := hj
    have r1 : ∀ i, (ab_I (ab_I (ab_I σ1 (x + 4) (T.ab - 1) (nI (T.nc (T.ab - 1) + 1))) (x + 5) ((T.ab - 1) * 4 + (T.nc (T.ab - 1) + 1)) (nI T.N)) x 0 (nI (T.N + 1))).2.1 (x + 1) i = σ1.2.1 (x + 1) i := fun i => by rw [gI_o (by omega), gI_o (by omega), gI_o (by omega)]
    have r2 : ∀ i, (ab_I (ab_I (ab_I σ1 (x + 4) (T.ab - 1) (nI (T.nc (T.ab - 1) + 1))) (x + 5) ((T.ab - 1) * 4 + (T.nc (T.ab - 1) + 1)) (nI T.N)) x 0 (nI (T.N + 1))).2.1 (x + 2) i = σ1.2.1 (x + 2) i := fun i => by rw [gI_o (by omega), gI_o (by omega), gI_o (by omega)]
    have r3 : ∀ i, (ab_I (ab_I (ab_I σ1 (x + 4) (T.ab - 1) (nI (T.nc (T.ab - 1) + 1))) (x + 5) ((T.ab - 1) * 4 + (T.nc (T.ab - 1) + 1)) (nI T.N)) x 0 (nI (T.N + 1))).2.1 (x + 3) i = σ1.2.1 (x + 3) i := fun i => by rw [gI_o (by omega), gI_o (by omega), gI_o (by omega)]
    have r4 : ∀ i, (ab_I (ab_I (ab_I σ1 (x + 4) (T.ab - 1) (nI (T.nc (T.ab - 1) + 1))) (x + 5) ((T.ab - 1) * 4 + (T.nc (T.ab - 1) + 1)) (nI T.N)) x 0 (nI (T.N + 1))).2.1 (x + 4) i = if i = T.ab - 1 then nI (T.nc (T.ab - 1) + 1) else σ1.2.1 (x + 4) i := fun i => by rw [gI_o (by omega), gI_o (by omega), gI_s]
    have r5 : ∀ i, (ab_I (ab_I (ab_I σ1 (x + 4) (T.ab - 1) (nI (T.nc (T.ab - 1) + 1))) (x + 5) ((T.ab - 1) * 4 + (T.nc (T.ab - 1) + 1)) (nI T.N)) x 0 (nI (T.N + 1))).2.1 (x + 5) i = if i = (T.ab - 1) * 4 + (T.nc (T.ab - 1) + 1) then nI T.N else σ1.2.1 (x + 5) i := fun i => by rw [gI_o (by omega), gI_s, gI_o (by omega)]
    rw [r1, r2, r3, r4, w1, w2, w3]
    have qn : (tAd T p).nc j = uf (uf T.nc T.N 0) (T.ab - 1) (T.nc (T.ab - 1) + 1) j := by show (if T.ab = 0 then uf T.nc T.N 0 else uf (uf T.nc T.N 0) (T.ab - 1) (T.nc (T.ab - 1) + 1)) j = _; rw [if_neg e0]
    have qc : ∀ o, (tAd T p).ch j o = uf (uf T.ch T.N (uf (T.ch T.N) 0 T.N)) (T.ab - 1) (uf (T.ch (T.ab - 1)) (T.nc (T.ab - 1) + 1) T.N) j o := fun o => by show (if T.ab = 0 then uf T.ch T.N (uf (T.ch T.N) 0 T.N) else uf (uf T.ch T.N (uf (T.ch T.N) 0 T.N)) (T.ab - 1) (uf (T.ch (T.ab - 1)) (T.nc (T.ab - 1) + 1) T.N)) j o = _; rw [if_neg e0]
    by_cases ej : j = T.N
    · have ea : j ≠ T.ab - 1 := by omega
      rw [uf_o _ _ ea, ej, uf_s] at qn
      refine ⟨by rw [if_pos ej, ej]; show _ = nI (uf T.pr T.N p T.N); rw [uf_s], by rw [if_pos ej, ej]; show _ = abI (uf T.pa T.N T.ab T.N); rw [uf_s], by rw [if_pos ej, ej]; show _ = uf T.li T.N 0 T.N; rw [uf_s], by rw [if_neg ea, w4, if_pos ej, ej, qn]; rfl, fun o ho => ?_⟩
      rw [ej, qn] at ho
      have o0 : o = 0 := by omega
      rw [r5, qc, uf_o _ _ ea, o0, ej, uf_s, uf_s, if_neg (by omega), w5, if_pos (by omega)]
    · obtain ⟨a1, a2, a3, a4, a5⟩ := h.2 j (by omega)
      have h3 := hn j (by omega)
      refine ⟨by rw [if_neg ej, a1]; show _ = nI (uf T.pr T.N p j); rw [uf_o _ _ ej], by rw [if_neg ej, a2]; show _ = abI (uf T.pa T.N T.ab j); rw [uf_o _ _ ej], by rw [if_neg ej, a3]; show _ = uf T.li T.N 0 j; rw [uf_o _ _ ej], ?_, fun o ho => ?_⟩
      · rw [qn]
        by_cases ea : j = T.ab - 1
        · rw [if_pos ea, ea, uf_s]
        · rw [if_neg ea, uf_o _ _ ea, uf_o _ _ ej, w4, if_neg ej, a4]
      · rw [r5, qc]
        rw [qn] at ho
        by_cases ea : j = T.ab - 1
        · rw [ea, uf_s] at ho
          rw [ea, uf_s]
          by_cases eo : o = T.nc (T.ab - 1) + 1
          · rw [if_pos (by omega), eo, uf_s]
          · rw [if_neg (by omega), uf_o _ _ eo, w5, if_neg (by omega), ← ea]
            rw [← ea] at ho eo
            exact a5 o (by omega)
        · rw [uf_o _ _ ea, uf_o _ _ ej] at ho
          rw [uf_o _ _ ea, uf_o _ _ ej, if_neg (by omega), w5, if_neg (by omega)]
          exact a5 o ho
end CR
