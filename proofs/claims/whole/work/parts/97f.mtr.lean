/-! ===== trees, the model's: read ===== -/
def MTr (σ : ab_S) (T : TST) : Prop := σ.2.1 92 59 = nI T.N ∧ ∀ k, k < T.N → σ.2.1 133 k = nI (T.pr k) ∧ σ.2.1 134 k = abI (T.pa k) ∧ σ.2.1 135 k = nI (T.pl k) ∧ σ.2.1 136 k = T.li k
/-- the nodes whose children are being read, as the model keeps them -/
def Pth (σ : ab_S) (T : TST) : Nat → Nat → Prop
  | 0, a => a = 0
  | d + 1, a => a ≠ 0 ∧ σ.2.1 137 d = nI (a - 1) ∧ σ.2.1 138 d = nI (T.nc (a - 1)) ∧ Pth σ T d (T.pa (a - 1))
def SmT : Nat → Nat → Bool := fun a i => decide ((a = 92 ∧ ((40 ≤ i ∧ i ≤ 44) ∨ i = 59 ∨ i = 64)) ∨ (133 ≤ a ∧ a ≤ 138))
def MRd (σ : ab_S) (t : Nat → Nat) (n q : Nat) (Γ : GRT) (T : TST) (d : Nat) : Prop := MS σ t n q ∧ MOk σ ∧ MGr σ Γ ∧ MTr σ T ∧ σ.2.1 92 64 = nI d ∧ Pth σ T d T.ab
theorem Pth_cg {σ σ' : ab_S} {T T' : TST} : ∀ d a, (∀ i, i < d → σ'.2.1 137 i = σ.2.1 137 i ∧ σ'.2.1 138 i = σ.2.1 138 i) → a ≤ T.N → (∀ k, k < a → T'.nc k = T.nc k ∧ T'.pa k = T.pa k) → (∀ k, k < T.N → T.pa k ≤ k) → Pth σ T d a → Pth σ' T' d a
  | 0, a, _, _, _, _, h => h
  | d + 1, a, hc, ha, hT, hp, h => by
    obtain ⟨h1, h2, h3, h4⟩ := h
    have := hp (a - 1) (by omega)
    refine ⟨h1, by rw [(hc d (by omega)).1]; exact h2, by rw [(hc d (by omega)).2, (hT _ (by omega)).1]; exact h3, ?_⟩
    rw [(hT _ (by omega)).2]
    exact Pth_cg d _ (fun i hi => hc i (by omega)) (by omega) (fun k hk => hT k (by omega)) hp h4
theorem MTr.fm {S : Nat → Nat → Bool} {σ σ' : ab_S} {T : TST} (h : MTr σ T) (f : FM S σ σ') (e : ∀ a i, (a = 92 ∧ i = 59) ∨ (133 ≤ a ∧ a ≤ 136) → S a i = false) : MTr σ' T := by
  refine ⟨by rw [f.1 _ _ (e _ _ (by omega))]; exact h.1, fun k hk => ?_⟩
  obtain ⟨a1, a2, a3, a4⟩ := h.2 k hk
  exact ⟨by rw [f.1 _ _ (e _ _ (by omega))]; exact a1, by rw [f.1 _ _ (e _ _ (by omega))]; exact a2, by rw [f.1 _ _ (e _ _ (by omega))]; exact a3, by rw [f.1 _ _ (e _ _ (by omega))]; exact a4⟩
theorem MRd.adv {σ σ' : ab_S} {t : Nat → Nat} {n q q' d : Nat} {Γ : GRT} {T : TST} (h : MRd σ t n q Γ T d) (hV : GRV Γ) (f : FM Sadv σ σ') (hS : MS σ' t n q') : MRd σ' t n q' Γ T d ∧ FM SmT σ σ' := by
  obtain ⟨h1, h2, h3, h4, h5, h6⟩ := h
  have z : ∀ a i, ¬ (a = 92 ∧ 40 ≤ i ∧ i ≤ 43) → Sadv a i = false := by intro a i hh; simp [Sadv]; omega
  have e : ∀ d a, Pth σ T d a → Pth σ' T d a := by
    intro d
    induction d with
    | zero => intro a h; exact h
    | succ d ih =>
      intro a h
      exact ⟨h.1, by rw [f.1 _ _ (z _ _ (by omega))]; exact h.2.1, by rw [f.1 _ _ (z _ _ (by omega))]; exact h.2.2.1, ih _ h.2.2.2⟩
  refine ⟨⟨hS, ?_, h3.fm hV f ⟨z _ _ (by omega), z _ _ (by omega), z _ _ (by omega)⟩ (fun a i q1 q2 => z _ _ (by omega)), h4.fm f (fun a i q => z _ _ (by omega)), by rw [f.1 _ _ (z _ _ (by omega))]; exact h5, e _ _ h6⟩, f.mono (fun a i y => ?_)⟩
  · unfold MOk; rw [f.1 _ _ (z _ _ (by omega))]; exact h2
  · have y := of_decide_eq_false y
    exact z a i (by omega)
section MR
variable {σ : ab_S} {t : Nat → Nat} {n q d : Nat} {Γ : GRT} {T : TST} {E : String → ab_S → Prop}
/-- what comes of a node, as the model has it -/
def MAft (σ0 σ : ab_S) (t : Nat → Nat) (n : Nat) (Γ : GRT) (T : TST) (d : Nat) (r : TRs) : Prop := FM SmT σ0 σ ∧ ((r.1 = false ∧ MBad σ r.2.1) ∨ (r.1 = true ∧ rt Γ (r.2.2.pr T.N) = 0 ∧ MRd σ t n r.2.1 Γ r.2.2 d) ∨ (r.1 = true ∧ 0 < rt Γ (r.2.2.pr T.N) ∧ tkK t n r.2.1 = 40 ∧ MRd σ t n (nx t n r.2.1) Γ (tAb r.2.2 (T.N + 1)) (d + 1)) ∨ (r.1 = true ∧ 0 < rt Γ (r.2.2.pr T.N) ∧ tkK t n r.2.1 ≠ 40 ∧ MBad σ r.2.1))
theorem m_bad (hS : MS σ t n q) (hn : n ≤ 2400) : MBad (ab_I σ 92 44 (nI q)) q ∧ FM SmT σ (ab_I σ 92 44 (nI q)) := ⟨⟨by rw [gI_s, if_pos rfl], by have := hS.2.1; omega⟩, (FM.rf _ σ).I (decide_eq_true (by omega))⟩
/-- behind the head: perhaps ( -/
theorem m_j185 {σ0 : ab_S} {T' : TST} {q' : Nat} (hn : n ≤ 2400) (hV : GRV Γ) (hI : TI Γ T) (hA : TAf Γ T T') (hN : T.N < 250) (hd : d ≤ 250) (F : FM SmT σ0 σ) (h : MRd σ t n q' Γ T' d) {a0 a1 a2 : Int32} {Q : ab_S → Prop} (k : ∀ τ, MAft σ0 τ t n Γ T d (true, q', T') → Q τ) : wX12_treeNode_j185 a0 a1 a2 Q E (nI (T'.pr T.N)) (nI T.N) σ := by
  have hp : T'.pr T.N < Γ.2.1 := hA.2.2.2.2.1
  have h30 := hV.2.1
  have hrt : rt Γ (T'.pr T.N) ≤ 3 := (hV.2.2.2 _ hp).2.1.1
  have d3 : σ.2.1 103 (T'.pr T.N) = nI (rt Γ (T'.pr T.N)) := (h.2.2.1.2.2.2 _ hp).2.1
  unfold wX12_treeNode_j185
  rw [nI_clampE (show T'.pr T.N < 2147483648 by omega), d3]
  refine ⟨by simp (disch := omega) only [nI_lit, nI_add, nI_mulE, nI_clampE, nI_eqE, nI_leE, nI_ltE, vp_nIE, true_and, and_true]; omega, ?_⟩
  by_cases e0 : 0 < rt Γ (T'.pr T.N)
  · refine no (by show ¬ _ ≤ nI 0; simp (disch := omega) only [nI_lit, nI_add, nI_mulE, nI_clampE, nI_eqE, nI_leE, nI_ltE, vp_nIE, true_and, and_true]; omega) ?_
    have push : ∀ τ, τ.2.1 92 64 = nI d → ∀ {Q' : ab_S → Prop}, Q' (ab_I (ab_I (ab_I τ 137 d (nI T.N)) 138 d 0) 92 64 (nI (d + 1))) → vp_in (τ.2.1 92 64) 251 ∧ (∀ σ3 : ab_S, σ3 = ab_I τ 137 (τ.2.1 92 64).toNatClampNeg (nI T.N) → vp_in (σ3.2.1 92 64) 251 ∧ (∀ σ4 : ab_S, σ4 = ab_I σ3 138 (σ3.2.1 92 64).toNatClampNeg (0 : Int32) → (∀ σ5 : ab_S, σ5 = ab_I σ4 92 64 ((σ4.2.1 92 64) + (1 : Int32)) → Q' σ5))) := by
      intro τ h64 Q' hQ
      have ec : (nI d).toNatClampNeg = d := nI_clampE (by omega)
      have ev : vp_in (nI d) 251 := by simp (disch := omega) only [nI_lit, nI_add, nI_mulE, nI_clampE, nI_eqE, nI_leE, nI_ltE, vp_nIE, true_and, and_true]; omega
      rw [h64, ec]
      refine ⟨ev, fe ?_⟩
      rw [gI_o (by omega), h64, ec]
      refine ⟨ev, fe ?_⟩
      rw [gI_o (by omega), gI_o (by omega), h64, nI_1]
      exact fe hQ
    refine m_need (w := 40) h.1 h.2.1 (by omega) (by decide) (by decide) (fun k40 τ f s => ?_) (fun k40 => ?_)
    · obtain ⟨M1, F1⟩ := h.adv hV f s
      refine push τ M1.2.2.2.2.1 (k _ ⟨((F.tr F1).I (decide_eq_true (by omega))).I (decide_eq_true (by omega)) |>.I (decide_eq_true (by omega)), Or.inr (Or.inr (Or.inl ⟨rfl, e0, k40, ?_⟩))⟩)
      obtain ⟨m1, m2, m3, m4, m5, m6⟩ := M1
      have F2 : FM (fun a i => decide ((a = 92 ∧ i = 64) ∨ a = 137 ∨ a = 138)) τ (ab_I (ab_I (ab_I τ 137 d (nI T.N)) 138 d 0) 92 64 (nI (d + 1))) := (((FM.rf _ τ).I (decide_eq_true (by omega))).I (decide_eq_true (by omega))).I (decide_eq_true (by omega))
      refine ⟨m1.fm F2 (decide_eq_false (by omega)) (fun i => decide_eq_false (by omega)) (fun i => decide_eq_false (by omega)) (decide_eq_false (by omega)) (decide_eq_false (by omega)) (decide_eq_false (by omega)) (decide_eq_false (by omega)), ?_, m3.fm hV F2 ⟨decide_eq_false (by omega), decide_eq_false (by omega), decide_eq_false (by omega)⟩ (fun a i q1 q2 => decide_eq_false (by omega)), m4.fm F2 (fun a i q => decide_eq_false (by omega)), by rw [gI_s, if_pos rfl], ?_⟩
      · unfold MOk; rw [F2.1 _ _ (decide_eq_false (by omega))]; exact m2
      · refine ⟨by show T.N + 1 ≠ 0; omega, ?_, ?_, ?_⟩
        · rw [gI_o (by omega), gI_o (by omega), gI_s, if_pos rfl]; rfl
        · rw [gI_o (by omega), gI_s, if_pos rfl]
          show _ = nI (T'.nc (T.N + 1 - 1))
          rw [show T.N + 1 - 1 = T.N by omega, hA.2.2.2.2.2.1]; rfl
        · show Pth _ (tAb T' (T.N + 1)) d (T'.pa (T.N + 1 - 1))
          rw [show T.N + 1 - 1 = T.N by omega, hA.2.2.2.2.2.2]
          rw [hA.2.1] at m6
          have hle := hI.1
          have hN1 := hA.1
          refine Pth_cg (T := T') d T.ab (fun i hi => ?_) (by omega) (fun k hk => ⟨rfl, rfl⟩) (fun k hk => (hA.2.2.1 k hk).2.1) m6
          refine ⟨?_, ?_⟩
          · rw [gI_o (by omega), gI_o (by omega), gI_s, if_neg (by omega)]
          · rw [gI_o (by omega), gI_s, if_neg (by omega), gI_o (by omega)]
    · obtain ⟨B1, F1⟩ := m_bad h.1 hn
      refine push _ (by rw [gI_I, if_pos rfl, if_neg (by decide)]; exact h.2.2.2.2.1) (k _ ⟨(((F.tr F1).I (decide_eq_true (by omega))).I (decide_eq_true (by omega))).I (decide_eq_true (by omega)), Or.inr (Or.inr (Or.inr ⟨rfl, e0, k40, ?_, B1.2⟩))⟩)
      rw [gI_I, if_pos rfl, if_neg (by decide), gI_o (by omega), gI_o (by omega)]; exact B1.1
  · exact yes (by show _ ≤ nI 0; simp (disch := omega) only [nI_lit, nI_add, nI_mulE, nI_clampE, nI_eqE, nI_leE, nI_ltE, vp_nIE, true_and, and_true]; omega) (k σ ⟨F, Or.inr (Or.inl ⟨rfl, by show rt Γ (T'.pr T.N) = 0; omega, h⟩)⟩)
end MR
