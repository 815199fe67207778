/-! ===== grammar ===== -/
section IV
variable {σ τ : ab_S} {F : Nat → Nat → Bool} {g q x y : Nat} {A : AST}
theorem CIv.gq (h : CIv σ A g q x y) : ((g = 44 ∧ q = 62) ∨ (g = 62 ∧ q = 44)) ∧ ((x = 80 ∧ y = 86) ∨ (x = 86 ∧ y = 80)) := by
  obtain ⟨_, ⟨h1, h2, h3, h4, h5, h6⟩, _⟩ := h
  unfold isG at h1 h2
  unfold isT at h4 h5
  omega
theorem CIv.fm2 (h : CIv σ A g q x y) (hA : AOK A) (f : FM F σ τ) (e : ∀ a i, a < 92 → ¬ (a = 42 ∨ a = 43 ∨ (3 ≤ a ∧ a ≤ 10) ∨ (q ≤ a ∧ a ≤ q + 17) ∨ (y ≤ a ∧ a ≤ y + 5)) → F a i = false) : CIv τ A g q x y := by
  obtain ⟨gq, xy⟩ := h.gq
  obtain ⟨h1, h2, ⟨r1, r2, r3, r4⟩, ⟨f1, f2, f3⟩, ⟨m1, m2⟩, h6, h7, h8⟩ := h
  refine ⟨h1.fm f (fun a i _ => e _ _ (by omega) (by omega)), h2, ⟨by rw [f.2.2 _ _ (e _ _ (by omega) (by omega))]; exact r1, by rw [f.2.2 _ _ (e _ _ (by omega) (by omega))]; exact r2, by rw [f.2.2 _ _ (e _ _ (by omega) (by omega))]; exact r3, by rw [f.2.2 _ _ (e _ _ (by omega) (by omega))]; exact r4⟩, ⟨by rw [f.1 _ _ (e _ _ (by omega) (by omega))]; exact f1, by rw [f.1 _ _ (e _ _ (by omega) (by omega))]; exact f2, by rw [f.1 _ _ (e _ _ (by omega) (by omega))]; exact f3⟩, ⟨by rw [f.1 _ _ (e _ _ (by omega) (by omega))]; exact m1, by rw [f.1 _ _ (e _ _ (by omega) (by omega))]; exact m2⟩, fun z => (h6 z).fm (hA.gV z) f (fun a i _ => e _ _ (by omega) (by omega)), fun z => ⟨(h7 z).1.fm f (fun a i _ _ => e _ _ (by omega) (by omega)), (h7 z).2.fm f (fun i => e _ _ (by omega) (by omega))⟩, fun z => ⟨(h8 z).1.fmA (hA.gV (hA.hg (hA.ht z))) f (fun a i _ => e _ _ (by omega) (by omega)), (h8 z).2.1.fmA f (fun a i _ => e _ _ (by omega) (by omega)), by rw [f.1 _ _ (e _ _ (by omega) (by omega))]; exact (h8 z).2.2⟩⟩
end IV
section QX
variable {σ : ab_S} {A : AST} {g q x y : Nat} {E : String → ab_S → Prop}
theorem u_gra (hC : CIv σ A g q x y) (hA : AOK A) : ∃ A' v, (∀ Q : Int32 → ab_S → Prop, (∀ τ, AOK A' → FM Cls σ τ → (∃ g q x y, CIv τ A' g q x y) → Q v τ) → wX11_grammar Q E σ) ∧ ∀ σ', MIv σ' A → ∀ Q : Int32 → ab_S → Prop, (∀ τ, FM Mdl σ' τ → MIv τ A' → Q v τ) → wX12_grammar Q E σ' := by
  obtain ⟨gq, xy⟩ := hC.gq
  have hT := hC.1
  have hgG := hC.2.1.1
  have hqG := hC.2.1.2.1
  have h11 := hC.2.2.1.1
  have h12 := hC.2.2.1.2.1
  have hK : ∀ σ', MIv σ' A → A.hg = true → MKp σ' A.tk A.nk ∧ (pGr A.tk A.nk).1 = true ∧ ordA (pGr A.tk A.nk).2.2 = none := fun σ' hM z => ⟨(hM.2.2.2.1 z).1, (hA.1 z).1, (hA.1 z).2.1⟩
  have bad : ∀ v, ((pGr A.t A.n).1 = false ∧ v = (pGr A.t A.n).2.1) ∨ ((pGr A.t A.n).1 = true ∧ ordA (pGr A.t A.n).2.2 = some v) → ∃ A' v, (∀ Q : Int32 → ab_S → Prop, (∀ τ, AOK A' → FM Cls σ τ → (∃ g q x y, CIv τ A' g q x y) → Q v τ) → wX11_grammar Q E σ) ∧ ∀ σ', MIv σ' A → ∀ Q : Int32 → ab_S → Prop, (∀ τ, FM Mdl σ' τ → MIv τ A' → Q v τ) → wX12_grammar Q E σ' := by
    intro v hv
    have uq : ∀ v', ((pGr A.t A.n).1 = false ∧ v' = (pGr A.t A.n).2.1) ∨ ((pGr A.t A.n).1 = true ∧ ordA (pGr A.t A.n).2.2 = some v') → v' = v := by
      intro v' hv'
      rcases hv with ⟨a1, a2⟩ | ⟨a1, a2⟩
      · rcases hv' with ⟨b1, b2⟩ | ⟨b1, b2⟩
        · rw [a2, b2]
        · rw [a1] at b1; exact absurd b1 (by decide)
      · rcases hv' with ⟨b1, b2⟩ | ⟨b1, b2⟩
        · rw [a1] at b1; exact absurd b1 (by decide)
        · rw [a2] at b2; exact (Option.some.inj b2).symm
    have ng : ¬ ((pGr A.t A.n).1 = true ∧ ordA (pGr A.t A.n).2.2 = none) := by
      rintro ⟨b1, b2⟩
      rcases hv with ⟨a1, a2⟩ | ⟨a1, a2⟩
      · rw [a1] at b1; exact absurd b1 (by decide)
      · rw [a2] at b2; exact absurd b2 (by simp)
    refine ⟨A, nI v, fun Q k => ?_, fun σ' hM Q k => ?_⟩
    · refine c_gram hT hqG hgG h12 h11 (fun v' τ hv' F => ?_) (fun b1 b2 => absurd ⟨b1, b2⟩ ng)
      rw [uq v' hv']
      exact k τ hA (F.mono (fun a i y => by have y := of_decide_eq_false y; exact decide_eq_false (by omega))) ⟨g, q, x, y, hC.fm2 hA F (fun a i h1 h2 => decide_eq_false (by omega))⟩
    · refine m_gram hM.1 hM.2.1 (b := A.hg) hM.2.2.1.1 (hK σ' hM) (fun v' τ hv' F z0 hW => ?_) (fun b1 b2 => absurd ⟨b1, b2⟩ ng)
      rw [uq v' hv']
      obtain ⟨h1, h2, ⟨f1, f2, f3⟩, h4, h5, h6⟩ := hM
      exact k τ (F.mono (fun a i y => by have y := of_decide_eq_false y; exact decide_eq_false (by omega))) ⟨h1.fm F (decide_eq_false (by omega)) (fun i => decide_eq_false (by omega)), h2.fm F (fun i => decide_eq_false (by omega)), ⟨by rw [F.1 _ _ (decide_eq_false (by omega))]; exact f1, by rw [F.1 _ _ (decide_eq_false (by omega))]; exact f2, by rw [F.1 _ _ (decide_eq_false (by omega))]; exact f3⟩, fun z => ⟨(h4 z).1.fm F (decide_eq_false (by omega)) (fun i => decide_eq_false (by omega)), hW z⟩, fun z => ⟨(h5 z).1.fm F (decide_eq_false (by omega)) (fun a i _ _ => decide_eq_false (by omega)), (h5 z).2.fm F (fun a i _ => decide_eq_false (by omega))⟩, fun z => ⟨(h6 z).1.fm F (fun a i _ => decide_eq_false (by omega)), by rw [F.1 _ _ (decide_eq_false (by omega))]; exact (h6 z).2⟩⟩
  cases hp : (pGr A.t A.n).1 with
  | false => exact bad _ (Or.inl ⟨hp, rfl⟩)
  | true =>
    cases ho : ordA (pGr A.t A.n).2.2 with
    | some v => exact bad v (Or.inr ⟨hp, ho⟩)
    | none =>
      refine ⟨((A.t, A.n), (true, A.t, A.n), (false, A.T), (false, A.S, A.dn)), -1, fun Q k => ?_, fun σ' hM Q k => ?_⟩
      · refine c_gram hT hqG hgG h12 h11 (fun v' τ hv' F => ?_) (fun b1 b2 hG τ F e11 e12 e15 e16 e17 hW => ?_)
        · rcases hv' with ⟨c1, _⟩ | ⟨_, c2⟩
          · rw [hp] at c1; exact absurd c1 (by decide)
          · rw [ho] at c2; exact absurd c2 (by simp)
        · refine k τ ⟨fun _ => ⟨hp, ho, hG, pGr_D0 _ _⟩, fun z => absurd z Bool.false_ne_true, fun z => absurd z Bool.false_ne_true⟩ (F.mono (fun a i y => by have y := of_decide_eq_false y; exact decide_eq_false (by omega))) ⟨q, g, x, y, ?_⟩
          obtain ⟨h1, h2, ⟨r1, r2, r3, r4⟩, ⟨f1, f2, f3⟩, ⟨m1, m2⟩, h6, h7, h8⟩ := hC
          refine ⟨h1.fm F (fun a i _ => decide_eq_false (by omega)), ⟨hqG, hgG, fun z => h2.2.2.1 z.symm, h2.2.2.2⟩, ⟨e11, e12, by rw [F.2.2 _ _ (decide_eq_false (by omega))]; exact r3, by rw [F.2.2 _ _ (decide_eq_false (by omega))]; exact r4⟩, ⟨e15, e16, e17⟩, ⟨by rw [F.1 _ _ (decide_eq_false (by omega))]; exact m1, by rw [F.1 _ _ (decide_eq_false (by omega))]; exact m2⟩, fun _ => hW, fun z => absurd z Bool.false_ne_true, fun z => absurd z Bool.false_ne_true⟩
      · refine m_gram hM.1 hM.2.1 (b := A.hg) hM.2.2.1.1 (hK σ' hM) (fun v' τ hv' F z0 hW => ?_) (fun b1 b2 τ F z0 z4 z52 z83 hKp hW => ?_)
        · rcases hv' with ⟨c1, _⟩ | ⟨_, c2⟩
          · rw [hp] at c1; exact absurd c1 (by decide)
          · rw [ho] at c2; exact absurd c2 (by simp)
        · obtain ⟨h1, h2, ⟨f1, f2, f3⟩, h4, h5, h6⟩ := hM
          exact k τ (F.mono (fun a i y => by have y := of_decide_eq_false y; exact decide_eq_false (by omega))) ⟨h1.fm F (decide_eq_false (by omega)) (fun i => decide_eq_false (by omega)), h2.fm F (fun i => decide_eq_false (by omega)), ⟨z4, z52, z83⟩, fun _ => ⟨hKp, hW⟩, fun z => absurd z Bool.false_ne_true, fun z => absurd z Bool.false_ne_true⟩
end QX
