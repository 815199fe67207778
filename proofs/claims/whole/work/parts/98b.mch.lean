/-! ===== the machine: the program's places ===== -/
def pfx (A B : List (Nat × Nat × Nat)) : Prop := ∃ R, B = A ++ R
theorem pfx.rf (A : List (Nat × Nat × Nat)) : pfx A A := ⟨[], (List.append_nil A).symm⟩
theorem pfx.tr {A B C : List (Nat × Nat × Nat)} (h : pfx A B) (k : pfx B C) : pfx A C := by
  obtain ⟨R, rfl⟩ := h
  obtain ⟨R2, rfl⟩ := k
  exact ⟨R ++ R2, by rw [List.append_assoc]⟩
theorem pfx.get {A B : List (Nat × Nat × Nat)} (h : pfx A B) {j : Nat} (hj : j < A.length) : B.getD j (0, 0, 0) = A.getD j (0, 0, 0) := by
  obtain ⟨R, rfl⟩ := h
  exact ge_l hj
theorem pfx_e (Γ : GRT) (p : Nat) (A : List (Nat × Nat × Nat)) (i n : Nat) : ∀ d, pfx (PLe Γ p A i n) (PLe Γ p A i (n + d))
  | 0 => pfx.rf _
  | d + 1 => (pfx_e Γ p A i n d).tr ⟨_, rfl⟩
theorem pfx_v (Γ : GRT) (p : Nat) (A : List (Nat × Nat × Nat)) (v : Nat) : ∀ d, pfx (PLv Γ p A v) (PLv Γ p A (v + d))
  | 0 => pfx.rf _
  | d + 1 => by
    refine (pfx_v Γ p A v d).tr ?_
    show pfx _ (PLe Γ p (PLv Γ p A (v + d)) _ _ ++ [(20, 0, 0)])
    have h1 := pfx_e Γ p (PLv Γ p A (v + d)) (plF Γ p (v + d + 1)) 0 (plF Γ p (v + d + 2) - plF Γ p (v + d + 1))
    rw [Nat.zero_add] at h1
    exact pfx.tr h1 ⟨_, rfl⟩
theorem pfx_s (Γ : GRT) (p : Nat) : ∀ d, pfx (PLs Γ p) (PLs Γ (p + d))
  | 0 => pfx.rf _
  | d + 1 => by
    refine (pfx_s Γ p d).tr ?_
    have := pfx_v Γ (p + d) (PLs Γ (p + d)) 0 (svs Γ (hdS Γ (p + d)))
    rw [Nat.zero_add] at this
    exact this
/-- the place of entry i of production p -/
def eP (Γ : GRT) (p i : Nat) : Nat := pgB Γ p + (pgS Γ p i + ((gE (plP Γ p) i).2.1 - 1))
/-- the place of the BACK of visit v -/
def bP (Γ : GRT) (p v : Nat) : Nat := pgB Γ p + (pgS Γ p (plF Γ p (v + 1)) + (v - 1))
section MK
variable {Γ : GRT} {p : Nat}
theorem vis_1 (hV : GRV Γ) (hL : LVF Γ) (hp : p < Γ.2.1) {i : Nat} (hi : i < plN Γ p) : 1 ≤ (gE (plP Γ p) i).2.1 ∧ (gE (plP Γ p) i).2.1 ≤ svs Γ (hdS Γ p) := by
  have h0 := plF_i hV hL hp (u := 0) (Nat.zero_le _) hi
  rw [plF_1] at h0
  have h1 := plF_i hV hL hp (u := svs Γ (hdS Γ p)) (Nat.le_refl _) hi
  rw [plF_N] at h1
  exact ⟨by omega, h1.mp hi⟩
theorem pg_v (hp : p < Γ.2.1) {v : Nat} (hv : v ≤ svs Γ (hdS Γ p)) : pfx (PLv Γ p (PLs Γ p) v) (PLs Γ Γ.2.1) := by
  have h1 := pfx_v Γ p (PLs Γ p) v (svs Γ (hdS Γ p) - v)
  rw [show v + (svs Γ (hdS Γ p) - v) = svs Γ (hdS Γ p) by omega] at h1
  have h2 := pfx_s Γ (p + 1) (Γ.2.1 - (p + 1))
  rw [show p + 1 + (Γ.2.1 - (p + 1)) = Γ.2.1 by omega] at h2
  exact h1.tr h2
/-- an entry's instructions are where they should be -/
theorem pg_en (hV : GRV Γ) (hL : LVF Γ) (hp : p < Γ.2.1) {i k : Nat} (hi : i < plN Γ p) (hk : k < pgn Γ p i) : (PLs Γ Γ.2.1).getD (eP Γ p i + k) (0, 0, 0) = (enL Γ p (eP Γ p i) i).getD k (0, 0, 0) ∧ eP Γ p i + k < pgB Γ Γ.2.1 := by
  obtain ⟨v1, v2⟩ := vis_1 hV hL hp hi
  obtain ⟨u, hu⟩ : ∃ u, (gE (plP Γ p) i).2.1 = u + 1 := ⟨(gE (plP Γ p) i).2.1 - 1, by omega⟩
  rw [hu] at v2
  have hr := (plF_v hV hL hp (by omega) v2 hi).mpr hu
  have ee : eP Γ p i = pgB Γ p + (pgS Γ p i + u) := by unfold eP; rw [hu]; rfl
  have hl := LEp_len Γ p u (i - plF Γ p (u + 1))
  rw [show plF Γ p (u + 1) + (i - plF Γ p (u + 1)) = i by omega] at hl
  have h1 : pfx (PLe Γ p (PLv Γ p (PLs Γ p) u) (plF Γ p (u + 1)) (i - plF Γ p (u + 1) + 1)) (PLs Γ Γ.2.1) := by
    have a := pfx_e Γ p (PLv Γ p (PLs Γ p) u) (plF Γ p (u + 1)) (i - plF Γ p (u + 1) + 1) (plF Γ p (u + 2) - plF Γ p (u + 1) - (i - plF Γ p (u + 1) + 1))
    rw [show i - plF Γ p (u + 1) + 1 + (plF Γ p (u + 2) - plF Γ p (u + 1) - (i - plF Γ p (u + 1) + 1)) = plF Γ p (u + 2) - plF Γ p (u + 1) by have : u + 1 + 1 = u + 2 := rfl; rw [this] at hr; omega] at a
    have b : pfx (PLe Γ p (PLv Γ p (PLs Γ p) u) (plF Γ p (u + 1)) (plF Γ p (u + 2) - plF Γ p (u + 1))) (PLv Γ p (PLs Γ p) (u + 1)) := ⟨_, rfl⟩
    exact (a.tr b).tr (pg_v hp v2)
  have e2 : PLe Γ p (PLv Γ p (PLs Γ p) u) (plF Γ p (u + 1)) (i - plF Γ p (u + 1) + 1) = PLe Γ p (PLv Γ p (PLs Γ p) u) (plF Γ p (u + 1)) (i - plF Γ p (u + 1)) ++ enL Γ p (eP Γ p i) i := by
    show _ ++ enL Γ p _ (plF Γ p (u + 1) + (i - plF Γ p (u + 1))) = _
    rw [hl, show plF Γ p (u + 1) + (i - plF Γ p (u + 1)) = i by omega, ← ee]
  have hlen : eP Γ p i + k < (PLe Γ p (PLv Γ p (PLs Γ p) u) (plF Γ p (u + 1)) (i - plF Γ p (u + 1) + 1)).length := by
    rw [e2, List.length_append, enL_len, hl, ← ee]; omega
  refine ⟨?_, ?_⟩
  · rw [h1.get hlen, e2, ge_r (by rw [hl, ← ee]; omega), hl, ← ee]
    congr 1; omega
  · obtain ⟨R, hR⟩ := h1
    have := congrArg List.length hR
    rw [LP_len, List.length_append] at this
    omega
theorem pg_bk (hV : GRV Γ) (hL : LVF Γ) (hp : p < Γ.2.1) {v : Nat} (h1 : 1 ≤ v) (hv : v ≤ svs Γ (hdS Γ p)) : (PLs Γ Γ.2.1).getD (bP Γ p v) (0, 0, 0) = (20, 0, 0) ∧ bP Γ p v < pgB Γ Γ.2.1 := by
  obtain ⟨u, rfl⟩ : ∃ u, v = u + 1 := ⟨v - 1, by omega⟩
  have h2 := pg_v hp hv
  have hl := LEp_len Γ p u (plF Γ p (u + 2) - plF Γ p (u + 1))
  have hmo := plF_mo (Γ := Γ) (p := p) (u := u)
  rw [show plF Γ p (u + 1) + (plF Γ p (u + 2) - plF Γ p (u + 1)) = plF Γ p (u + 2) by omega] at hl
  have ee : bP Γ p (u + 1) = pgB Γ p + (pgS Γ p (plF Γ p (u + 2)) + u) := rfl
  have e2 : PLv Γ p (PLs Γ p) (u + 1) = PLe Γ p (PLv Γ p (PLs Γ p) u) (plF Γ p (u + 1)) (plF Γ p (u + 2) - plF Γ p (u + 1)) ++ [(20, 0, 0)] := rfl
  have hlen : bP Γ p (u + 1) < (PLv Γ p (PLs Γ p) (u + 1)).length := by rw [e2, List.length_append, List.length_singleton, hl, ee]; omega
  refine ⟨?_, ?_⟩
  · rw [h2.get hlen, e2, ee, ← hl, ge_e]
  · obtain ⟨R, hR⟩ := h2
    have := congrArg List.length hR
    rw [LP_len, List.length_append] at this
    omega
end MK
