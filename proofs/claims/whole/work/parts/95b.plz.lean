/-! ===== plans: visit by visit ===== -/
/-- T goes on from T0, in visits behind u -/
def plQ (u : Nat) (T0 T : PLT) : Prop := T0.es.length ≤ T.es.length ∧ (∀ i, i < T0.es.length → gE T i = gE T0 i) ∧ (∀ i, T0.es.length ≤ i → i < T.es.length → u < (gE T i).2.1) ∧ (∀ x, T0.ev x = true → T.ev x = true ∧ T.ea x = T0.ea x) ∧ ∀ o, T0.vs o ≤ T.vs o ∧ ∀ w, w ≤ T0.vs o → T.va o w = T0.va o w
section PZ
variable {Γ : GRT} {p v u : Nat} {T0 : PLT}
theorem plQ_rf (u : Nat) (T : PLT) : plQ u T T := ⟨Nat.le_refl _, fun _ _ => rfl, fun i h1 h2 => by omega, fun x hx => ⟨hx, rfl⟩, fun o => ⟨Nat.le_refl _, fun _ _ => rfl⟩⟩
theorem plQ_app {T T' : PLT} {e : Nat × Nat × Nat} (h1 : T0.es.length ≤ T.es.length) (h2 : ∀ i, i < T0.es.length → gE T i = gE T0 i) (h3 : ∀ i, T0.es.length ≤ i → i < T.es.length → u < (gE T i).2.1) (he : T'.es = T.es ++ [e]) (hv : u < e.2.1) : T0.es.length ≤ T'.es.length ∧ (∀ i, i < T0.es.length → gE T' i = gE T0 i) ∧ ∀ i, T0.es.length ≤ i → i < T'.es.length → u < (gE T' i).2.1 := by
  have g1 : ∀ i, i < T.es.length → gE T' i = gE T i := fun i hi => by unfold gE; rw [he, ge_l hi]
  have g2 : gE T' T.es.length = e := by unfold gE; rw [he, ge_e]
  have hl : T'.es.length = T.es.length + 1 := by rw [he, List.length_append, List.length_singleton]
  refine ⟨by omega, fun i hi => ?_, fun i hi hi2 => ?_⟩
  · rw [g1 i (by omega)]; exact h2 i hi
  · by_cases ei : i = T.es.length
    · rw [ei, g2]; exact hv
    · rw [g1 i (by omega)]; exact h3 i hi (by omega)
theorem plQ_E {T : PLT} (x : Nat) (huv : u < v) (h : plQ u T0 T) : plQ u T0 (plE Γ p v x T) := by
  unfold plE
  by_cases hc : rdy Γ p x T.th = true ∧ T.ev x = false
  · rw [if_pos hc]
    obtain ⟨h1, h2, h3, h4, h5⟩ := h
    obtain ⟨a, b, c⟩ := plQ_app (T' := (uf T.th x true, uf T.ev x true, T.vs, T.es ++ [(enc x, v, 0)], uf T.ea x T.es.length, T.va)) h1 h2 h3 rfl huv
    refine ⟨a, b, c, fun y hy => ?_, h5⟩
    obtain ⟨z1, z2⟩ := h4 y hy
    have e : y ≠ x := fun e => by rw [e, hc.2] at z1; exact absurd z1 (by decide)
    show uf T.ev x true y = true ∧ uf T.ea x T.es.length y = T0.ea y
    rw [uf_o _ _ e, uf_o _ _ e]; exact ⟨z1, z2⟩
  · rw [if_neg hc]; exact h
theorem plQ_V {T : PLT} (o : Nat) (huv : u < v) (h : plQ u T0 T) : plQ u T0 (plV Γ p v o T) := by
  unfold plV
  by_cases hc : cvi Γ p o (T.vs o + 1) T.th = true
  · rw [if_pos hc]
    obtain ⟨h1, h2, h3, h4, h5⟩ := h
    obtain ⟨a, b, c⟩ := plQ_app (T' := (addV Γ p o (T.vs o + 1) false T.th, T.ev, uf T.vs o (T.vs o + 1), T.es ++ [(o, v, T.vs o + 1)], T.ea, uf T.va o (uf (T.va o) (T.vs o + 1) T.es.length))) h1 h2 h3 rfl huv
    refine ⟨a, b, c, h4, fun o' => ?_⟩
    obtain ⟨z1, z2⟩ := h5 o'
    show T0.vs o' ≤ uf T.vs o (T.vs o + 1) o' ∧ ∀ w, w ≤ T0.vs o' → uf T.va o (uf (T.va o) (T.vs o + 1) T.es.length) o' w = T0.va o' w
    by_cases e : o' = o
    · rw [e] at z1 z2 ⊢
      rw [uf_s, uf_s]
      exact ⟨by omega, fun w hw => by rw [uf_o _ _ (by omega)]; exact z2 w hw⟩
    · rw [uf_o _ _ e, uf_o _ _ e]; exact ⟨z1, z2⟩
  · rw [if_neg hc]; exact h
theorem plQ_Es (huv : u < v) : ∀ k {T : PLT}, plQ u T0 T → plQ u T0 (plEs Γ p v k T)
  | 0, _, h => h
  | k + 1, _, h => plQ_E k huv (plQ_Es huv k h)
theorem plQ_Vs (huv : u < v) : ∀ k {T : PLT}, plQ u T0 T → plQ u T0 (plVs Γ p v k T)
  | 0, _, h => h
  | k + 1, _, h => plQ_V (k + 1) huv (plQ_Vs huv k h)
theorem plQ_L (huv : u < v) : ∀ f {T : PLT}, plQ u T0 T → plQ u T0 (plL Γ p v f T)
  | 0, _, h => h
  | f + 1, T, h => by
    have hr : plQ u T0 (plR Γ p v T) := plQ_Vs huv _ (plQ_Es huv 32 h)
    rw [plL]
    split
    · exact plQ_L huv f hr
    · exact hr
theorem plQ_A (u : Nat) : ∀ d, plQ u (plA Γ p u pl0) (plA Γ p (u + d) pl0)
  | 0 => plQ_rf u _
  | d + 1 => plQ_L (v := u + d + 1) (by omega) 48 (T := plD Γ p (u + d + 1) (plA Γ p (u + d) pl0)) (plQ_A u d)
theorem plQ_P (hu : u ≤ svs Γ (hdS Γ p)) : plQ u (plA Γ p u pl0) (plP Γ p) := by
  have := plQ_A (Γ := Γ) (p := p) u (svs Γ (hdS Γ p) - u)
  rw [show u + (svs Γ (hdS Γ p) - u) = svs Γ (hdS Γ p) by omega] at this
  exact this
/-- which entries are ahead of the end of visit u -/
theorem plF_i (hV : GRV Γ) (hL : LVF Γ) (hp : p < Γ.2.1) (hu : u ≤ svs Γ (hdS Γ p)) {i : Nat} (hi : i < plN Γ p) : i < plF Γ p (u + 1) ↔ (gE (plP Γ p) i).2.1 ≤ u := by
  obtain ⟨h1, h2, h3, _⟩ := plQ_P hu
  have e : plF Γ p (u + 1) = (plA Γ p u pl0).es.length := rfl
  rw [e]
  constructor
  · intro h; rw [h2 i h]; exact (plO_A hV hL hp u).1.1 i h
  · intro h
    rcases Nat.lt_or_ge i (plA Γ p u pl0).es.length with z | z
    · exact z
    · have := h3 i z hi; omega
theorem plF_le (hu : u ≤ svs Γ (hdS Γ p)) : plF Γ p (u + 1) ≤ plN Γ p := (plQ_P hu).1
theorem plF_N : plF Γ p (svs Γ (hdS Γ p) + 1) = plN Γ p := rfl
theorem plF_1 : plF Γ p 1 = 0 := rfl
/-- the entries of a visit -/
theorem plF_v (hV : GRV Γ) (hL : LVF Γ) (hp : p < Γ.2.1) (h1 : 1 ≤ v) (hv : v ≤ svs Γ (hdS Γ p)) {i : Nat} (hi : i < plN Γ p) : (plF Γ p v ≤ i ∧ i < plF Γ p (v + 1)) ↔ (gE (plP Γ p) i).2.1 = v := by
  have a := plF_i hV hL hp hv hi
  have b := plF_i hV hL hp (u := v - 1) (by omega) hi
  rw [show v - 1 + 1 = v by omega] at b
  omega
/-- the head's attributes are evaluated in time -/
theorem plC_in (hV : GRV Γ) (hL : LVF Γ) (hp : p < Γ.2.1) (hx : crc (xR Γ p) = false) {a : Nat} (ha : a < Γ.1.2.2.1 (hdS Γ p)) (hu : Γ.1.2.2.2.1 (hdS Γ p) a = false) : (plP Γ p).ev a = true ∧ (gE (plP Γ p) ((plP Γ p).ea a)).2.1 ≤ vOf Γ (hdS Γ p) a := by
  have hpv := (hV.2.2.2 p hp).2.1
  have hs : hdS Γ p < Γ.1.1 := hpv.2.1 0 (Nat.zero_le _)
  have hvo := hL.vof _ hs a ha
  have hev := plC_hd hV hL hp hx hvo.1 ha hu (Nat.le_refl _)
  obtain ⟨h1, h2, h3, h4, _⟩ := plQ_P (Γ := Γ) (p := p) (u := vOf Γ (hdS Γ p) a) hvo.2.1
  obtain ⟨z1, z2⟩ := h4 a hev
  have hlt := ((plI_A hL hV hp (vOf Γ (hdS Γ p) a)).2.2.2.1 a hev).1
  refine ⟨z1, ?_⟩
  rw [z2, h2 _ hlt]
  exact (plO_A hV hL hp _).1.1 _ hlt
end PZ
