/-! ===== plans: what comes ahead of what ===== -/
abbrev gE (T : PLT) (i : Nat) : Nat × Nat × Nat := T.es.getD i (0, 0, 0)
def plO1 (v : Nat) (T : PLT) : Prop := (∀ i, i < T.es.length → (gE T i).2.1 ≤ v) ∧ ∀ i j, i ≤ j → j < T.es.length → (gE T i).2.1 ≤ (gE T j).2.1
def plO2 (T : PLT) : Prop := ∀ i, i < T.es.length → ((gE T i).2.2 = 0 ∧ ∃ x, x < 32 ∧ T.ev x = true ∧ T.ea x = i) ∨ (1 ≤ (gE T i).2.2 ∧ (gE T i).2.2 ≤ T.vs (gE T i).1 ∧ T.va (gE T i).1 (gE T i).2.2 = i)
def plO3 (Γ : GRT) (p : Nat) (T : PLT) : Prop := ∀ x y, T.ev x = true → nmd Γ p x y = true → (T.ev y = true ∧ T.ea y < T.ea x) ∨ (y / 8 = 0 ∧ y % 8 < Γ.1.2.2.1 (hdS Γ p) ∧ Γ.1.2.2.2.1 (hdS Γ p) (y % 8) = true ∧ vOf Γ (hdS Γ p) (y % 8) ≤ (gE T (T.ea x)).2.1) ∨ (1 ≤ y / 8 ∧ y / 8 ≤ (Γ.2.2.1 p).2.1 ∧ y % 8 < Γ.1.2.2.1 ((Γ.2.2.1 p).2.2.1 (y / 8)) ∧ Γ.1.2.2.2.1 ((Γ.2.2.1 p).2.2.1 (y / 8)) (y % 8) = false ∧ vOf Γ ((Γ.2.2.1 p).2.2.1 (y / 8)) (y % 8) ≤ T.vs (y / 8) ∧ T.va (y / 8) (vOf Γ ((Γ.2.2.1 p).2.2.1 (y / 8)) (y % 8)) < T.ea x)
def plO4 (Γ : GRT) (p : Nat) (T : PLT) : Prop := ∀ o w, 1 ≤ w → w ≤ T.vs o → (∀ c, c < Γ.1.2.2.1 ((Γ.2.2.1 p).2.2.1 o) → vOf Γ ((Γ.2.2.1 p).2.2.1 o) c = w → Γ.1.2.2.2.1 ((Γ.2.2.1 p).2.2.1 o) c = true → T.ev (8 * o + c) = true ∧ T.ea (8 * o + c) < T.va o w) ∧ ∀ w', 1 ≤ w' → w' < w → T.va o w' < T.va o w
def plO (Γ : GRT) (p v : Nat) (T : PLT) : Prop := plO1 v T ∧ plO2 T ∧ plO3 Γ p T ∧ plO4 Γ p T
section PO
variable {Γ : GRT} {p v : Nat}
theorem plO1_app {T T' : PLT} {e : Nat × Nat × Nat} (h : plO1 v T) (he : T'.es = T.es ++ [e]) (hv : e.2.1 = v) : plO1 v T' := by
  have g1 : ∀ i, i < T.es.length → gE T' i = gE T i := fun i hi => by unfold gE; rw [he, ge_l hi]
  have g2 : gE T' T.es.length = e := by unfold gE; rw [he, ge_e]
  have hl : T'.es.length = T.es.length + 1 := by rw [he, List.length_append, List.length_singleton]
  refine ⟨fun i hi => ?_, fun i j hij hj => ?_⟩
  · by_cases ei : i = T.es.length
    · rw [ei, g2]; omega
    · rw [g1 i (by omega)]; exact h.1 i (by omega)
  · by_cases ej : j = T.es.length
    · by_cases ei : i = T.es.length
      · rw [ej, ei]; exact Nat.le_refl _
      · rw [ej, g2, g1 i (by omega), hv]; exact h.1 i (by omega)
    · rw [g1 i (by omega), g1 j (by omega)]; exact h.2 i j hij (by omega)
theorem plO_E (hV : GRV Γ) (hL : LVF Γ) (hp : p < Γ.2.1) {T : PLT} (x : Nat) (hI : plI Γ p T) (hK : plK Γ p v T) (h : plO Γ p v T) : plO Γ p v (plE Γ p v x T) := by
  unfold plE
  by_cases hc : rdy Γ p x T.th = true ∧ T.ev x = false
  · rw [if_pos hc]
    have hpv := (hV.2.2.2 p hp).2.1
    have hd := (rdy_i.mp hc.1).1
    have hx32 := (hpv.2.2 x hd).1
    obtain ⟨h1, h2, h3, h4⟩ := h
    have nx : ∀ y, T.ev y = true → y ≠ x := fun y hy e => by rw [e, hc.2] at hy; exact absurd hy (by decide)
    refine ⟨plO1_app h1 rfl rfl, fun i hi => ?_, fun x' y hx' hn => ?_, fun o w w1 w2 => ?_⟩
    · have hi : i < (T.es ++ [(enc x, v, 0)]).length := hi
      rw [List.length_append, List.length_singleton] at hi
      show (((T.es ++ [(enc x, v, 0)]).getD i (0, 0, 0)).2.2 = 0 ∧ ∃ x', x' < 32 ∧ uf T.ev x true x' = true ∧ uf T.ea x T.es.length x' = i) ∨ (1 ≤ ((T.es ++ [(enc x, v, 0)]).getD i (0, 0, 0)).2.2 ∧ ((T.es ++ [(enc x, v, 0)]).getD i (0, 0, 0)).2.2 ≤ T.vs ((T.es ++ [(enc x, v, 0)]).getD i (0, 0, 0)).1 ∧ T.va ((T.es ++ [(enc x, v, 0)]).getD i (0, 0, 0)).1 ((T.es ++ [(enc x, v, 0)]).getD i (0, 0, 0)).2.2 = i)
      by_cases ei : i = T.es.length
      · rw [ei, ge_e]
        exact Or.inl ⟨rfl, x, hx32, uf_s _ _ _, uf_s _ _ _⟩
      · rw [ge_l (by omega)]
        rcases h2 i (by omega) with ⟨a, x', b, c, d⟩ | z
        · exact Or.inl ⟨a, x', b, by rw [uf_o _ _ (nx x' c)]; exact c, by rw [uf_o _ _ (nx x' c)]; exact d⟩
        · exact Or.inr z
    · have hx' : uf T.ev x true x' = true := hx'
      show (uf T.ev x true y = true ∧ uf T.ea x T.es.length y < uf T.ea x T.es.length x') ∨ (y / 8 = 0 ∧ y % 8 < Γ.1.2.2.1 (hdS Γ p) ∧ Γ.1.2.2.2.1 (hdS Γ p) (y % 8) = true ∧ vOf Γ (hdS Γ p) (y % 8) ≤ ((T.es ++ [(enc x, v, 0)]).getD (uf T.ea x T.es.length x') (0, 0, 0)).2.1) ∨ (1 ≤ y / 8 ∧ y / 8 ≤ (Γ.2.2.1 p).2.1 ∧ y % 8 < Γ.1.2.2.1 ((Γ.2.2.1 p).2.2.1 (y / 8)) ∧ Γ.1.2.2.2.1 ((Γ.2.2.1 p).2.2.1 (y / 8)) (y % 8) = false ∧ vOf Γ ((Γ.2.2.1 p).2.2.1 (y / 8)) (y % 8) ≤ T.vs (y / 8) ∧ T.va (y / 8) (vOf Γ ((Γ.2.2.1 p).2.2.1 (y / 8)) (y % 8)) < uf T.ea x T.es.length x')
      by_cases ex : x' = x
      · rw [ex] at hn ⊢
        rw [uf_s, ge_e]
        have hy32 := vSl_32 hpv.1 ((ord0_V hV).1 p hp x y hn).2
        have hty := (rdy_i.mp hc.1).2 y hy32 hn
        rcases (hK y).mp hty with z | ⟨z1, z2, z3, z4⟩ | ⟨z1, z2, z3, z4, z5⟩
        · refine Or.inl ⟨by rw [uf_o _ _ (nx y z)]; exact z, ?_⟩
          rw [uf_o _ _ (nx y z)]
          exact (hI.2.2.2.1 y z).1
        · exact Or.inr (Or.inl ⟨z1, z2, z3, z4⟩)
        · have := (hL.vof _ (hpv.2.1 _ z2) _ z3).1
          exact Or.inr (Or.inr ⟨z1, z2, z3, z4, z5, (hI.2.2.2.2 _ _ this z5).1⟩)
      · rw [uf_o _ _ ex] at hx'
        rw [uf_o _ _ ex, ge_l (hI.2.2.2.1 x' hx').1]
        rcases h3 x' y hx' hn with ⟨z1, z2⟩ | z
        · exact Or.inl ⟨by rw [uf_o _ _ (nx y z1)]; exact z1, by rw [uf_o _ _ (nx y z1)]; exact z2⟩
        · exact Or.inr z
    · obtain ⟨a, b⟩ := h4 o w w1 w2
      refine ⟨fun c hcn hcv hcd => ?_, b⟩
      obtain ⟨z1, z2⟩ := a c hcn hcv hcd
      show uf T.ev x true (8 * o + c) = true ∧ uf T.ea x T.es.length (8 * o + c) < T.va o w
      rw [uf_o _ _ (nx _ z1), uf_o _ _ (nx _ z1)]
      exact ⟨z1, z2⟩
  · rw [if_neg hc]; exact h
theorem plO_V (hV : GRV Γ) (hp : p < Γ.2.1) {T : PLT} {o : Nat} (ho : 1 ≤ o) (ho2 : o ≤ (Γ.2.2.1 p).2.1) (hI : plI Γ p T) (hK : plK Γ p v T) (h : plO Γ p v T) : plO Γ p v (plV Γ p v o T) := by
  unfold plV
  by_cases hc : cvi Γ p o (T.vs o + 1) T.th = true
  · rw [if_pos hc]
    have hpv := (hV.2.2.2 p hp).2.1
    have c8 := (hV.1.2.2 _ (hpv.2.1 o ho2)).2.1
    obtain ⟨h1, h2, h3, h4⟩ := h
    -- visits made already
    have va' : ∀ o' w', w' ≤ T.vs o' → uf T.va o (uf (T.va o) (T.vs o + 1) T.es.length) o' w' = T.va o' w' := by
      intro o' w' hw'
      by_cases e : o' = o
      · rw [e] at hw' ⊢
        rw [uf_s, uf_o _ _ (by omega)]
      · rw [uf_o _ _ e]
    have vs' : ∀ o', T.vs o' ≤ uf T.vs o (T.vs o + 1) o' := by
      intro o'
      by_cases e : o' = o
      · rw [e, uf_s]; omega
      · rw [uf_o _ _ e]; exact Nat.le_refl _
    refine ⟨plO1_app h1 rfl rfl, fun i hi => ?_, fun x' y hx' hn => ?_, fun o' w w1 w2 => ?_⟩
    · have hi : i < (T.es ++ [(o, v, T.vs o + 1)]).length := hi
      rw [List.length_append, List.length_singleton] at hi
      show (((T.es ++ [(o, v, T.vs o + 1)]).getD i (0, 0, 0)).2.2 = 0 ∧ ∃ x', x' < 32 ∧ T.ev x' = true ∧ T.ea x' = i) ∨ (1 ≤ ((T.es ++ [(o, v, T.vs o + 1)]).getD i (0, 0, 0)).2.2 ∧ ((T.es ++ [(o, v, T.vs o + 1)]).getD i (0, 0, 0)).2.2 ≤ uf T.vs o (T.vs o + 1) ((T.es ++ [(o, v, T.vs o + 1)]).getD i (0, 0, 0)).1 ∧ uf T.va o (uf (T.va o) (T.vs o + 1) T.es.length) ((T.es ++ [(o, v, T.vs o + 1)]).getD i (0, 0, 0)).1 ((T.es ++ [(o, v, T.vs o + 1)]).getD i (0, 0, 0)).2.2 = i)
      by_cases ei : i = T.es.length
      · rw [ei, ge_e]
        refine Or.inr ⟨by show 1 ≤ T.vs o + 1; omega, ?_, ?_⟩
        · show T.vs o + 1 ≤ uf T.vs o (T.vs o + 1) o
          rw [uf_s]; exact Nat.le_refl _
        · show uf T.va o (uf (T.va o) (T.vs o + 1) T.es.length) o (T.vs o + 1) = T.es.length
          rw [uf_s, uf_s]
      · rw [ge_l (by omega)]
        rcases h2 i (by omega) with z | ⟨a, b, c⟩
        · exact Or.inl z
        · exact Or.inr ⟨a, Nat.le_trans b (vs' _), by rw [va' _ _ b]; exact c⟩
    · have hx' : T.ev x' = true := hx'
      show (T.ev y = true ∧ T.ea y < T.ea x') ∨ (y / 8 = 0 ∧ y % 8 < Γ.1.2.2.1 (hdS Γ p) ∧ Γ.1.2.2.2.1 (hdS Γ p) (y % 8) = true ∧ vOf Γ (hdS Γ p) (y % 8) ≤ ((T.es ++ [(o, v, T.vs o + 1)]).getD (T.ea x') (0, 0, 0)).2.1) ∨ (1 ≤ y / 8 ∧ y / 8 ≤ (Γ.2.2.1 p).2.1 ∧ y % 8 < Γ.1.2.2.1 ((Γ.2.2.1 p).2.2.1 (y / 8)) ∧ Γ.1.2.2.2.1 ((Γ.2.2.1 p).2.2.1 (y / 8)) (y % 8) = false ∧ vOf Γ ((Γ.2.2.1 p).2.2.1 (y / 8)) (y % 8) ≤ uf T.vs o (T.vs o + 1) (y / 8) ∧ uf T.va o (uf (T.va o) (T.vs o + 1) T.es.length) (y / 8) (vOf Γ ((Γ.2.2.1 p).2.2.1 (y / 8)) (y % 8)) < T.ea x')
      rw [ge_l (hI.2.2.2.1 x' hx').1]
      rcases h3 x' y hx' hn with z | z | ⟨z1, z2, z3, z4, z5, z6⟩
      · exact Or.inl z
      · exact Or.inr (Or.inl z)
      · exact Or.inr (Or.inr ⟨z1, z2, z3, z4, Nat.le_trans z5 (vs' _), by rw [va' _ _ z5]; exact z6⟩)
    · have w2 : w ≤ uf T.vs o (T.vs o + 1) o' := w2
      show (∀ c, c < Γ.1.2.2.1 ((Γ.2.2.1 p).2.2.1 o') → vOf Γ ((Γ.2.2.1 p).2.2.1 o') c = w → Γ.1.2.2.2.1 ((Γ.2.2.1 p).2.2.1 o') c = true → T.ev (8 * o' + c) = true ∧ T.ea (8 * o' + c) < uf T.va o (uf (T.va o) (T.vs o + 1) T.es.length) o' w) ∧ ∀ w', 1 ≤ w' → w' < w → uf T.va o (uf (T.va o) (T.vs o + 1) T.es.length) o' w' < uf T.va o (uf (T.va o) (T.vs o + 1) T.es.length) o' w
      by_cases hw : w ≤ T.vs o'
      · obtain ⟨a, b⟩ := h4 o' w w1 hw
        refine ⟨fun c c1 c2 c3 => by rw [va' _ _ hw]; exact a c c1 c2 c3, fun w' q1 q2 => ?_⟩
        rw [va' _ _ hw, va' _ _ (by omega)]; exact b w' q1 q2
      · have e : o' = o := by
          apply Classical.byContradiction
          intro e
          rw [uf_o _ _ e] at w2; omega
        subst e
        rw [uf_s] at w2
        have ew : w = T.vs o' + 1 := by omega
        subst ew
        rw [uf_s, uf_s]
        refine ⟨fun c c1 c2 c3 => ?_, fun w' q1 q2 => ?_⟩
        · have hth := (cvi_i.mp hc).2 c (by omega) (decide_eq_true ⟨c1, c2⟩) c3
          have hev : T.ev (8 * o' + c) = true := by
            rcases (hK _).mp hth with z | ⟨z, _⟩ | ⟨_, _, _, z, _⟩
            · exact z
            · omega
            · rw [show (8 * o' + c) / 8 = o' by omega, show (8 * o' + c) % 8 = c by omega, c3] at z; exact absurd z (by decide)
          exact ⟨hev, (hI.2.2.2.1 _ hev).1⟩
        · rw [uf_o _ _ (by omega)]
          exact (hI.2.2.2.2 o' w' q1 (by omega)).1
  · rw [if_neg hc]; exact h
theorem plO_Es (hV : GRV Γ) (hL : LVF Γ) (hp : p < Γ.2.1) : ∀ k {T : PLT}, plI Γ p T → plK Γ p v T → plO Γ p v T → plO Γ p v (plEs Γ p v k T)
  | 0, _, _, _, h => h
  | k + 1, _, hI, hK, h => plO_E hV hL hp k (plI_Es hV hp k hI) (plK_Es k hK) (plO_Es hV hL hp k hI hK h)
theorem plO_Vs (hV : GRV Γ) (hL : LVF Γ) (hp : p < Γ.2.1) : ∀ k {T : PLT}, k ≤ (Γ.2.2.1 p).2.1 → plI Γ p T → plK Γ p v T → plO Γ p v T → plO Γ p v (plVs Γ p v k T)
  | 0, _, _, _, _, h => h
  | k + 1, _, hk, hI, hK, h => plO_V hV hp (by omega) hk (plI_Vs hL hV hp k (by omega) hI) (plK_Vs k (by omega) hK) (plO_Vs hV hL hp k (by omega) hI hK h)
theorem plO_R (hV : GRV Γ) (hL : LVF Γ) (hp : p < Γ.2.1) {T : PLT} (hI : plI Γ p T) (hK : plK Γ p v T) (h : plO Γ p v T) : plO Γ p v (plR Γ p v T) := plO_Vs hV hL hp _ (Nat.le_refl _) (plI_Es hV hp 32 hI) (plK_Es 32 hK) (plO_Es hV hL hp 32 hI hK h)
theorem plO_L (hV : GRV Γ) (hL : LVF Γ) (hp : p < Γ.2.1) : ∀ f {T : PLT}, plI Γ p T → plK Γ p v T → plO Γ p v T → plO Γ p v (plL Γ p v f T)
  | 0, _, _, _, h => h
  | f + 1, T, hI, hK, h => by
    have := plO_R hV hL hp hI hK h
    rw [plL]
    split
    · exact plO_L hV hL hp f (plI_R hL hV hp hI) (plK_R hK) this
    · exact this
theorem plO_A (hV : GRV Γ) (hL : LVF Γ) (hp : p < Γ.2.1) : ∀ v, plO Γ p v (plA Γ p v pl0)
  | 0 => ⟨⟨fun i hi => absurd hi (Nat.not_lt_zero _), fun i j _ hj => absurd hj (Nat.not_lt_zero _)⟩, fun i hi => absurd hi (Nat.not_lt_zero _), fun x y hx => absurd hx Bool.false_ne_true, fun o w w1 w2 => by have w2 : w ≤ 0 := w2; omega⟩
  | v + 1 => by
    obtain ⟨h1, h2, h3, h4⟩ := plO_A hV hL hp v
    have hD : plO Γ p (v + 1) (plD Γ p (v + 1) (plA Γ p v pl0)) := ⟨⟨fun i hi => by have := h1.1 i hi; exact Nat.le_succ_of_le this, h1.2⟩, h2, h3, h4⟩
    exact plO_L hV hL hp 48 (T := plD Γ p (v + 1) (plA Γ p v pl0)) (plI_A hL hV hp v) (plK_D (plK_A hV hL hp v)) hD
end PO
