/-! ===== plans are complete: whole ===== -/
section PC
variable {Γ : GRT} {p v : Nat}
theorem slv_dn (hL : LVF Γ) {s a : Nat} (hs : s < Γ.1.1) (ha : a < Γ.1.2.2.1 s) (hd : Γ.1.2.2.2.1 s a = true) : slv Γ s a + 2 * vOf Γ s a = 2 * svs Γ s + 2 := by
  have h1 := hL.par s hs a ha
  rw [hd] at h1
  have h1 := of_decide_eq_true h1.symm
  have h2 := hL.pos s hs a ha
  have h3 := hL.vof s hs a ha
  have e : vOf Γ s a = svs Γ s + 1 - (slv Γ s a + 1) / 2 := rfl
  omega
theorem slv_up (hL : LVF Γ) {s a : Nat} (hs : s < Γ.1.1) (ha : a < Γ.1.2.2.1 s) (hd : Γ.1.2.2.2.1 s a = false) : slv Γ s a + 2 * vOf Γ s a = 2 * svs Γ s + 1 := by
  have h1 := hL.par s hs a ha
  rw [hd] at h1
  have h1 := of_decide_eq_false h1.symm
  have h2 := hL.pos s hs a ha
  have h3 := hL.vof s hs a ha
  have e : vOf Γ s a = svs Γ s + 1 - (slv Γ s a + 1) / 2 := rfl
  omega
theorem plC (hV : GRV Γ) (hL : LVF Γ) (hp : p < Γ.2.1) (hx : crc (xR Γ p) = false) {T : PLT} (hK : plK Γ p v T) (hX : plX Γ p T) : ∀ x, x < 32 → vSl Γ.1 (Γ.2.2.1 p) x → T.th x = true ∨ ∃ a, a < Γ.1.2.2.1 (hdS Γ p) ∧ Γ.1.2.2.2.1 (hdS Γ p) a = true ∧ v < vOf Γ (hdS Γ p) a ∧ (x = a ∨ xR Γ p x a = true) := by
  have hpv := (hV.2.2.2 p hp).2.1
  have h3 := hpv.1
  have hx0 : ∀ x, x < 32 → xR Γ p x x = false := by
    intro x h
    cases hh : xR Γ p x x
    · rfl
    · rw [crc_i.mpr ⟨x, h, hh⟩] at hx; exact absurd hx (by decide)
  refine x_ind hx0 (fun x hx32 ih hvs => ?_)
  -- what depends on a slot that is not there
  have step : ∀ y, y < 32 → xR Γ p x y = true → vSl Γ.1 (Γ.2.2.1 p) y → T.th y = false → ∃ a, a < Γ.1.2.2.1 (hdS Γ p) ∧ Γ.1.2.2.2.1 (hdS Γ p) a = true ∧ v < vOf Γ (hdS Γ p) a ∧ (x = a ∨ xR Γ p x a = true) := by
    intro y hy hxy hvy hty
    rcases ih y hy hxy hvy with z | ⟨a, a1, a2, a3, a4⟩
    · rw [hty] at z; exact absurd z (by decide)
    · refine ⟨a, a1, a2, a3, Or.inr ?_⟩
      rcases a4 with e | e
      · rw [← e]; exact hxy
      · exact xR_t hy hxy e
  obtain ⟨hv1, hv2⟩ := hvs
  have hs := hpv.2.1 _ hv1
  have c8 := (hV.1.2.2 _ hs).2.1
  cases ht : T.th x
  · right
    cases hd : (Γ.2.2.1 p).2.2.2.2.1 x
    · -- not defined here
      rw [df_dfn hV hp hx32] at hd
      unfold dfn at hd
      rw [decide_eq_true hv1, decide_eq_true hv2, Bool.true_and, Bool.true_and] at hd
      by_cases h0 : x / 8 = 0
      · rw [h0] at hd hv2 hs
        have hdn : Γ.1.2.2.2.1 (hdS Γ p) (x % 8) = true := by
          show Γ.1.2.2.2.1 ((Γ.2.2.1 p).2.2.1 0) (x % 8) = true
          cases hh : Γ.1.2.2.2.1 ((Γ.2.2.1 p).2.2.1 0) (x % 8)
          · rw [hh] at hd; exact absurd hd (by decide)
          · rfl
        refine ⟨x % 8, hv2, hdn, ?_, Or.inl (by omega)⟩
        rcases Nat.lt_or_ge v (vOf Γ (hdS Γ p) (x % 8)) with z | z
        · exact z
        · have := (hK x).mpr (Or.inr (Or.inl ⟨h0, hv2, hdn, z⟩))
          rw [ht] at this; exact absurd this (by decide)
      · have hdn : Γ.1.2.2.2.1 ((Γ.2.2.1 p).2.2.1 (x / 8)) (x % 8) = false := by
          cases hh : Γ.1.2.2.2.1 ((Γ.2.2.1 p).2.2.1 (x / 8)) (x % 8)
          · rfl
          · rw [hh, decide_eq_true (show 0 < x / 8 by omega)] at hd; exact absurd hd (by decide)
        have hvo := hL.vof _ hs _ hv2
        have hgt : T.vs (x / 8) < vOf Γ ((Γ.2.2.1 p).2.2.1 (x / 8)) (x % 8) := by
          rcases Nat.lt_or_ge (T.vs (x / 8)) (vOf Γ ((Γ.2.2.1 p).2.2.1 (x / 8)) (x % 8)) with z | z
          · exact z
          · have := (hK x).mpr (Or.inr (Or.inr ⟨by omega, hv1, hv2, hdn, z⟩))
            rw [ht] at this; exact absurd this (by decide)
        have hcv := hX.2 (x / 8) (by omega) hv1
        -- some down attribute of the next visit is not there
        have hno : ∃ c, c < Γ.1.2.2.1 ((Γ.2.2.1 p).2.2.1 (x / 8)) ∧ vOf Γ ((Γ.2.2.1 p).2.2.1 (x / 8)) c = T.vs (x / 8) + 1 ∧ Γ.1.2.2.2.1 ((Γ.2.2.1 p).2.2.1 (x / 8)) c = true ∧ T.th (8 * (x / 8) + c) = false := by
          apply Classical.byContradiction
          intro hn
          have : cvi Γ p (x / 8) (T.vs (x / 8) + 1) T.th = true := by
            rw [cvi_i]
            refine ⟨by omega, fun a ha hi hda => ?_⟩
            have hi := of_decide_eq_true hi
            cases hh : T.th (8 * (x / 8) + a)
            · exact absurd ⟨a, hi.1, hi.2, hda, hh⟩ hn
            · rfl
          rw [hcv] at this; exact absurd this (by decide)
        obtain ⟨c, c1, c2, c3, c4⟩ := hno
        have s1 := slv_dn hL hs c1 c3
        have s2 := slv_up hL hs hv2 hdn
        have hxr := xR_lv hV hL hp hv1 c1 (slv Γ ((Γ.2.2.1 p).2.2.1 (x / 8)) c - (slv Γ ((Γ.2.2.1 p).2.2.1 (x / 8)) (x % 8) + 1)) (x % 8) hv2 (by omega)
        rw [show 8 * (x / 8) + x % 8 = x by omega] at hxr
        exact step _ (by omega) hxr ⟨by rw [show (8 * (x / 8) + c) / 8 = x / 8 by omega]; exact hv1, by rw [show (8 * (x / 8) + c) / 8 = x / 8 by omega, show (8 * (x / 8) + c) % 8 = c by omega]; exact c1⟩ c4
    · -- defined here: something that it names is not there
      have hnr : ∃ y, y < 32 ∧ nmd Γ p x y = true ∧ T.th y = false := by
        apply Classical.byContradiction
        intro hn
        have hr : rdy Γ p x T.th = true := by
          rw [rdy_i]
          refine ⟨hd, fun y hy hxy => ?_⟩
          cases hh : T.th y
          · exact absurd ⟨y, hy, hxy, hh⟩ hn
          · rfl
        have := (hK x).mpr (Or.inl (hX.1 x hx32 hr))
        rw [ht] at this; exact absurd this (by decide)
      obtain ⟨y, y1, y2, y3⟩ := hnr
      exact step y y1 (xR_nm y2) ((ord0_V hV).1 p hp x y y2).2 y3
  · exact Or.inl rfl
/-- after visit v the head's attributes of the visits up to v are evaluated -/
theorem plC_hd (hV : GRV Γ) (hL : LVF Γ) (hp : p < Γ.2.1) (hx : crc (xR Γ p) = false) (h1 : 1 ≤ v) {a : Nat} (ha : a < Γ.1.2.2.1 (hdS Γ p)) (hu : Γ.1.2.2.2.1 (hdS Γ p) a = false) (hv : vOf Γ (hdS Γ p) a ≤ v) : (plA Γ p v pl0).ev a = true := by
  have hpv := (hV.2.2.2 p hp).2.1
  have hs : hdS Γ p < Γ.1.1 := hpv.2.1 0 (Nat.zero_le _)
  have c8 := (hV.1.2.2 _ hs).2.1
  have hK := plK_A hV hL hp v
  have hX := plA_fx hV hL hp h1
  have e8 : a / 8 = 0 := by omega
  have em : a % 8 = a := by omega
  have hth : (plA Γ p v pl0).th a = true := by
    rcases plC hV hL hp hx hK hX a (by omega) ⟨by omega, by rw [e8, em]; exact ha⟩ with z | ⟨b, b1, b2, b3, b4⟩
    · exact z
    · exfalso
      have s1 := slv_dn hL hs b1 b2
      have s2 := slv_up hL hs ha hu
      have := xR_lv hV hL hp (o := 0) (Nat.zero_le _) ha (slv Γ (hdS Γ p) a - (slv Γ (hdS Γ p) b + 1)) b b1 (by show slv Γ (hdS Γ p) a = slv Γ (hdS Γ p) b + 1 + _; omega)
      rw [show 8 * 0 + b = b by omega, show 8 * 0 + a = a by omega] at this
      rcases b4 with e | e
      · rw [e, b2] at hu; exact absurd hu (by decide)
      · have hh := xR_t (by omega) e this
        rw [crc_i.mpr ⟨a, by omega, hh⟩] at hx; exact absurd hx (by decide)
  rcases (hK a).mp hth with z | ⟨_, _, z, _⟩ | ⟨z, _⟩
  · exact z
  · rw [em, hu] at z; exact absurd z (by decide)
  · omega
/-- at the end all is evaluated, all visits are made -/
theorem plC_ev (hV : GRV Γ) (hL : LVF Γ) (hp : p < Γ.2.1) (hx : crc (xR Γ p) = false) : (∀ x, (plP Γ p).ev x = (Γ.2.2.1 p).2.2.2.2.1 x) ∧ ∀ o, 1 ≤ o → o ≤ (Γ.2.2.1 p).2.1 → (plP Γ p).vs o = svs Γ ((Γ.2.2.1 p).2.2.1 o) := by
  have hpv := (hV.2.2.2 p hp).2.1
  have h3 := hpv.1
  have hs : hdS Γ p < Γ.1.1 := hpv.2.1 0 (Nat.zero_le _)
  have hvis := hL.vis _ hs
  have hK : plK Γ p (svs Γ (hdS Γ p)) (plP Γ p) := plK_A hV hL hp _
  have hX : plX Γ p (plP Γ p) := plA_fx hV hL hp (by omega)
  have hI : plI Γ p (plP Γ p) := plI_A hL hV hp _
  have hth : ∀ x, x < 32 → vSl Γ.1 (Γ.2.2.1 p) x → (plP Γ p).th x = true := by
    intro x hx32 hv
    rcases plC hV hL hp hx hK hX x hx32 hv with z | ⟨b, b1, b2, b3, b4⟩
    · exact z
    · have := (hL.vof _ hs b b1).2.1; omega
  refine ⟨fun x => ?_, fun o h1 ho => ?_⟩
  · rw [Bool.eq_iff_iff]
    refine ⟨fun h => hI.1 x h, fun h => ?_⟩
    have hx32 := (hpv.2.2 x h).1
    have hd := h
    rw [df_dfn hV hp hx32] at hd
    unfold dfn at hd
    simp only [Bool.and_eq_true, decide_eq_true_eq, beq_iff_eq] at hd
    obtain ⟨d1, d2, d3⟩ := hd
    rcases (hK x).mp (hth x hx32 ⟨d1, d2⟩) with z | ⟨z1, z2, z3, z4⟩ | ⟨z1, z2, z3, z4, z5⟩
    · exact z
    · rw [z1] at d3
      have z3 : Γ.1.2.2.2.1 ((Γ.2.2.1 p).2.2.1 0) (x % 8) = true := z3
      rw [z3] at d3; exact absurd d3 (by decide)
    · rw [z4, decide_eq_true (show 0 < x / 8 by omega)] at d3; exact absurd d3 (by decide)
  · have hs2 := hpv.2.1 o ho
    have c8 := (hV.1.2.2 _ hs2).2.1
    have hcv := hX.2 o h1 ho
    have hle : (plP Γ p).vs o ≤ svs Γ ((Γ.2.2.1 p).2.2.1 o) := by
      by_cases z : (plP Γ p).vs o = 0
      · omega
      · exact ((hI.2.1 o).2 z).2.2
    rcases Nat.lt_or_ge ((plP Γ p).vs o) (svs Γ ((Γ.2.2.1 p).2.2.1 o)) with z | z
    · exfalso
      have : cvi Γ p o ((plP Γ p).vs o + 1) (plP Γ p).th = true := by
        rw [cvi_i]
        refine ⟨by omega, fun a ha hi hda => hth _ (by omega) ⟨by omega, ?_⟩⟩
        have hi := of_decide_eq_true hi
        rw [show (8 * o + a) / 8 = o by omega, show (8 * o + a) % 8 = a by omega]
        exact hi.1
      rw [hcv] at this; exact absurd this (by decide)
    · omega
end PC
