/-! ===== evaluation: what is done, and how ===== -/
/-- the first symbol has nothing that comes down -/
def D0 (Γ : GRT) : Prop := ∀ a, a < Γ.1.2.2.1 0 → Γ.1.2.2.2.1 0 a = false
def Dn (Γ : GRT) (T : TST) (e : Nat → Nat) (k a : Nat) : Prop := ∃ m x, m < T.N ∧ (plP Γ (T.pr m)).ev x = true ∧ (plP Γ (T.pr m)).ea x < e m ∧ T.ch m (x / 8) = k ∧ x % 8 = a
def FV1 (Γ : GRT) (T : TST) (kp : Nat → Nat → VL8) (e : Nat → Nat) : Prop := ∀ m, m < T.N → ∀ x, (plP Γ (T.pr m)).ev x = true → (plP Γ (T.pr m)).ea x < e m → kp (T.ch m (x / 8)) (x % 8) = RV Γ T kp m x ∧ (∀ y, nmd Γ (T.pr m) x y = true → Dn Γ T e (T.ch m (y / 8)) (y % 8)) ∧ ∀ X, ClX Γ T X → X (T.ch m (x / 8)) (x % 8)
def FV2 (Γ : GRT) (T : TST) (S : MST) (e κ : Nat → Nat) (n : Nat) : Prop := ∀ x j, TpR Γ T true S e κ n x j → ∃ k, XRn (gV Γ T true S n) (some (T.li n)) (rC Γ (T.pr n) x) 0 (rC Γ (T.pr n) x).length 34 k j S.vs (rC Γ (T.pr n) x).length [RV Γ T S.kp n x]
theorem gV_t (Γ : GRT) (T : TST) (S : MST) (n : Nat) : gV Γ T true S n = fun y => S.kp (T.ch n (y / 8)) (y % 8) := by
  funext y
  unfold gV
  rw [if_neg (fun z => absurd z.1 (by decide))]
section EV
variable {Γ : GRT} {T : TST} {S : MST} {e κ : Nat → Nat} {n bk : Nat} {r : List (Nat × Nat)}
/-- what a rule names is there when its turn comes -/
theorem nm_dn (hG : GOK Γ) (hD : D0 Γ) (hT : TOK Γ T) (h : MIr Γ T true S e κ n bk r) {x j : Nat} (ht : TpR Γ T true S e κ n x j) {y : Nat} (hy : nmd Γ (T.pr n) x y = true) : Dn Γ T e (T.ch n (y / 8)) (y % 8) := by
  obtain ⟨hV, hL, hx, _⟩ := hG
  obtain ⟨h1, h2, h3, ⟨h4, h5, _⟩, h6⟩ := h
  obtain ⟨t1, t2, t3, t4, t5, t6, t7, t8, t9, t10⟩ := ht
  obtain ⟨tn, tc⟩ := hT.2.2 n h4
  have hp : T.pr n < Γ.2.1 := tn.1
  have hO := plO_A hV hL hp (svs Γ (hdS Γ (T.pr n)))
  rcases hO.2.2.1 x y t3 hy with ⟨a1, a2⟩ | ⟨a1, a2, a3, a4⟩ | ⟨a1, a2, a3, a4, a5, a6⟩
  · have a2 : (plP Γ (T.pr n)).ea y < (plP Γ (T.pr n)).ea x := a2
    exact ⟨n, y, h4, a1, by omega, rfl, rfl⟩
  · have a4 : vOf Γ (hdS Γ (T.pr n)) (y % 8) ≤ (gE (plP Γ (T.pr n)) ((plP Γ (T.pr n)).ea x)).2.1 := a4
    rw [t4, t6] at a4
    have ey : T.ch n (y / 8) = n := by rw [a1]; exact tn.2.2.2.2.2.1
    rw [ey]
    cases r with
    | nil =>
      have n0 : n = 0 := h3.1
      have hh := tn.2.2.2.1 n0
      rw [hh] at a2 a3
      rw [hD _ a2] at a3
      exact absurd a3 (by decide)
    | cons z r =>
      obtain ⟨n2, b2⟩ := z
      obtain ⟨⟨l1, l2, l3, l4, l5, l6, l7, l8, l9, l10⟩, _⟩ := h3
      have hn2 : n2 < T.N := by omega
      have hp2 : T.pr n2 < Γ.2.1 := ((hT.2.2 n2 hn2).1).1
      have hO2 := plO_A hV hL hp2 (svs Γ (hdS Γ (T.pr n2)))
      have hi : e n2 - 1 < plN Γ (T.pr n2) := by have := (h2 n2 hn2).1; omega
      have hk := tn.2.2.2.2.2.2.2 (by omega)
      rw [l3, show n2 + 1 - 1 = n2 by omega] at hk
      obtain ⟨k1, k2, k3, k4⟩ := hk
      rcases en_cs hV hL hp2 hi with ⟨z, _⟩ | ⟨w0, w1, w2, w3, w4, w5, w6⟩
      · omega
      · rw [l5] at w1 w6
        rw [l7] at w1 w6
        have hhd : hdS Γ (T.pr n) < Γ.1.1 := (hV.2.2.2 _ hp).2.1.2.1 0 (Nat.zero_le _)
        have hv := hL.vof _ hhd _ a2
        have c8 := (hV.1.2.2 _ hhd).2.1
        have hO4 := (hO2.2.2.2) (T.pl n) (vOf Γ (hdS Γ (T.pr n)) (y % 8)) hv.1 (by show _ ≤ (plP Γ (T.pr n2)).vs (T.pl n); omega)
        have hc := hO4.1 (y % 8) (by show y % 8 < Γ.1.2.2.1 (oSy Γ (T.pr n2) (T.pl n)); rw [← k4]; exact a2) (by show vOf Γ (oSy Γ (T.pr n2) (T.pl n)) (y % 8) = _; rw [← k4]) (by show Γ.1.2.2.2.1 (oSy Γ (T.pr n2) (T.pl n)) (y % 8) = true; rw [← k4]; exact a3)
        have hc1 : (plP Γ (T.pr n2)).ev (8 * T.pl n + y % 8) = true := hc.1
        have hc2 : (plP Γ (T.pr n2)).ea (8 * T.pl n + y % 8) < (plP Γ (T.pr n2)).va (T.pl n) (vOf Γ (hdS Γ (T.pr n)) (y % 8)) := hc.2
        have hle : (plP Γ (T.pr n2)).va (T.pl n) (vOf Γ (hdS Γ (T.pr n)) (y % 8)) ≤ e n2 - 1 := by
          by_cases eq : vOf Γ (hdS Γ (T.pr n)) (y % 8) = S.vi n
          · rw [eq, w6]; exact Nat.le_refl _
          · have := ((hO2.2.2.2) (T.pl n) (S.vi n) h5 w1).2 (vOf Γ (hdS Γ (T.pr n)) (y % 8)) hv.1 (by omega)
            have this : (plP Γ (T.pr n2)).va (T.pl n) (vOf Γ (hdS Γ (T.pr n)) (y % 8)) < (plP Γ (T.pr n2)).va (T.pl n) (S.vi n) := this
            omega
        refine ⟨n2, 8 * T.pl n + y % 8, hn2, hc1, by omega, ?_, by omega⟩
        rw [show (8 * T.pl n + y % 8) / 8 = T.pl n by omega]; exact k3
  · have a5 : vOf Γ (oSy Γ (T.pr n) (y / 8)) (y % 8) ≤ (plP Γ (T.pr n)).vs (y / 8) := a5
    have a6 : (plP Γ (T.pr n)).va (y / 8) (vOf Γ (oSy Γ (T.pr n) (y / 8)) (y % 8)) < (plP Γ (T.pr n)).ea x := a6
    have a2 : y / 8 ≤ rt Γ (T.pr n) := a2
    obtain ⟨c1, c2, c3, c4⟩ := tn.2.2.2.2.2.2.1 (y / 8) a1 (by omega)
    obtain ⟨tch, tcc⟩ := hT.2.2 _ c2
    have hpc : T.pr (T.ch n (y / 8)) < Γ.2.1 := tch.1
    have eh : hdS Γ (T.pr (T.ch n (y / 8))) = oSy Γ (T.pr n) (y / 8) := by
      have := (tch.2.2.2.2.2.2.2 (by omega)).2.2.2
      rw [c3, c4, show n + 1 - 1 = n by omega] at this
      exact this
    have hs : oSy Γ (T.pr n) (y / 8) < Γ.1.1 := (hV.2.2.2 _ hp).2.1.2.1 _ a2
    have hv := hL.vof _ hs _ a3
    obtain ⟨v4, v5⟩ := (h2 n h4).2.2 (y / 8) a1 a2
    have hw := (v5 _ hv.1 a5).mpr (by omega)
    obtain ⟨p1, p2⟩ := plC_in hV hL hpc (hx _ hpc) (a := y % 8) (by rw [eh]; exact a3) (by rw [eh]; exact a4)
    have hlt : (plP Γ (T.pr (T.ch n (y / 8)))).ea (y % 8) < plN Γ (T.pr (T.ch n (y / 8))) := ((plI_A hL hV hpc (svs Γ (hdS Γ (T.pr (T.ch n (y / 8)))))).2.2.2.1 _ p1).1
    have hin := (h6 _ c2 (by omega) (fun z hz => by have := h3.lt z hz; omega)).1
    have hvc := (h2 _ c2).2.1
    rw [eh] at p2
    have := (plF_i hV hL hpc hvc hlt).mpr (by omega)
    refine ⟨T.ch n (y / 8), y % 8, c2, p1, by rw [hin]; exact this, ?_, by omega⟩
    rw [show y % 8 / 8 = 0 by omega]; exact tch.2.2.2.2.2.1
/-- at the start of an entry -/
theorem fv2_at (hG : GOK Γ) (hT : TOK Γ T) (hn : n < T.N) (hs : S.vs = []) (hj : ∀ x j, TpR Γ T true S e κ n x j → j = 0) : FV2 Γ T S e κ n := by
  intro x j ht
  have e0 := hj x j ht
  have hp : T.pr n < Γ.2.1 := ((hT.2.2 n hn).1).1
  have hd := (plI_A hG.2.1 hG.1 hp (svs Γ (hdS Γ (T.pr n)))).1 x ht.2.2.1
  obtain ⟨_, k, hk⟩ := RV_run (kp := S.kp) hG.1 hp hd
  refine ⟨k, ?_⟩
  rw [gV_t, e0, hs]; exact hk
theorem XRn.s1 {g : Nat → VL8} {l : VL8} {C : List (Nat × Nat)} {lo hi H k j j1 : Nat} {s s1 : List VL8} {fin : List VL8} (h : XRn g l C lo hi H k j s hi fin) (hj : j < hi) (hx : xs1 g l C j s = some (j1, s1)) : ∃ k', XRn g l C lo hi H k' j1 s1 hi fin := by
  cases k with
  | zero => have := h.1; omega
  | succ k =>
    obtain ⟨a1, a2, a3, j', s', a4, a5, a6, a7, a8⟩ := h
    rw [hx] at a4
    injection a4 with a4
    injection a4 with b1 b2
    rw [b1, b2]
    exact ⟨k, a8⟩
theorem Dn.mo {e' : Nat → Nat} (h : ∀ m, e m ≤ e' m) {k a : Nat} (hd : Dn Γ T e k a) : Dn Γ T e' k a := by
  obtain ⟨m, x, a1, a2, a3, a4, a5⟩ := hd
  exact ⟨m, x, a1, a2, Nat.lt_of_lt_of_le a3 (h m), a4, a5⟩
theorem uf_le (m : Nat) : e m ≤ uf e n (e n + 1) m := by
  unfold uf
  split
  · rename_i h; rw [h]; omega
  · exact Nat.le_refl _
end EV
