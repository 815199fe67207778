/-! ===== the machine: what holds while it runs ===== -/
abbrev MST : Type := Nat × List (Nat × Nat) × (Nat → Nat) × List VL8 × (Nat → Nat → VL8) × (Nat → VL8)
abbrev MST.pc (S : MST) : Nat := S.1
abbrev MST.sk (S : MST) : List (Nat × Nat) := S.2.1
abbrev MST.vi (S : MST) : Nat → Nat := S.2.2.1
abbrev MST.vs (S : MST) : List VL8 := S.2.2.2.1
abbrev MST.kp (S : MST) : Nat → Nat → VL8 := S.2.2.2.2.1
abbrev MST.va (S : MST) : Nat → VL8 := S.2.2.2.2.2
noncomputable def gV (Γ : GRT) (T : TST) (b : Bool) (S : MST) (n : Nat) : Nat → VL8 := fun y => if b = false ∧ stv Γ (oSy Γ (T.pr n) (y / 8)) (y % 8) = 0 then S.va (gN Γ (T.pr n) y) else S.kp (T.ch n (y / 8)) (y % 8)
def VOK (Γ : GRT) (T : TST) (vi e : Nat → Nat) : Prop := ∀ m, m < T.N → e m ≤ plN Γ (T.pr m) ∧ vi m ≤ svs Γ (hdS Γ (T.pr m)) ∧ ∀ o, 1 ≤ o → o ≤ rt Γ (T.pr m) → vi (T.ch m o) ≤ (plP Γ (T.pr m)).vs o ∧ ∀ w, 1 ≤ w → w ≤ (plP Γ (T.pr m)).vs o → (w ≤ vi (T.ch m o) ↔ (plP Γ (T.pr m)).va o w < e m)
def InA (Γ : GRT) (T : TST) (vi e κ : Nat → Nat) (m : Nat) : Prop := e m = plF Γ (T.pr m) (vi m + 1) ∧ κ m = pgS Γ (T.pr m) (e m) + vi m
def Lnk (Γ : GRT) (T : TST) (vi e κ : Nat → Nat) (n bk n2 : Nat) : Prop := n2 < n ∧ n < T.N ∧ T.pa n = n2 + 1 ∧ 1 ≤ e n2 ∧ (gE (plP Γ (T.pr n2)) (e n2 - 1)).1 = T.pl n ∧ 1 ≤ (gE (plP Γ (T.pr n2)) (e n2 - 1)).2.2 ∧ (gE (plP Γ (T.pr n2)) (e n2 - 1)).2.2 = vi n ∧ (gE (plP Γ (T.pr n2)) (e n2 - 1)).2.1 = vi n2 ∧ bk = eP Γ (T.pr n2) (e n2 - 1) + 2 ∧ κ n2 + pgB Γ (T.pr n2) = eP Γ (T.pr n2) (e n2 - 1) + 1
def SkT (Γ : GRT) (T : TST) (vi e κ : Nat → Nat) : Nat → Nat → List (Nat × Nat) → Prop
  | n, bk, [] => n = 0 ∧ bk = 0
  | n, bk, (n2, b2) :: r => Lnk Γ T vi e κ n bk n2 ∧ SkT Γ T vi e κ n2 b2 r
/-- at a rule's instruction j -/
def TpR (Γ : GRT) (T : TST) (b : Bool) (S : MST) (e κ : Nat → Nat) (n x j : Nat) : Prop := e n < plN Γ (T.pr n) ∧ x < 32 ∧ (plP Γ (T.pr n)).ev x = true ∧ (plP Γ (T.pr n)).ea x = e n ∧ (gE (plP Γ (T.pr n)) (e n)).1 = enc x ∧ (gE (plP Γ (T.pr n)) (e n)).2.1 = S.vi n ∧ S.pc = eP Γ (T.pr n) (e n) + j + 1 ∧ j ≤ (rC Γ (T.pr n) x).length ∧ (∃ k v, XRn (gV Γ T b S n) (some (T.li n)) (rC Γ (T.pr n) x) 0 (rC Γ (T.pr n) x).length 34 k j S.vs (rC Γ (T.pr n) x).length [v]) ∧ κ n + pgB Γ (T.pr n) = eP Γ (T.pr n) (e n) + j
/-- at a visit -/
def TpV (Γ : GRT) (T : TST) (S : MST) (e κ : Nat → Nat) (n o w : Nat) : Prop := e n < plN Γ (T.pr n) ∧ gE (plP Γ (T.pr n)) (e n) = (o, S.vi n, w) ∧ 1 ≤ w ∧ w ≤ (plP Γ (T.pr n)).vs o ∧ 1 ≤ o ∧ o ≤ rt Γ (T.pr n) ∧ (plP Γ (T.pr n)).va o w = e n ∧ S.pc = eP Γ (T.pr n) (e n) + 1 ∧ S.vs = [] ∧ κ n + pgB Γ (T.pr n) = eP Γ (T.pr n) (e n)
/-- at the end of a visit -/
def TpB (Γ : GRT) (T : TST) (S : MST) (e κ : Nat → Nat) (n : Nat) : Prop := e n = plF Γ (T.pr n) (S.vi n + 1) ∧ S.pc = bP Γ (T.pr n) (S.vi n) + 1 ∧ S.vs = [] ∧ κ n + pgB Γ (T.pr n) = bP Γ (T.pr n) (S.vi n)
def Top (Γ : GRT) (T : TST) (b : Bool) (S : MST) (e κ : Nat → Nat) (n : Nat) : Prop := n < T.N ∧ 1 ≤ S.vi n ∧ ((∃ x j, TpR Γ T b S e κ n x j) ∨ (∃ o w, TpV Γ T S e κ n o w) ∨ TpB Γ T S e κ n)
/-- it runs, node n on top -/
def MIr (Γ : GRT) (T : TST) (b : Bool) (S : MST) (e κ : Nat → Nat) (n bk : Nat) (r : List (Nat × Nat)) : Prop := S.sk = (n, bk) :: r ∧ VOK Γ T S.vi e ∧ SkT Γ T S.vi e κ n bk r ∧ Top Γ T b S e κ n ∧ ∀ m, m < T.N → m ≠ n → (∀ z, z ∈ r → z.1 ≠ m) → InA Γ T S.vi e κ m
/-- it has ended -/
def MIe (Γ : GRT) (T : TST) (S : MST) (e κ : Nat → Nat) : Prop := S.sk = [] ∧ S.pc = 0 ∧ S.vs = [] ∧ VOK Γ T S.vi e ∧ (∀ m, m < T.N → InA Γ T S.vi e κ m) ∧ S.vi 0 = svs Γ (hdS Γ (T.pr 0))
def sumN (κ : Nat → Nat) : Nat → Nat
  | 0 => 0
  | k + 1 => sumN κ k + κ k
theorem sum_uf {κ : Nat → Nat} {n v : Nat} : ∀ N, sumN (uf κ n v) N + (if n < N then κ n else 0) = sumN κ N + (if n < N then v else 0)
  | 0 => rfl
  | k + 1 => by
    have ih := sum_uf (κ := κ) (n := n) (v := v) k
    show sumN (uf κ n v) k + uf κ n v k + _ = sumN κ k + κ k + _
    by_cases e : k = n
    · subst e
      rw [uf_s, if_pos (by omega), if_pos (by omega)]
      rw [if_neg (by omega), if_neg (by omega)] at ih
      omega
    · rw [uf_o _ _ e]
      by_cases h : n < k
      · rw [if_pos (by omega), if_pos (by omega)]
        rw [if_pos h, if_pos h] at ih
        omega
      · rw [if_neg (by omega), if_neg (by omega)]
        rw [if_neg h, if_neg h] at ih
        omega
theorem sum_lt {κ : Nat → Nat} {n v N : Nat} (hn : n < N) (hv : κ n < v) : sumN κ N + 1 ≤ sumN (uf κ n v) N := by
  have := sum_uf (κ := κ) (n := n) (v := v) N
  rw [if_pos hn, if_pos hn] at this
  omega
section MK
variable {Γ : GRT} {T : TST} {b : Bool} {S : MST} {e κ : Nat → Nat} {n bk : Nat} {r : List (Nat × Nat)}
/-- the stack's nodes come one behind the other -/
theorem SkT.lt {vi : Nat → Nat} : ∀ {r n bk}, SkT Γ T vi e κ n bk r → ∀ z, z ∈ r → z.1 < n
  | [], _, _, _, z, hz => absurd hz (by simp)
  | (n2, b2) :: r, n, bk, h, z, hz => by
    have h1 := h.1.1
    rcases List.mem_cons.mp hz with rfl | hz
    · exact h1
    · have := SkT.lt h.2 z hz
      omega
/-- nothing of the stack below hangs on what only the top has -/
theorem SkT.cg {vi vi' e' κ' : Nat → Nat} : ∀ {r n bk}, SkT Γ T vi e κ n bk r → vi' n = vi n → (∀ m, m < n → vi' m = vi m ∧ e' m = e m ∧ κ' m = κ m) → SkT Γ T vi' e' κ' n bk r
  | [], _, _, h, _, _ => h
  | (n2, b2) :: r, n, bk, h, hv, hm => by
    obtain ⟨⟨a1, a2, a3, a4, a5, a6, a7, a8, a9, a10⟩, h2⟩ := h
    obtain ⟨m1, m2, m3⟩ := hm n2 a1
    refine ⟨⟨a1, a2, a3, by rw [m2]; exact a4, by rw [m2]; exact a5, by rw [m2]; exact a6, by rw [m2, hv]; exact a7, by rw [m2, m1]; exact a8, by rw [m2]; exact a9, by rw [m2, m3]; exact a10⟩, SkT.cg h2 m1 (fun m hm' => hm m (by omega))⟩
/-- between two entries of a visit -/
theorem top_at (hG : GOK Γ) (hT : TOK Γ T) (hn : n < T.N) {i : Nat} (h1 : 1 ≤ S.vi n) (h2 : S.vi n ≤ svs Γ (hdS Γ (T.pr n))) (hi1 : plF Γ (T.pr n) (S.vi n) ≤ i) (hi2 : i ≤ plF Γ (T.pr n) (S.vi n + 1)) (he : e n = i) (hs : S.vs = []) (hpc : S.pc = pgB Γ (T.pr n) + (pgS Γ (T.pr n) i + (S.vi n - 1)) + 1) (hκ : κ n = pgS Γ (T.pr n) i + (S.vi n - 1)) : Top Γ T b S e κ n := by
  obtain ⟨hV, hL, hx, _⟩ := hG
  have hp : T.pr n < Γ.2.1 := ((hT.2.2 n hn).1).1
  refine ⟨hn, h1, ?_⟩
  by_cases e1 : i = plF Γ (T.pr n) (S.vi n + 1)
  · refine Or.inr (Or.inr ⟨by rw [he]; exact e1, ?_, hs, ?_⟩)
    · rw [hpc, e1]; rfl
    · rw [hκ, e1]
      show _ = pgB Γ (T.pr n) + (pgS Γ (T.pr n) (plF Γ (T.pr n) (S.vi n + 1)) + (S.vi n - 1))
      omega
  · have hle := plF_le (Γ := Γ) (p := T.pr n) h2
    have hi : i < plN Γ (T.pr n) := by omega
    have hv : (gE (plP Γ (T.pr n)) i).2.1 = S.vi n := (plF_v hV hL hp h1 h2 hi).mp ⟨hi1, by omega⟩
    have ee : eP Γ (T.pr n) i = pgB Γ (T.pr n) + (pgS Γ (T.pr n) i + (S.vi n - 1)) := by unfold eP; rw [hv]
    rcases en_cs hV hL hp hi with ⟨z, x, x1, x2, x3, x4, x5, x6⟩ | ⟨w0, w1, w2, w3, w4, w5, w6⟩
    · have hpv := (hV.2.2.2 _ hp).2.1
      have hd := (plI_A hL hV hp (svs Γ (hdS Γ (T.pr n)))).1 x x2
      obtain ⟨q1, q2, q3, q4, q5⟩ := hpv.2.2 x hd
      obtain ⟨_, v, _, hr⟩ := CR_PX (g := gV Γ T b S n) (l := some (T.li n)) q5
      obtain ⟨k, hk⟩ := hr [] [] []
      have hk : XRn (gV Γ T b S n) (some (T.li n)) (rC Γ (T.pr n) x) 0 (rC Γ (T.pr n) x).length 34 k 0 [] (rC Γ (T.pr n) x).length [v] := by
        have e3 : ([] : List (Nat × Nat)) ++ ((Γ.2.2.1 (T.pr n)).2.2.2.2.2 x).2.2.2 ++ [] = rC Γ (T.pr n) x := by simp [rC]
        rw [e3] at hk
        simpa [rC] using hk
      refine Or.inl ⟨x, 0, ?_⟩
      unfold TpR
      rw [he]
      exact ⟨hi, x1, x2, x3, x4, hv, by rw [hpc, ee], Nat.zero_le _, ⟨k, v, by rw [hs]; exact hk⟩, by rw [hκ, ee]; omega⟩
    · refine Or.inr (Or.inl ⟨(gE (plP Γ (T.pr n)) i).1, (gE (plP Γ (T.pr n)) i).2.2, ?_⟩)
      unfold TpV
      rw [he]
      refine ⟨hi, ?_, w0, w1, w3, w4, w6, by rw [hpc, ee], hs, by rw [hκ, ee]; omega⟩
      rw [← hv]
/-- an instruction of an expression -/
theorem mi_x (h : MIr Γ T b S e κ n bk r) {x j : Nat} (ht : TpR Γ T b S e κ n x j) (hj : j < (rC Γ (T.pr n) x).length) : ∃ j1 s1, xs1 (gV Γ T b S n) (some (T.li n)) (rC Γ (T.pr n) x) j S.vs = some (j1, s1) ∧ j < j1 ∧ j1 ≤ (rC Γ (T.pr n) x).length ∧ S.vs.length ≤ 34 ∧ s1.length ≤ 34 ∧ ∃ κ', sumN κ T.N + 1 ≤ sumN κ' T.N ∧ MIr Γ T b (eP Γ (T.pr n) (e n) + j1 + 1, S.sk, S.vi, s1, S.kp, S.va) e κ' n bk r := by
  obtain ⟨h1, h2, h3, ⟨h4, h5, _⟩, h6⟩ := h
  obtain ⟨t1, t2, t3, t4, t5, t6, t7, t8, ⟨k, v, t9⟩, t10⟩ := ht
  cases k with
  | zero => have := t9.1; omega
  | succ k =>
    obtain ⟨a1, a2, a3, j1, s1, a4, a5, a6, a7, a8⟩ := t9
    refine ⟨j1, s1, a4, a5, a6, a3, a7, uf κ n (eP Γ (T.pr n) (e n) + j1 - pgB Γ (T.pr n)), sum_lt h4 (by omega), h1, h2, h3.cg rfl (fun m hm => ⟨rfl, rfl, uf_o _ _ (by omega)⟩), ⟨h4, h5, Or.inl ⟨x, j1, t1, t2, t3, t4, t5, t6, rfl, a6, ⟨k, v, a8⟩, by rw [uf_s]; have : pgB Γ (T.pr n) ≤ eP Γ (T.pr n) (e n) := Nat.le_add_right _ _; omega⟩⟩, fun m hm hmn hz => ?_⟩
    obtain ⟨i1, i2⟩ := h6 m hm hmn hz
    exact ⟨i1, by rw [uf_o _ _ hmn]; exact i2⟩
/-- a value is set -/
theorem mi_set (hG : GOK Γ) (hT : TOK Γ T) (h : MIr Γ T b S e κ n bk r) {x : Nat} (ht : TpR Γ T b S e κ n x (rC Γ (T.pr n) x).length) (kp' : Nat → Nat → VL8) (va' : Nat → VL8) : (∃ v, S.vs = [v]) ∧ ∃ κ', sumN κ T.N + 1 ≤ sumN κ' T.N ∧ κ' n = pgS Γ (T.pr n) (e n + 1) + (S.vi n - 1) ∧ MIr Γ T b (S.pc + 1, S.sk, S.vi, [], kp', va') (uf e n (e n + 1)) κ' n bk r := by
  obtain ⟨h1, h2, h3, ⟨h4, h5, _⟩, h6⟩ := h
  obtain ⟨t1, t2, t3, t4, t5, t6, t7, t8, ⟨k, v, t9⟩, t10⟩ := ht
  obtain ⟨hV, hL, hx, _⟩ := hG
  have hp : T.pr n < Γ.2.1 := ((hT.2.2 n h4).1).1
  have hvs : S.vs = [v] := by
    cases k with
    | zero => exact t9.2
    | succ k => have := t9.2.1; omega
  have epg : pgn Γ (T.pr n) (e n) = (rC Γ (T.pr n) x).length + 1 := by
    unfold pgn
    have := enc_b t2
    rw [t5, if_neg (by omega), dx_enc t2]
  have eS : pgS Γ (T.pr n) (e n + 1) = pgS Γ (T.pr n) (e n) + pgn Γ (T.pr n) (e n) := rfl
  have ee : eP Γ (T.pr n) (e n) = pgB Γ (T.pr n) + (pgS Γ (T.pr n) (e n) + (S.vi n - 1)) := by unfold eP; rw [t6]
  have hvi := (h2 n h4).2.1
  have hr := (plF_v hV hL hp h5 hvi t1).mpr t6
  refine ⟨⟨v, hvs⟩, uf κ n (pgS Γ (T.pr n) (e n + 1) + (S.vi n - 1)), sum_lt h4 (by omega), uf_s _ _ _, h1, fun m hm => ?_, h3.cg rfl (fun m hm => ⟨rfl, uf_o _ _ (by omega), uf_o _ _ (by omega)⟩), top_at ⟨hV, hL, hx, ‹_›⟩ hT h4 (i := e n + 1) h5 hvi (by show plF Γ (T.pr n) (S.vi n) ≤ e n + 1; have := hr.1; omega) (by show e n + 1 ≤ plF Γ (T.pr n) (S.vi n + 1); have := hr.2; omega) (uf_s _ _ _) rfl (by show S.pc + 1 = pgB Γ (T.pr n) + (pgS Γ (T.pr n) (e n + 1) + (S.vi n - 1)) + 1; rw [t7, eS, epg, ee]; omega) (uf_s _ _ _), fun m hm hmn hz => ?_⟩
  · obtain ⟨b1, b2, b3⟩ := h2 m hm
    by_cases em : m = n
    · rw [em, uf_s]
      refine ⟨t1, hvi, fun o o1 o2 => ?_⟩
      rw [em] at b3
      obtain ⟨c1, c2⟩ := b3 o o1 o2
      refine ⟨c1, fun w w1 w2 => ?_⟩
      rw [c2 w w1 w2]
      have hne : (plP Γ (T.pr n)).va o w ≠ e n := by
        intro z
        have := ((plI_A hL hV hp (svs Γ (hdS Γ (T.pr n)))).2.2.2.2 o w w1 w2).2.1
        have z2 : ((plP Γ (T.pr n)).es.getD ((plP Γ (T.pr n)).va o w) (0, 0, 0)).1 = o := this
        rw [z] at z2
        have z3 : (gE (plP Γ (T.pr n)) (e n)).1 = o := z2
        have hrt : rt Γ (T.pr n) ≤ 3 := (hV.2.2.2 _ hp).2.1.1
        have := enc_b t2
        omega
      show _ < _ ↔ _ < e n + 1
      omega
    · rw [uf_o _ _ em]; exact ⟨b1, b2, b3⟩
  · obtain ⟨i1, i2⟩ := h6 m hm hmn hz
    exact ⟨by rw [uf_o _ _ hmn]; exact i1, by rw [uf_o _ _ hmn, uf_o _ _ hmn]; exact i2⟩
end MK
