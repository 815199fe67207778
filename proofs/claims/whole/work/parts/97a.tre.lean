/-! ===== trees: the picture of their reading ===== -/
abbrev TST : Type := Nat × (Nat → Nat) × (Nat → Nat) × (Nat → Int32) × (Nat → Nat) × (Nat → Nat → Nat) × (Nat → Nat) × Nat
abbrev TST.N (T : TST) : Nat := T.1
abbrev TST.pr (T : TST) : Nat → Nat := T.2.1
abbrev TST.pa (T : TST) : Nat → Nat := T.2.2.1
abbrev TST.li (T : TST) : Nat → Int32 := T.2.2.2.1
abbrev TST.nc (T : TST) : Nat → Nat := T.2.2.2.2.1
abbrev TST.ch (T : TST) : Nat → Nat → Nat := T.2.2.2.2.2.1
abbrev TST.pl (T : TST) : Nat → Nat := T.2.2.2.2.2.2.1
abbrev TST.ab (T : TST) : Nat := T.2.2.2.2.2.2.2
def rt (Γ : GRT) (p : Nat) : Nat := (Γ.2.2.1 p).2.1
def tSy (Γ : GRT) (T : TST) : Nat := if T.ab = 0 then 0 else oSy Γ (T.pr (T.ab - 1)) (T.nc (T.ab - 1) + 1)
def tAb (T : TST) (a : Nat) : TST := (T.N, T.pr, T.pa, T.li, T.nc, T.ch, T.pl, a)
def tLi (T : TST) (v : Int32) : TST := (T.N, T.pr, T.pa, uf T.li (T.N - 1) v, T.nc, T.ch, T.pl, T.ab)
def tAd (T : TST) (p : Nat) : TST := (T.N + 1, uf T.pr T.N p, uf T.pa T.N T.ab, uf T.li T.N 0, (if T.ab = 0 then uf T.nc T.N 0 else uf (uf T.nc T.N 0) (T.ab - 1) (T.nc (T.ab - 1) + 1)), (if T.ab = 0 then uf T.ch T.N (uf (T.ch T.N) 0 T.N) else uf (uf T.ch T.N (uf (T.ch T.N) 0 T.N)) (T.ab - 1) (uf (T.ch (T.ab - 1)) (T.nc (T.ab - 1) + 1) T.N)), uf T.pl T.N (if T.ab = 0 then 0 else T.nc (T.ab - 1) + 1), T.ab)
abbrev TRs : Type := Bool × Nat × TST
def tL (t : Nat → Nat) (n : Nat) (T : TST) (q : Nat) : TRs := if tkK t n q = 45 then (if tkK t n (nx t n q) = 3 then (true, nx t n (nx t n q), tLi T (-(nI (nv t n (nx t n q))))) else (false, nx t n q, T)) else if tkK t n q = 3 then (true, nx t n q, tLi T (nI (nv t n q))) else (false, q, T)
def pnF (Γ : GRT) (t : Nat → Nat) (n q : Nat) : Nat := fi (fun i => (Γ.2.2.1 i).1) Γ.2.1 (nml t n q)
def tH (Γ : GRT) (t : Nat → Nat) (n : Nat) (T : TST) (q : Nat) : TRs := if tkK t n q = 2 ∧ pnF Γ t n q < Γ.2.1 ∧ hdS Γ (pnF Γ t n q) = tSy Γ T then (if (Γ.2.2.1 (pnF Γ t n q)).2.2.2.1 then tL t n (tAd T (pnF Γ t n q)) (nx t n q) else (true, nx t n q, tAd T (pnF Γ t n q))) else (false, q, T)
def tC (Γ : GRT) (t : Nat → Nat) (n : Nat) : Nat → TST → Nat → TRs
  | 0, T, q => (true, q, T)
  | f + 1, T, q => if T.ab = 0 ∨ T.nc (T.ab - 1) < rt Γ (T.pr (T.ab - 1)) then (true, q, T) else if tkK t n q = 41 then tC Γ t n f (tAb T (T.pa (T.ab - 1))) (nx t n q) else (false, q, T)
def tK (t : Nat → Nat) (n : Nat) (r : TRs) : Nat × Nat × TST := if r.1 then (if r.2.2.ab = 0 then (if tkK t n r.2.1 = 0 then (1, r.2) else (0, r.2)) else (if tkK t n r.2.1 = 44 then (2, nx t n r.2.1, r.2.2) else (0, r.2))) else (0, r.2)
def tJ (Γ : GRT) (t : Nat → Nat) (n k : Nat) (r : TRs) : Nat × Nat × TST := if r.1 then (if 0 < rt Γ (r.2.2.pr k) then (if tkK t n r.2.1 = 40 then (2, nx t n r.2.1, tAb r.2.2 (k + 1)) else (0, r.2.1, tAb r.2.2 (k + 1))) else tK t n (tC Γ t n 250 r.2.2 r.2.1)) else (0, r.2)
def tN (Γ : GRT) (t : Nat → Nat) (n : Nat) (T : TST) (q : Nat) : Nat × Nat × TST := tJ Γ t n T.N (tH Γ t n T q)
def tR (Γ : GRT) (t : Nat → Nat) (n : Nat) : Nat → TST → Nat → TRs
  | 0, T, q => (false, q, T)
  | f + 1, T, q => if (tN Γ t n T q).1 = 2 then tR Γ t n f (tN Γ t n T q).2.2 (tN Γ t n T q).2.1 else (decide ((tN Γ t n T q).1 = 1), (tN Γ t n T q).2)
def t0 : TST := (0, fun _ => 0, fun _ => 0, fun _ => 0, fun _ => 0, fun _ _ => 0, fun _ => 0, 0)
/-- a text read as a tree -/
def pTr (Γ : GRT) (t : Nat → Nat) (n : Nat) : TRs := tR Γ t n 250 t0 (sp bl t n 0)
/-! what holds of it as far as it is read -/
/-- the nodes whose children are being read, from one up to the root -/
def pit (T : TST) : Nat → Nat → Nat
  | 0, a => a
  | i + 1, a => if pit T i a = 0 then 0 else T.pa (pit T i a - 1)
/-- a node as it stands -/
def TNo (Γ : GRT) (T : TST) (k : Nat) : Prop := T.pr k < Γ.2.1 ∧ T.pa k ≤ k ∧ (k = 0 ↔ T.pa k = 0) ∧ (k = 0 → hdS Γ (T.pr k) = 0) ∧ T.nc k ≤ rt Γ (T.pr k) ∧ T.ch k 0 = k ∧ (∀ o, 1 ≤ o → o ≤ T.nc k → k < T.ch k o ∧ T.ch k o < T.N ∧ T.pa (T.ch k o) = k + 1 ∧ T.pl (T.ch k o) = o) ∧ (T.pa k ≠ 0 → 1 ≤ T.pl k ∧ T.pl k ≤ T.nc (T.pa k - 1) ∧ T.ch (T.pa k - 1) (T.pl k) = k ∧ hdS Γ (T.pr k) = oSy Γ (T.pr (T.pa k - 1)) (T.pl k))
def TI (Γ : GRT) (T : TST) : Prop := T.ab ≤ T.N ∧ (∀ k, k < T.N → TNo Γ T k) ∧ ∀ k, k < T.N → T.nc k < rt Γ (T.pr k) → ∃ i, pit T i T.ab = k + 1
theorem pit_s (T : TST) : ∀ i a, pit T (i + 1) a = if a = 0 then 0 else pit T i (T.pa (a - 1))
  | 0, a => rfl
  | i + 1, a => by
    show (if pit T (i + 1) a = 0 then 0 else T.pa (pit T (i + 1) a - 1)) = _
    rw [pit_s T i a]
    by_cases e : a = 0
    · rw [if_pos e, if_pos e, if_pos rfl]
    · rw [if_neg e, if_neg e]; rfl
theorem pit_0 (T : TST) : ∀ i, pit T i 0 = 0
  | 0 => rfl
  | i + 1 => by rw [pit_s, if_pos rfl]
/-- only parents of nodes that are there matter -/
theorem pit_cg {T T' : TST} (h : ∀ k, k < T.N → T'.pa k = T.pa k) (hp : ∀ k, k < T.N → T.pa k ≤ k) : ∀ i a, a ≤ T.N → pit T' i a = pit T i a
  | 0, a, _ => rfl
  | i + 1, a, ha => by
    rw [pit_s, pit_s]
    by_cases e : a = 0
    · rw [if_pos e, if_pos e]
    · have := hp (a - 1) (by omega)
      rw [if_neg e, if_neg e, h _ (by omega)]
      exact pit_cg h hp i _ (by omega)
theorem TI_0 (Γ : GRT) : TI Γ t0 := ⟨Nat.le_refl _, fun k hk => absurd hk (Nat.not_lt_zero _), fun k hk => absurd hk (Nat.not_lt_zero _)⟩
section TR
variable {Γ : GRT} {t : Nat → Nat} {n q : Nat} {T : TST}
theorem TI_li {v : Int32} (h : TI Γ T) : TI Γ (tLi T v) := by
  have e : ∀ i a, pit (tLi T v) i a = pit T i a := by
    intro i
    induction i with
    | zero => intro a; rfl
    | succ i ih => intro a; rw [pit_s, pit_s, ih]; rfl
  refine ⟨h.1, h.2.1, fun k hk hn => ?_⟩
  obtain ⟨i, hi⟩ := h.2.2 k hk hn
  exact ⟨i, by rw [e]; exact hi⟩
/-- the node whose children are read has all -/
theorem TI_cl (h : TI Γ T) (h0 : T.ab ≠ 0) (hf : ¬ T.nc (T.ab - 1) < rt Γ (T.pr (T.ab - 1))) : TI Γ (tAb T (T.pa (T.ab - 1))) := by
  have e : ∀ b i a, pit (tAb T b) i a = pit T i a := by
    intro b i
    induction i with
    | zero => intro a; rfl
    | succ i ih => intro a; rw [pit_s, pit_s, ih]; rfl
  have h1 := h.1
  have hp := (h.2.1 (T.ab - 1) (by omega)).2.1
  refine ⟨by show T.pa (T.ab - 1) ≤ T.N; omega, h.2.1, fun k hk hn => ?_⟩
  obtain ⟨i, hi⟩ := h.2.2 k hk hn
  cases i with
  | zero =>
    have hi : T.ab = k + 1 := hi
    have hk' : T.ab - 1 = k := by omega
    rw [hk'] at hf
    exact absurd hn hf
  | succ i =>
    rw [pit_s, if_neg h0] at hi
    exact ⟨i, by rw [e]; exact hi⟩
/-- a node more -/
theorem TI_ad (h : TI Γ T) {p : Nat} (hp : p < Γ.2.1) (hy : hdS Γ p = tSy Γ T) (hb : T.ab = 0 → T.N = 0) (hf : T.ab ≠ 0 → T.nc (T.ab - 1) < rt Γ (T.pr (T.ab - 1))) : (tAd T p).ab ≤ (tAd T p).N ∧ (∀ k, k < (tAd T p).N → TNo Γ (tAd T p) k) ∧ (∀ k, k < T.N → (tAd T p).nc k < rt Γ ((tAd T p).pr k) → ∃ i, pit (tAd T p) i T.ab = k + 1) ∧ (tAd T p).pr T.N = p ∧ (tAd T p).nc T.N = 0 ∧ (tAd T p).pa T.N = T.ab := by
  obtain ⟨h1, h2, h3⟩ := h
  have ePr : ∀ k, (tAd T p).pr k = uf T.pr T.N p k := fun _ => rfl
  have ePa : ∀ k, (tAd T p).pa k = uf T.pa T.N T.ab k := fun _ => rfl
  have ePl : ∀ k, (tAd T p).pl k = uf T.pl T.N (if T.ab = 0 then 0 else T.nc (T.ab - 1) + 1) k := fun _ => rfl
  have eNc : ∀ k, (tAd T p).nc k = if k = T.N then 0 else if T.ab ≠ 0 ∧ k = T.ab - 1 then T.nc k + 1 else T.nc k := by
    intro k
    show (if T.ab = 0 then uf T.nc T.N 0 else uf (uf T.nc T.N 0) (T.ab - 1) (T.nc (T.ab - 1) + 1)) k = _
    by_cases e0 : T.ab = 0
    · rw [if_pos e0, if_neg (show ¬ (T.ab ≠ 0 ∧ k = T.ab - 1) from fun z => z.1 e0)]
      rfl
    · rw [if_neg e0]
      by_cases e1 : k = T.ab - 1
      · rw [e1, uf_s, if_neg (by omega), if_pos ⟨e0, rfl⟩]
      · rw [uf_o _ _ e1, if_neg (show ¬ (T.ab ≠ 0 ∧ k = T.ab - 1) from fun z => e1 z.2)]; rfl
  have eCh : ∀ k o, (tAd T p).ch k o = if k = T.N then (if o = 0 then T.N else T.ch k o) else if T.ab ≠ 0 ∧ k = T.ab - 1 ∧ o = T.nc (T.ab - 1) + 1 then T.N else T.ch k o := by
    intro k o
    show (if T.ab = 0 then uf T.ch T.N (uf (T.ch T.N) 0 T.N) else uf (uf T.ch T.N (uf (T.ch T.N) 0 T.N)) (T.ab - 1) (uf (T.ch (T.ab - 1)) (T.nc (T.ab - 1) + 1) T.N)) k o = _
    by_cases e0 : T.ab = 0
    · rw [if_pos e0, if_neg (show ¬ (T.ab ≠ 0 ∧ k = T.ab - 1 ∧ o = T.nc (T.ab - 1) + 1) from fun z => z.1 e0)]
      by_cases e2 : k = T.N
      · rw [e2, uf_s, if_pos rfl]; rfl
      · rw [uf_o _ _ e2, if_neg e2]
    · rw [if_neg e0]
      by_cases e1 : k = T.ab - 1
      · rw [e1, uf_s, if_neg (by omega)]
        by_cases e3 : o = T.nc (T.ab - 1) + 1
        · rw [e3, uf_s, if_pos ⟨e0, rfl, rfl⟩]
        · rw [uf_o _ _ e3, if_neg (fun z => e3 z.2.2)]
      · rw [uf_o _ _ e1, if_neg (show ¬ (T.ab ≠ 0 ∧ k = T.ab - 1 ∧ o = T.nc (T.ab - 1) + 1) from fun z => e1 z.2.1)]
        by_cases e2 : k = T.N
        · rw [e2, uf_s, if_pos rfl]; rfl
        · rw [uf_o _ _ e2, if_neg e2]
  refine ⟨by show T.ab ≤ T.N + 1; omega, fun k hk => ?_, fun k hk hn => ?_, by rw [ePr, uf_s], by rw [eNc, if_pos rfl], by rw [ePa, uf_s]⟩
  · have hk : k < T.N + 1 := hk
    by_cases e : k = T.N
    · -- the new one
      unfold TNo
      rw [ePr, ePa, eNc, eCh, e, uf_s, uf_s, if_pos rfl, if_pos rfl, if_pos rfl]
      refine ⟨hp, h1, ⟨fun z => ?_, hb⟩, fun z => ?_, Nat.zero_le _, rfl, fun o o1 o2 => by omega, fun h0 => ?_⟩
      · omega
      · have : T.ab = 0 := by omega
        rw [hy]; unfold tSy; rw [if_pos this]
      · have hf := hf h0
        have hlt : T.ab - 1 ≠ T.N := by omega
        rw [ePl, uf_s, if_neg h0, eNc, if_neg hlt, if_pos ⟨h0, rfl⟩, eCh, if_neg hlt, if_pos ⟨h0, rfl, rfl⟩, ePr, uf_o _ _ hlt]
        refine ⟨by omega, Nat.le_refl _, rfl, ?_⟩
        rw [hy]; unfold tSy; rw [if_neg h0]
    · have hk2 : k < T.N := by omega
      obtain ⟨a1, a2, a3, a4, a5, a6, a7, a8⟩ := h2 k hk2
      unfold TNo
      rw [ePr, ePa, uf_o _ _ e, uf_o _ _ e]
      refine ⟨a1, a2, a3, a4, ?_, ?_, fun o o1 o2 => ?_, fun h0 => ?_⟩
      · rw [eNc, if_neg e]
        by_cases e2 : T.ab ≠ 0 ∧ k = T.ab - 1
        · have := hf e2.1
          rw [if_pos e2]
          rw [← e2.2] at this
          omega
        · rw [if_neg e2]; exact a5
      · rw [eCh, if_neg e, if_neg (fun z => by omega)]; exact a6
      · rw [eNc, if_neg e] at o2
        rw [eCh, if_neg e]
        by_cases e3 : T.ab ≠ 0 ∧ k = T.ab - 1 ∧ o = T.nc (T.ab - 1) + 1
        · rw [if_pos e3, ePa, ePl, uf_s, uf_s, if_neg e3.1]
          refine ⟨hk2, Nat.lt_succ_self _, by omega, e3.2.2.symm⟩
        · rw [if_neg e3]
          have o3 : o ≤ T.nc k := by
            by_cases e2 : T.ab ≠ 0 ∧ k = T.ab - 1
            · rw [if_pos e2] at o2
              have : o ≠ T.nc k + 1 := fun z => e3 ⟨e2.1, e2.2, by rw [← e2.2]; exact z⟩
              omega
            · rw [if_neg e2] at o2; exact o2
          obtain ⟨b1, b2, b3, b4⟩ := a7 o o1 o3
          rw [ePa, ePl, uf_o _ _ (by omega), uf_o _ _ (by omega)]
          exact ⟨b1, Nat.lt_succ_of_lt b2, b3, b4⟩
      · obtain ⟨b1, b2, b3, b4⟩ := a8 h0
        have hne : T.pa k - 1 ≠ T.N := by omega
        rw [ePl, uf_o _ _ e, eNc, if_neg hne, eCh, if_neg hne, ePr, uf_o _ _ hne]
        refine ⟨b1, ?_, ?_, b4⟩
        · split <;> omega
        · rw [if_neg (fun z => ?_)]
          · exact b3
          · have z2 := z.2.1
            have z3 := z.2.2
            rw [z2] at b2
            omega
  · have hne : k ≠ T.N := by omega
    rw [eNc, if_neg hne, ePr, uf_o _ _ hne] at hn
    have hn2 : T.nc k < rt Γ (T.pr k) := by split at hn <;> omega
    obtain ⟨i, hi⟩ := h3 k hk hn2
    refine ⟨i, ?_⟩
    rw [pit_cg (T := T) (fun k hk => by rw [ePa, uf_o _ _ (by omega)]) (fun k hk => (h2 k hk).2.1) i T.ab h1]
    exact hi
end TR
