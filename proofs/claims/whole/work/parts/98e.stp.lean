/-! ===== the machine: a step, as a function ===== -/
def uf2 (f : Nat → Nat → VL8) (m a : Nat) (v : VL8) : Nat → Nat → VL8 := uf f m (uf (f m) a v)
noncomputable def ins (Γ : GRT) (S : MST) : Nat × Nat × Nat := (PLs Γ Γ.2.1).getD (S.pc - 1) (0, 0, 0)
/-- a visit begins -/
def mEn (Γ : GRT) (T : TST) (S : MST) (c bk : Nat) (sk : List (Nat × Nat)) : MST := (pgV Γ (T.pr c) (S.vi c + 1) + 1, (c, bk) :: sk, uf S.vi c (S.vi c + 1), S.vs, S.kp, S.va)
/-- a visit ends -/
def mLv (Γ : GRT) (T : TST) (S : MST) (n bk : Nat) : List (Nat × Nat) → MST
  | [] => if S.vi n < svs Γ (hdS Γ (T.pr n)) then mEn Γ T S n 0 [] else (bk, [], S.vi, S.vs, S.kp, S.va)
  | z :: r => (bk, z :: r, S.vi, S.vs, S.kp, S.va)
/-- a value is set -/
def mSt (T : TST) (b : Bool) (S : MST) (n : Nat) (I : Nat × Nat × Nat) : List VL8 → MST
  | v :: s => if b = false ∧ I.1 = 16 then (S.pc + 1, S.sk, S.vi, s, S.kp, uf S.va I.2.1 v) else (S.pc + 1, S.sk, S.vi, s, uf2 S.kp (T.ch n (I.2.2 / 8)) (I.2.2 % 8) v, S.va)
  | [] => S
/-- where a TEST goes -/
noncomputable def mTs (Γ : GRT) (S : MST) (I : Nat × Nat × Nat) : List VL8 → MST
  | none :: s => (((PLs Γ Γ.2.1).getD (I.2.1 - 1) (0, 0, 0)).2.1 + 1, S.sk, S.vi, none :: s, S.kp, S.va)
  | some x :: s => (if x = 0 then I.2.1 + 1 else S.pc + 1, S.sk, S.vi, s, S.kp, S.va)
  | [] => S
def mGt (T : TST) (b : Bool) (S : MST) (n : Nat) (I : Nat × Nat × Nat) : VL8 := if b = false ∧ I.1 = 3 then S.va I.2.1 else S.kp (T.ch n (I.2.2 / 8)) (I.2.2 % 8)
def mNg (S : MST) : List VL8 → MST
  | a :: s => (S.pc + 1, S.sk, S.vi, vneg a :: s, S.kp, S.va)
  | [] => S
def mBn (S : MST) (k : Nat) : List VL8 → MST
  | c :: a :: s => (S.pc + 1, S.sk, S.vi, vbin k a c :: s, S.kp, S.va)
  | _ => S
noncomputable def mTp (Γ : GRT) (T : TST) (b : Bool) (S : MST) (n bk : Nat) (r : List (Nat × Nat)) (I : Nat × Nat × Nat) : MST :=
  if I.1 = 0 then (S.pc + 1, S.sk, S.vi, some (nI I.2.1) :: S.vs, S.kp, S.va)
  else if I.1 = 1 then (S.pc + 1, S.sk, S.vi, some (T.li n) :: S.vs, S.kp, S.va)
  else if I.1 ≤ 5 then (S.pc + 1, S.sk, S.vi, mGt T b S n I :: S.vs, S.kp, S.va)
  else if I.1 = 6 then mNg S S.vs
  else if I.1 ≤ 12 then mBn S I.1 S.vs
  else if I.1 = 13 then mTs Γ S I S.vs
  else if I.1 = 14 then (I.2.1 + 1, S.sk, S.vi, S.vs, S.kp, S.va)
  else if I.1 ≤ 18 then mSt T b S n I S.vs
  else if I.1 = 19 then mEn Γ T S (T.ch n I.2.1) (S.pc + 1) S.sk
  else mLv Γ T S n bk r
/-- a slot of a production -/
def slV (Γ : GRT) (p sl : Nat) : Prop := sl < 32 ∧ sl / 8 ≤ rt Γ p ∧ sl % 8 < Γ.1.2.2.1 (oSy Γ p (sl / 8))
/-- what an instruction finds -/
def Vld (Γ : GRT) (T : TST) (S : MST) (n : Nat) (I : Nat × Nat × Nat) : Prop := 1 ≤ S.pc ∧ S.pc ≤ pgB Γ Γ.2.1 ∧ I.1 ≤ 20 ∧ S.vs.length ≤ 34 ∧ n < T.N ∧ (2 ≤ I.1 → I.1 ≤ 5 → I = (gK Γ (T.pr n) I.2.2, gN Γ (T.pr n) I.2.2, I.2.2) ∧ slV Γ (T.pr n) I.2.2) ∧ (I.1 = 6 → ∃ a s, S.vs = a :: s) ∧ (7 ≤ I.1 → I.1 ≤ 12 → ∃ c a s, S.vs = c :: a :: s) ∧ (I.1 = 13 → (∃ a s, S.vs = a :: s) ∧ 1 ≤ I.2.1 ∧ I.2.1 ≤ pgB Γ Γ.2.1) ∧ (15 ≤ I.1 → I.1 ≤ 18 → (∃ v, S.vs = [v]) ∧ I = (gK Γ (T.pr n) I.2.2 + 13, gN Γ (T.pr n) I.2.2, I.2.2) ∧ slV Γ (T.pr n) I.2.2) ∧ (I.1 = 19 → 1 ≤ I.2.1 ∧ I.2.1 ≤ rt Γ (T.pr n) ∧ S.vi (T.ch n I.2.1) + 1 ≤ svs Γ (hdS Γ (T.pr (T.ch n I.2.1)))) ∧ (I.1 = 20 → S.vi n ≤ svs Γ (hdS Γ (T.pr n)))
section MK
variable {Γ : GRT} {T : TST} {b : Bool} {S : MST} {e κ : Nat → Nat} {n bk : Nat} {r : List (Nat × Nat)}
theorem gK_r (Γ : GRT) (p x : Nat) : 2 ≤ gK Γ p x ∧ gK Γ p x ≤ 5 ∧ (gK Γ p x = 3 ↔ stv Γ (oSy Γ p (x / 8)) (x % 8) = 0) := by
  unfold gK
  split
  · rename_i h; exact ⟨by omega, by omega, fun _ => h, fun _ => rfl⟩
  · rename_i h
    split
    · split
      · exact ⟨by omega, by omega, fun z => by omega, fun z => absurd z h⟩
      · exact ⟨by omega, by omega, fun z => by omega, fun z => absurd z h⟩
    · exact ⟨by omega, by omega, fun z => by omega, fun z => absurd z h⟩
/-- what a step does: an expression's, a SET, a VISIT, a BACK -/
def Inf (Γ : GRT) (T : TST) (b : Bool) (S : MST) (e κ : Nat → Nat) (n : Nat) (S' : MST) (e' κ' : Nat → Nat) : Prop := (∃ x j j1 s1, TpR Γ T b S e κ n x j ∧ j < (rC Γ (T.pr n) x).length ∧ xs1 (gV Γ T b S n) (some (T.li n)) (rC Γ (T.pr n) x) j S.vs = some (j1, s1) ∧ S' = (eP Γ (T.pr n) (e n) + j1 + 1, S.sk, S.vi, s1, S.kp, S.va) ∧ e' = e) ∨ (∃ x v, TpR Γ T b S e κ n x (rC Γ (T.pr n) x).length ∧ S.vs = [v] ∧ S' = mSt T b S n (gK Γ (T.pr n) x + 13, gN Γ (T.pr n) x, x) [v] ∧ e' = uf e n (e n + 1) ∧ (∀ n' bk' r', S'.sk = (n', bk') :: r' → κ' n' = pgS Γ (T.pr n') (e' n') + (S'.vi n' - 1))) ∨ (∃ o w, TpV Γ T S e κ n o w ∧ S'.kp = S.kp ∧ S'.vs = [] ∧ e' = uf e n (e n + 1) ∧ (∀ n' bk' r', S'.sk = (n', bk') :: r' → κ' n' = pgS Γ (T.pr n') (e' n') + (S'.vi n' - 1))) ∨ (TpB Γ T S e κ n ∧ S'.kp = S.kp ∧ S'.vs = [] ∧ e' = e ∧ (∀ n' bk' r', S'.sk = (n', bk') :: r' → κ' n' = pgS Γ (T.pr n') (e' n') + (S'.vi n' - 1)))
theorem mi_st4 (hG : GOK Γ) (hT : TOK Γ T) (h : MIr Γ T b S e κ n bk r) : Vld Γ T S n (ins Γ S) ∧ ∃ e' κ', sumN κ T.N + 1 ≤ sumN κ' T.N ∧ ((∃ n' bk' r', MIr Γ T b (mTp Γ T b S n bk r (ins Γ S)) e' κ' n' bk' r') ∨ MIe Γ T (mTp Γ T b S n bk r (ins Γ S)) e' κ') ∧ Inf Γ T b S e κ n (mTp Γ T b S n bk r (ins Γ S)) e' κ' := by
  have hG0 := hG
  obtain ⟨hV, hL, hx, _⟩ := hG
  have h0 := h
  obtain ⟨h1, h2, h3, ⟨h4, h5, h7⟩, h6⟩ := h
  have hp : T.pr n < Γ.2.1 := ((hT.2.2 n h4).1).1
  have hrt : rt Γ (T.pr n) ≤ 3 := (hV.2.2.2 _ hp).2.1.1
  rcases h7 with ⟨x, j, ht⟩ | ⟨o, w, ht⟩ | ht
  · have ht0 := ht
    obtain ⟨t1, t2, t3, t4, t5, t6, t7, t8, t9, t10⟩ := ht
    have epg : pgn Γ (T.pr n) (e n) = (rC Γ (T.pr n) x).length + 1 := by
      unfold pgn
      have := enc_b t2
      rw [t5, if_neg (by omega), dx_enc t2]
    have eel : enL Γ (T.pr n) (eP Γ (T.pr n) (e n)) (e n) = exL Γ (T.pr n) (eP Γ (T.pr n) (e n)) (rC Γ (T.pr n) x) ++ [(gK Γ (T.pr n) x + 13, gN Γ (T.pr n) x, x)] := by
      unfold enL
      have := enc_b t2
      rw [t5, if_neg (by omega), dx_enc t2]
    obtain ⟨g1, g2⟩ := pg_en hV hL hp t1 (k := j) (by rw [epg]; omega)
    have hins : ins Γ S = (enL Γ (T.pr n) (eP Γ (T.pr n) (e n)) (e n)).getD j (0, 0, 0) := by
      unfold ins
      rw [t7, show eP Γ (T.pr n) (e n) + j + 1 - 1 = eP Γ (T.pr n) (e n) + j by omega]; exact g1
    have hpv := (hV.2.2.2 _ hp).2.1
    have hd := (plI_A hL hV hp (svs Γ (hdS Γ (T.pr n)))).1 x t3
    obtain ⟨q1, q2, q3, q4, q5⟩ := hpv.2.2 x hd
    have hpc1 : 1 ≤ S.pc := by omega
    have hpc2 : S.pc ≤ pgB Γ Γ.2.1 := by omega
    by_cases hj : j = (rC Γ (T.pr n) x).length
    · -- SET
      have hI : ins Γ S = (gK Γ (T.pr n) x + 13, gN Γ (T.pr n) x, x) := by
        rw [hins, eel, hj]
        have := exL_len Γ (T.pr n) (eP Γ (T.pr n) (e n)) (rC Γ (T.pr n) x)
        rw [← this, ge_e]
      have hk := gK_r Γ (T.pr n) x
      rw [hj] at ht0
      obtain ⟨⟨v, hv⟩, _⟩ := mi_set hG0 hT h0 ht0 S.kp S.va
      have hsl : slV Γ (T.pr n) x := by
        refine ⟨t2, ?_, ?_⟩
        · unfold dfn at q2
          rw [Bool.and_eq_true, decide_eq_true_eq] at q2
          exact q2.1
        · unfold dfn at q2
          rw [Bool.and_eq_true, Bool.and_eq_true, decide_eq_true_eq, decide_eq_true_eq] at q2
          exact q2.2.1
      rw [hI]
      refine ⟨⟨hpc1, hpc2, by show gK Γ (T.pr n) x + 13 ≤ 20; omega, by rw [hv]; show 1 ≤ 34; omega, h4, fun _ z => ?_, fun z => ?_, fun _ z => ?_, fun z => ?_, fun _ _ => ⟨⟨v, hv⟩, rfl, hsl⟩, fun z => ?_, fun z => ?_⟩, ?_⟩
      · have z : gK Γ (T.pr n) x + 13 ≤ 5 := z; omega
      · have z : gK Γ (T.pr n) x + 13 = 6 := z; omega
      · have z : gK Γ (T.pr n) x + 13 ≤ 12 := z; omega
      · have z : gK Γ (T.pr n) x + 13 = 13 := z; omega
      · have z : gK Γ (T.pr n) x + 13 = 19 := z; omega
      · have z : gK Γ (T.pr n) x + 13 = 20 := z; omega
      · have em0 : mTp Γ T b S n bk r (gK Γ (T.pr n) x + 13, gN Γ (T.pr n) x, x) = mSt T b S n (gK Γ (T.pr n) x + 13, gN Γ (T.pr n) x, x) [v] := by
          unfold mTp
          rw [if_neg (by show ¬ gK Γ (T.pr n) x + 13 = 0; omega), if_neg (by show ¬ gK Γ (T.pr n) x + 13 = 1; omega), if_neg (by show ¬ gK Γ (T.pr n) x + 13 ≤ 5; omega), if_neg (by show ¬ gK Γ (T.pr n) x + 13 = 6; omega), if_neg (by show ¬ gK Γ (T.pr n) x + 13 ≤ 12; omega), if_neg (by show ¬ gK Γ (T.pr n) x + 13 = 13; omega), if_neg (by show ¬ gK Γ (T.pr n) x + 13 = 14; omega), if_pos (by show gK Γ (T.pr n) x + 13 ≤ 18; omega), hv]
        have em : ∃ kp' va', mTp Γ T b S n bk r (gK Γ (T.pr n) x + 13, gN Γ (T.pr n) x, x) = (S.pc + 1, S.sk, S.vi, [], kp', va') := by
          unfold mTp
          rw [if_neg (by show ¬ gK Γ (T.pr n) x + 13 = 0; omega), if_neg (by show ¬ gK Γ (T.pr n) x + 13 = 1; omega), if_neg (by show ¬ gK Γ (T.pr n) x + 13 ≤ 5; omega), if_neg (by show ¬ gK Γ (T.pr n) x + 13 = 6; omega), if_neg (by show ¬ gK Γ (T.pr n) x + 13 ≤ 12; omega), if_neg (by show ¬ gK Γ (T.pr n) x + 13 = 13; omega), if_neg (by show ¬ gK Γ (T.pr n) x + 13 = 14; omega), if_pos (by show gK Γ (T.pr n) x + 13 ≤ 18; omega), hv]
          show ∃ kp' va', (if b = false ∧ gK Γ (T.pr n) x + 13 = 16 then _ else _) = _
          split
          · exact ⟨_, _, rfl⟩
          · exact ⟨_, _, rfl⟩
        obtain ⟨kp', va', em⟩ := em
        obtain ⟨_, κ', k1, kb, k2⟩ := mi_set hG0 hT h0 ht0 kp' va'
        exact ⟨_, κ', k1, Or.inl ⟨n, bk, r, by rw [em]; exact k2⟩, Or.inr (Or.inl ⟨x, v, ht0, hv, em0, rfl, fun n' bk' r' hs => by
          rw [em] at hs ⊢
          have hs : S.sk = (n', bk') :: r' := hs
          rw [h1] at hs
          injection hs with z1 z2
          injection z1 with z3 z4
          rw [← z3, uf_s]; exact kb⟩)⟩
    · have hjl : j < (rC Γ (T.pr n) x).length := by omega
      obtain ⟨j1, s1, a4, a5, a6, a7, a8, κ', a9, a10⟩ := mi_x h0 ht0 hjl
      have hI : ins Γ S = (xk (gK Γ (T.pr n)) ((rC Γ (T.pr n) x).getD j (0, 0)), xo (gN Γ (T.pr n)) (eP Γ (T.pr n) (e n) + j) ((rC Γ (T.pr n) x).getD j (0, 0)), xs ((rC Γ (T.pr n) x).getD j (0, 0))) := by
        rw [hins, eel, ge_l (by rw [exL_len]; exact hjl), exL_get _ _ _ _ _ hjl]
      have hmem := gd_mem hjl
      have hk20 : ((rC Γ (T.pr n) x).getD j (0, 0)).1 < 20 := (CR_bd q5 (fun s hs => by have h1 : s / 8 ≤ (Γ.2.2.1 (T.pr n)).2.1 := hs.1; have : rt Γ (T.pr n) = (Γ.2.2.1 (T.pr n)).2.1 := rfl; omega)).2 _ hmem
      have hok : ((rC Γ (T.pr n) x).getD j (0, 0)).1 = 2 → slOK (kOf Γ.1 (Γ.2.2.1 (T.pr n))) ((rC Γ (T.pr n) x).getD j (0, 0)).2 := by
        intro h2
        refine (CR_nm q5).2 _ ?_
        unfold nmA
        rw [List.any_eq_true]
        exact ⟨_, hmem, decide_eq_true ⟨h2, rfl⟩⟩
      have hpc : S.pc + 1 = eP Γ (T.pr n) (e n) + (j + 1) + 1 := by omega
      have hK := gK_r Γ (T.pr n) ((rC Γ (T.pr n) x).getD j (0, 0)).2
      have hJmp : ∀ k, k < (rC Γ (T.pr n) x).length → ((PLs Γ Γ.2.1).getD (eP Γ (T.pr n) (e n) + k) (0, 0, 0)).2.1 = xo (gN Γ (T.pr n)) (eP Γ (T.pr n) (e n) + k) ((rC Γ (T.pr n) x).getD k (0, 0)) := by
        intro k hk
        obtain ⟨gg, _⟩ := pg_en hV hL hp t1 (k := k) (by rw [epg]; omega)
        rw [gg, eel, ge_l (by rw [exL_len]; exact hk), exL_get _ _ _ _ _ hk]
      obtain ⟨_, hend⟩ := pg_en hV hL hp t1 (k := (rC Γ (T.pr n) x).length) (by rw [epg]; omega)
      have key : Vld Γ T S n (ins Γ S) ∧ mTp Γ T b S n bk r (ins Γ S) = (eP Γ (T.pr n) (e n) + j1 + 1, S.sk, S.vi, s1, S.kp, S.va) := by
        rw [hI]
        generalize hz : (rC Γ (T.pr n) x).getD j (0, 0) = z at *
        unfold xs1 at a4
        rw [hz] at a4
        by_cases k0 : z.1 = 0
        · rw [if_pos k0] at a4
          injection a4 with a4
          injection a4 with b1 b2
          have ek : xk (gK Γ (T.pr n)) z = 0 := by unfold xk; rw [if_neg (by omega)]; exact k0
          have eo : xo (gN Γ (T.pr n)) (eP Γ (T.pr n) (e n) + j) z = z.2 := by unfold xo abn; rw [if_neg (by omega), if_neg (by omega)]
          rw [ek, eo]
          refine ⟨⟨hpc1, hpc2, Nat.zero_le _, a7, h4, fun q => absurd q (by show ¬ 2 ≤ 0; omega), fun q => absurd q (by show ¬ (0 : Nat) = 6; omega), fun q => absurd q (by show ¬ 7 ≤ 0; omega), fun q => absurd q (by show ¬ (0 : Nat) = 13; omega), fun q => absurd q (by show ¬ 15 ≤ 0; omega), fun q => absurd q (by show ¬ (0 : Nat) = 19; omega), fun q => absurd q (by show ¬ (0 : Nat) = 20; omega)⟩, ?_⟩
          unfold mTp
          rw [if_pos rfl, hpc, ← b1, ← b2]
        · rw [if_neg k0] at a4
          by_cases k1 : z.1 = 1
          · rw [if_pos k1] at a4
            injection a4 with a4
            injection a4 with b1 b2
            have ek : xk (gK Γ (T.pr n)) z = 1 := by unfold xk; rw [if_neg (by omega)]; exact k1
            rw [ek]
            refine ⟨⟨hpc1, hpc2, by show 1 ≤ 20; omega, a7, h4, fun q => absurd q (by show ¬ 2 ≤ 1; omega), fun q => absurd q (by show ¬ (1 : Nat) = 6; omega), fun q => absurd q (by show ¬ 7 ≤ 1; omega), fun q => absurd q (by show ¬ (1 : Nat) = 13; omega), fun q => absurd q (by show ¬ 15 ≤ 1; omega), fun q => absurd q (by show ¬ (1 : Nat) = 19; omega), fun q => absurd q (by show ¬ (1 : Nat) = 20; omega)⟩, ?_⟩
            unfold mTp
            rw [if_neg (by show ¬ (1 : Nat) = 0; omega), if_pos rfl, hpc, ← b1, ← b2]
          · rw [if_neg k1] at a4
            by_cases k2 : z.1 = 2
            · rw [if_pos k2] at a4
              injection a4 with a4
              injection a4 with b1 b2
              have ek : xk (gK Γ (T.pr n)) z = gK Γ (T.pr n) z.2 := by unfold xk; rw [if_pos k2]
              have eo : xo (gN Γ (T.pr n)) (eP Γ (T.pr n) (e n) + j) z = gN Γ (T.pr n) z.2 := by unfold xo; rw [if_pos k2]
              have es : xs z = z.2 := by unfold xs; rw [if_pos k2]
              obtain ⟨s1', s2', s3'⟩ := hok k2
              have s1' : z.2 / 8 ≤ rt Γ (T.pr n) := s1'
              have hsl : slV Γ (T.pr n) z.2 := ⟨by omega, s1', s2'⟩
              rw [ek, eo, es]
              refine ⟨⟨hpc1, hpc2, by show gK Γ (T.pr n) z.2 ≤ 20; omega, a7, h4, fun _ _ => ⟨rfl, hsl⟩, fun q => ?_, fun q => ?_, fun q => ?_, fun q => ?_, fun q => ?_, fun q => ?_⟩, ?_⟩
              · have q : gK Γ (T.pr n) z.2 = 6 := q; omega
              · have q : 7 ≤ gK Γ (T.pr n) z.2 := q; omega
              · have q : gK Γ (T.pr n) z.2 = 13 := q; omega
              · have q : 15 ≤ gK Γ (T.pr n) z.2 := q; omega
              · have q : gK Γ (T.pr n) z.2 = 19 := q; omega
              · have q : gK Γ (T.pr n) z.2 = 20 := q; omega
              · unfold mTp
                rw [if_neg (by show ¬ gK Γ (T.pr n) z.2 = 0; omega), if_neg (by show ¬ gK Γ (T.pr n) z.2 = 1; omega), if_pos (by show gK Γ (T.pr n) z.2 ≤ 5; omega), hpc, ← b1, ← b2]
                have eg : mGt T b S n (gK Γ (T.pr n) z.2, gN Γ (T.pr n) z.2, z.2) = gV Γ T b S n z.2 := by
                  unfold mGt gV
                  by_cases c : b = false ∧ stv Γ (oSy Γ (T.pr n) (z.2 / 8)) (z.2 % 8) = 0
                  · rw [if_pos c, if_pos ⟨c.1, hK.2.2.mpr c.2⟩]
                  · rw [if_neg c, if_neg (fun q => c ⟨q.1, hK.2.2.mp q.2⟩)]
                rw [eg]
            · rw [if_neg k2] at a4
              have ek : xk (gK Γ (T.pr n)) z = z.1 := by unfold xk; rw [if_neg k2]
              have es : xs z = 0 := by unfold xs; rw [if_neg k2]
              rw [ek, es]
              by_cases k6 : z.1 = 6
              · rw [if_pos k6] at a4
                cases hvs : S.vs with
                | nil => rw [hvs] at a4; exact absurd a4 (by simp)
                | cons a s =>
                  rw [hvs] at a4
                  injection a4 with a4
                  injection a4 with b1 b2
                  rw [k6]
                  refine ⟨⟨hpc1, hpc2, by show 6 ≤ 20; omega, a7, h4, fun _ q => absurd q (by show ¬ 6 ≤ 5; omega), fun _ => ⟨a, s, hvs⟩, fun q => absurd q (by show ¬ 7 ≤ 6; omega), fun q => absurd q (by show ¬ (6 : Nat) = 13; omega), fun q => absurd q (by show ¬ 15 ≤ 6; omega), fun q => absurd q (by show ¬ (6 : Nat) = 19; omega), fun q => absurd q (by show ¬ (6 : Nat) = 20; omega)⟩, ?_⟩
                  unfold mTp
                  rw [if_neg (by show ¬ (6 : Nat) = 0; omega), if_neg (by show ¬ (6 : Nat) = 1; omega), if_neg (by show ¬ (6 : Nat) ≤ 5; omega), if_pos rfl, hvs]
                  show (S.pc + 1, S.sk, S.vi, vneg a :: s, S.kp, S.va) = _
                  rw [hpc, ← b1, ← b2]
              · rw [if_neg k6] at a4
                by_cases k13 : z.1 = 13
                · rw [if_pos k13] at a4
                  have eo : xo (gN Γ (T.pr n)) (eP Γ (T.pr n) (e n) + j) z = eP Γ (T.pr n) (e n) + j + z.2 := by unfold xo abn; rw [if_neg k2, if_pos (Or.inl k13)]
                  rw [k13, eo]
                  cases hvs : S.vs with
                  | nil => rw [hvs] at a4; exact absurd a4 (by simp)
                  | cons a s =>
                    rw [hvs] at a4
                    -- the JUMP ahead of the other branch
                    have hT13 := CR_T13 q5 hjl (by show ((rC Γ (T.pr n) x).getD j (0, 0)).1 = 13; rw [hz]; exact k13)
                    obtain ⟨u1, u2, u3⟩ := hT13
                    have hz2 : ((Γ.2.2.1 (T.pr n)).2.2.2.2.2 x).2.2.2.getD j (0, 0) = z := hz
                    rw [hz2] at u1 u2 u3
                    have u2 : j + z.2 ≤ (rC Γ (T.pr n) x).length := u2
                    have u3 : ((rC Γ (T.pr n) x).getD (j + z.2 - 1) (0, 0)).1 = 14 := u3
                    refine ⟨⟨hpc1, hpc2, by show 13 ≤ 20; omega, a7, h4, fun _ q => absurd q (by show ¬ 13 ≤ 5; omega), fun q => absurd q (by show ¬ (13 : Nat) = 6; omega), fun _ q => absurd q (by show ¬ 13 ≤ 12; omega), fun _ => ⟨⟨a, s, hvs⟩, by show 1 ≤ eP Γ (T.pr n) (e n) + j + z.2; omega, by show eP Γ (T.pr n) (e n) + j + z.2 ≤ _; omega⟩, fun q => absurd q (by show ¬ 15 ≤ 13; omega), fun q => absurd q (by show ¬ (13 : Nat) = 19; omega), fun q => absurd q (by show ¬ (13 : Nat) = 20; omega)⟩, ?_⟩
                    unfold mTp
                    rw [if_neg (by show ¬ (13 : Nat) = 0; omega), if_neg (by show ¬ (13 : Nat) = 1; omega), if_neg (by show ¬ (13 : Nat) ≤ 5; omega), if_neg (by show ¬ (13 : Nat) = 6; omega), if_neg (by show ¬ (13 : Nat) ≤ 12; omega), if_pos rfl, hvs]
                    cases a with
                    | none =>
                      injection a4 with a4
                      injection a4 with b1 b2
                      show (((PLs Γ Γ.2.1).getD (eP Γ (T.pr n) (e n) + j + z.2 - 1) (0, 0, 0)).2.1 + 1, S.sk, S.vi, none :: s, S.kp, S.va) = _
                      rw [show eP Γ (T.pr n) (e n) + j + z.2 - 1 = eP Γ (T.pr n) (e n) + (j + z.2 - 1) by omega, hJmp _ (by omega)]
                      have eo2 : xo (gN Γ (T.pr n)) (eP Γ (T.pr n) (e n) + (j + z.2 - 1)) ((rC Γ (T.pr n) x).getD (j + z.2 - 1) (0, 0)) = eP Γ (T.pr n) (e n) + j1 := by
                        unfold xo abn
                        rw [if_neg (by omega), if_pos (Or.inr u3), ← b1]
                        omega
                      rw [eo2, ← b2]
                    | some v =>
                      injection a4 with a4
                      injection a4 with b1 b2
                      show (if v = 0 then eP Γ (T.pr n) (e n) + j + z.2 + 1 else S.pc + 1, S.sk, S.vi, s, S.kp, S.va) = _
                      rw [← b1, ← b2]
                      by_cases v0 : v = 0
                      · rw [if_pos v0, if_pos v0, show eP Γ (T.pr n) (e n) + j + z.2 + 1 = eP Γ (T.pr n) (e n) + (j + z.2) + 1 by omega]
                      · rw [if_neg v0, if_neg v0, hpc]
                · rw [if_neg k13] at a4
                  by_cases k14 : z.1 = 14
                  · rw [if_pos k14] at a4
                    injection a4 with a4
                    injection a4 with b1 b2
                    have eo : xo (gN Γ (T.pr n)) (eP Γ (T.pr n) (e n) + j) z = eP Γ (T.pr n) (e n) + j + z.2 := by unfold xo abn; rw [if_neg k2, if_pos (Or.inr k14)]
                    rw [k14, eo]
                    refine ⟨⟨hpc1, hpc2, by show 14 ≤ 20; omega, a7, h4, fun _ q => absurd q (by show ¬ 14 ≤ 5; omega), fun q => absurd q (by show ¬ (14 : Nat) = 6; omega), fun _ q => absurd q (by show ¬ 14 ≤ 12; omega), fun q => absurd q (by show ¬ (14 : Nat) = 13; omega), fun q => absurd q (by show ¬ 15 ≤ 14; omega), fun q => absurd q (by show ¬ (14 : Nat) = 19; omega), fun q => absurd q (by show ¬ (14 : Nat) = 20; omega)⟩, ?_⟩
                    unfold mTp
                    rw [if_neg (by show ¬ (14 : Nat) = 0; omega), if_neg (by show ¬ (14 : Nat) = 1; omega), if_neg (by show ¬ (14 : Nat) ≤ 5; omega), if_neg (by show ¬ (14 : Nat) = 6; omega), if_neg (by show ¬ (14 : Nat) ≤ 12; omega), if_neg (by show ¬ (14 : Nat) = 13; omega), if_pos rfl, ← b1, ← b2]
                    show (eP Γ (T.pr n) (e n) + j + z.2 + 1, _) = _
                    rw [show eP Γ (T.pr n) (e n) + j + z.2 + 1 = eP Γ (T.pr n) (e n) + (j + z.2) + 1 by omega]
                  · rw [if_neg k14] at a4
                    have hbn := CR_kn q5 z hmem
                    have hb7 : 7 ≤ z.1 ∧ z.1 ≤ 12 := by omega
                    cases hvs : S.vs with
                    | nil => rw [hvs] at a4; exact absurd a4 (by simp)
                    | cons c s =>
                      cases s with
                      | nil => rw [hvs] at a4; exact absurd a4 (by simp)
                      | cons a s =>
                        rw [hvs] at a4
                        injection a4 with a4
                        injection a4 with b1 b2
                        refine ⟨⟨hpc1, hpc2, by show z.1 ≤ 20; omega, a7, h4, fun _ q => ?_, fun q => absurd q k6, fun _ _ => ⟨c, a, s, hvs⟩, fun q => absurd q k13, fun q => ?_, fun q => ?_, fun q => ?_⟩, ?_⟩
                        · have q : z.1 ≤ 5 := q; omega
                        · have q : 15 ≤ z.1 := q; omega
                        · have q : z.1 = 19 := q; omega
                        · have q : z.1 = 20 := q; omega
                        · unfold mTp
                          rw [if_neg (by show ¬ z.1 = 0; omega), if_neg (by show ¬ z.1 = 1; omega), if_neg (by show ¬ z.1 ≤ 5; omega), if_neg (by show ¬ z.1 = 6; omega), if_pos (by show z.1 ≤ 12; omega), hvs]
                          show (S.pc + 1, S.sk, S.vi, vbin z.1 a c :: s, S.kp, S.va) = _
                          rw [hpc, ← b1, ← b2]
      refine ⟨key.1, e, κ', a9, Or.inl ⟨n, bk, r, ?_⟩, Or.inl ⟨x, j, j1, s1, ht0, hjl, a4, key.2, rfl⟩⟩
      rw [key.2]; exact a10
  · have ht0 := ht
    obtain ⟨t1, t2, t3, t4, t5, t6, t7, t8, t9, t10⟩ := ht
    have hlt : (gE (plP Γ (T.pr n)) (e n)).1 < 10 := by rw [t2]; show o < 10; omega
    have epg : pgn Γ (T.pr n) (e n) = 1 := by unfold pgn; rw [if_pos hlt]
    obtain ⟨g1, g2⟩ := pg_en hV hL hp t1 (k := 0) (by rw [epg]; omega)
    have hI : ins Γ S = (19, o, 0) := by
      unfold ins
      rw [t8, show eP Γ (T.pr n) (e n) + 1 - 1 = eP Γ (T.pr n) (e n) + 0 by omega, g1]
      unfold enL
      rw [if_pos hlt, t2]; rfl
    obtain ⟨c2, hw, _, c1, hsv, κ', k1, kb, k2⟩ := mi_vis hG0 hT h0 ht0
    rw [hI]
    have emv : mTp Γ T b S n bk r (19, o, 0) = (pgV Γ (T.pr (T.ch n o)) w + 1, (T.ch n o, S.pc + 1) :: S.sk, uf S.vi (T.ch n o) w, [], S.kp, S.va) := by
      unfold mTp
      rw [if_neg (by show ¬ (19 : Nat) = 0; omega), if_neg (by show ¬ (19 : Nat) = 1; omega), if_neg (by show ¬ (19 : Nat) ≤ 5; omega), if_neg (by show ¬ (19 : Nat) = 6; omega), if_neg (by show ¬ (19 : Nat) ≤ 12; omega), if_neg (by show ¬ (19 : Nat) = 13; omega), if_neg (by show ¬ (19 : Nat) = 14; omega), if_neg (by show ¬ (19 : Nat) ≤ 18; omega), if_pos rfl]
      show mEn Γ T S (T.ch n o) (S.pc + 1) S.sk = _
      unfold mEn
      rw [hw, t9]
    refine ⟨⟨by omega, by omega, by show 19 ≤ 20; omega, by rw [t9]; show 0 ≤ 34; omega, h4, fun _ q => absurd q (by show ¬ 19 ≤ 5; omega), fun q => absurd q (by show ¬ (19 : Nat) = 6; omega), fun _ q => absurd q (by show ¬ 19 ≤ 12; omega), fun q => absurd q (by show ¬ (19 : Nat) = 13; omega), fun _ q => absurd q (by show ¬ 19 ≤ 18; omega), fun _ => ⟨t5, t6, by show S.vi (T.ch n o) + 1 ≤ _; rw [hw]; exact hsv⟩, fun q => absurd q (by show ¬ (19 : Nat) = 20; omega)⟩, uf e n (e n + 1), κ', k1, Or.inl ⟨T.ch n o, S.pc + 1, (n, bk) :: r, by rw [emv]; exact k2⟩, Or.inr (Or.inr (Or.inl ⟨o, w, ht0, by rw [emv], by rw [emv], rfl, fun n' bk' r' hs => by
      rw [emv] at hs ⊢
      have hs : (T.ch n o, S.pc + 1) :: S.sk = (n', bk') :: r' := hs
      injection hs with z1 z2
      injection z1 with z3 z4
      rw [← z3, uf_o _ _ (by omega)]
      show _ = _ + (uf S.vi (T.ch n o) w (T.ch n o) - 1)
      rw [uf_s]; exact kb⟩))⟩
  · have ht0 := ht
    obtain ⟨t1, t2, t3, t4⟩ := ht
    have hvi := (h2 n h4).2.1
    obtain ⟨g1, g2⟩ := pg_bk hV hL hp h5 hvi
    have hI : ins Γ S = (20, 0, 0) := by
      unfold ins
      rw [t2, show bP Γ (T.pr n) (S.vi n) + 1 - 1 = bP Γ (T.pr n) (S.vi n) by omega]; exact g1
    rw [hI]
    refine ⟨⟨by omega, by omega, by show 20 ≤ 20; omega, by rw [t3]; show 0 ≤ 34; omega, h4, fun _ q => absurd q (by show ¬ 20 ≤ 5; omega), fun q => absurd q (by show ¬ (20 : Nat) = 6; omega), fun _ q => absurd q (by show ¬ 20 ≤ 12; omega), fun q => absurd q (by show ¬ (20 : Nat) = 13; omega), fun _ q => absurd q (by show ¬ 20 ≤ 18; omega), fun q => absurd q (by show ¬ (20 : Nat) = 19; omega), fun _ => hvi⟩, ?_⟩
    have em : mTp Γ T b S n bk r (20, 0, 0) = mLv Γ T S n bk r := by
      unfold mTp
      rw [if_neg (by show ¬ (20 : Nat) = 0; omega), if_neg (by show ¬ (20 : Nat) = 1; omega), if_neg (by show ¬ (20 : Nat) ≤ 5; omega), if_neg (by show ¬ (20 : Nat) = 6; omega), if_neg (by show ¬ (20 : Nat) ≤ 12; omega), if_neg (by show ¬ (20 : Nat) = 13; omega), if_neg (by show ¬ (20 : Nat) = 14; omega), if_neg (by show ¬ (20 : Nat) ≤ 18; omega), if_neg (by show ¬ (20 : Nat) = 19; omega)]
    rw [em]
    cases r with
    | nil =>
      by_cases hl : S.vi n < svs Γ (hdS Γ (T.pr n))
      · obtain ⟨z1, z2, κ', k1, kb, k2⟩ := mi_root hG0 hT h0 ht0 hl
        have el : mLv Γ T S n bk [] = (pgV Γ (T.pr n) (S.vi n + 1) + 1, [(n, 0)], uf S.vi n (S.vi n + 1), [], S.kp, S.va) := by
          unfold mLv
          rw [if_pos hl]
          unfold mEn
          rw [t3]
        rw [el]
        refine ⟨e, κ', k1, Or.inl ⟨n, 0, [], k2⟩, Or.inr (Or.inr (Or.inr ⟨ht0, rfl, rfl, rfl, fun n' bk' r' hs => ?_⟩))⟩
        have hs : [(n, 0)] = (n', bk') :: r' := hs
        injection hs with z1 z2
        injection z1 with z3 z4
        rw [← z3]
        show _ = _ + (uf S.vi n (S.vi n + 1) n - 1)
        rw [uf_s]; exact kb
      · obtain ⟨z1, z2, κ', k1, k2⟩ := mi_end hG0 hT h0 ht0 hl
        have el : mLv Γ T S n bk [] = (0, [], S.vi, [], S.kp, S.va) := by
          unfold mLv
          rw [if_neg hl, z2, t3]
        rw [el]
        exact ⟨e, κ', k1, Or.inr k2, Or.inr (Or.inr (Or.inr ⟨ht0, rfl, rfl, rfl, fun n' bk' r' hs => absurd hs (by show ¬ ([] : List (Nat × Nat)) = _; simp)⟩))⟩
    | cons z r =>
      obtain ⟨κ', k1, kb, k2⟩ := mi_back hG0 hT (n2 := z.1) (b2 := z.2) h0 ht0
      have el : mLv Γ T S n bk (z :: r) = (bk, z :: r, S.vi, [], S.kp, S.va) := by
        unfold mLv
        rw [t3]
      rw [el]
      refine ⟨e, κ', k1, Or.inl ⟨z.1, z.2, r, k2⟩, Or.inr (Or.inr (Or.inr ⟨ht0, rfl, rfl, rfl, fun n' bk' r' hs => ?_⟩))⟩
      have hs : z :: r = (n', bk') :: r' := hs
      injection hs with z1 z2
      rw [z1] at kb
      exact kb
theorem mi_stp (hG : GOK Γ) (hT : TOK Γ T) (h : MIr Γ T b S e κ n bk r) : Vld Γ T S n (ins Γ S) ∧ ∃ e' κ', sumN κ T.N + 1 ≤ sumN κ' T.N ∧ ((∃ n' bk' r', MIr Γ T b (mTp Γ T b S n bk r (ins Γ S)) e' κ' n' bk' r') ∨ MIe Γ T (mTp Γ T b S n bk r (ins Γ S)) e' κ') := by
  obtain ⟨h1, e', κ', h2, h3, _⟩ := mi_st4 hG hT h
  exact ⟨h1, e', κ', h2, h3⟩
end MK
