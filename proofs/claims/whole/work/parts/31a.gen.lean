def wJ7_fill_53178_l5_b (a0 : Nat) (a0n : Nat) (a1 : Int32) (Q : ab_S → Prop) (E : String → ab_S → Prop) (Bk : Int32 → Int32 → ab_S → Prop) (x2 : Int32) (x3 : Int32) (σ : ab_S) : Prop := ((x3 ≤ x2) → Q σ) ∧ (¬ (x3 ≤ x2) → vp_in x2 a0n ∧ (∀ σ1 : ab_S, σ1 = ab_I σ a0 x2.toNatClampNeg a1 → ∀ v2 : Int32, v2 = (x2 + 1) → Bk v2 x3 σ1))
def wJ7_fill_53178_l5 (a0 : Nat) (a0n : Nat) (a1 : Int32) (Q : ab_S → Prop) (E : String → ab_S → Prop) : Nat → Int32 → Int32 → ab_S → Prop
  | 0, _, _, _ => False
  | n + 1, x2, x3, σ => wJ7_fill_53178_l5_b a0 a0n a1 Q E (wJ7_fill_53178_l5 a0 a0n a1 Q E n) x2 x3 σ
def wJ7_fill_53178 (a0 : Nat) (a0n : Nat) (a1 : Int32) (Q : ab_S → Prop) (E : String → ab_S → Prop) (σ : ab_S) : Prop := ∀ v3 : Int32, v3 = (nI a0n) → ∃ n, wJ7_fill_53178_l5 a0 a0n a1 Q E n (0 : Int32) v3 σ
set_option maxHeartbeats 4000000 in
set_option maxRecDepth 100000 in
theorem ceJ7_fill_53178 {l : Launch} (hl : l.stackTraces = false) (B : Nat) {a0 : Nat} {a0n : Nat} {a1 : Int32} (ha0 : SH[a0]? = some (20, a0n)) {Q : ab_S → Prop} {E : String → ab_S → Prop} {σ : ab_S} (hW : Wire σ) (h : wJ7_fill_53178 a0 a0n a1 Q E σ) : ab_Mt l yJ7_fill_53178 mdJ7_fill_53178 B 0 0 0 0 [.ref a0, .int a1] σ (fun v σ' => Wire σ' ∧ v = none ∧ Q σ') (fun X σ' => Wire σ' ∧ E X σ') := by
  refine V_met hl ⟨rfl, rfl, by decide⟩ rfl dkJ7_fill_53178 (Nat.le_of_ble_eq_true rfl) ?_
  show V l mdJ7_fill_53178 B 0 0 0 0 (ab_End _ _) 0 [(0, .ref a0), (1, .int a1)] [] σ
  revert h hW
  revert σ
  have k_l5 : ∀ (n : Nat) (x2 : Int32) (x3 : Int32)  (σ : ab_S), Wire σ → wJ7_fill_53178_l5 a0 a0n a1 Q E n x2 x3 σ → V l mdJ7_fill_53178 B 0 0 0 0 (ab_End (fun v σ' => Wire σ' ∧ v = none ∧ Q σ') (fun X σ' => Wire σ' ∧ E X σ')) 5 [(0, .ref a0), (1, .int a1), (2, .int x2), (3, .int x3)] [] σ := by
    have step : ∀ (Bk : Int32 → Int32 → ab_S → Prop) (k_Bk : ∀ (x2 : Int32) (x3 : Int32)  (σ : ab_S), Wire σ → Bk x2 x3 σ → V l mdJ7_fill_53178 B 0 0 0 0 (ab_End (fun v σ' => Wire σ' ∧ v = none ∧ Q σ') (fun X σ' => Wire σ' ∧ E X σ')) 5 [(0, .ref a0), (1, .int a1), (2, .int x2), (3, .int x3)] [] σ), ∀ (x2 : Int32) (x3 : Int32)  (σ : ab_S), Wire σ → wJ7_fill_53178_l5_b a0 a0n a1 Q E Bk x2 x3 σ → V l mdJ7_fill_53178 B 0 0 0 0 (ab_End (fun v σ' => Wire σ' ∧ v = none ∧ Q σ') (fun X σ' => Wire σ' ∧ E X σ')) 5 [(0, .ref a0), (1, .int a1), (2, .int x2), (3, .int x3)] [] σ := by
      intro Bk k_Bk
      intro x2 x3  σ hW h
      refine V_iload_n 5 2 rfl rfl rfl ?_
      refine V_iload_n 6 3 rfl rfl rfl ?_
      refine V_icmp_ge 7 (tgt := 20) rfl (by decide) (fun hc => ?_) (fun hc => ?_)
      · replace h := h.1 hc
        exact V_vret 14 rfl rfl ⟨hW, rfl, h⟩
      · replace h := h.2 hc
        refine V_pc 10 rfl ?_
        refine V_aload_n 8 0 rfl rfl rfl ?_
        refine V_iload_n 9 2 rfl rfl rfl ?_
        refine V_iload_n 10 1 rfl rfl rfl ?_
        obtain ⟨hin, h⟩ := h
        refine V_iast 11 rfl (wsh hW ha0) hin ?_
        refine V_nm (fun σ1 eσ1 => ?_)
        replace h := h σ1 eσ1
        have hW := wire_I eσ1 hW
        obtain ⟨v2, ev2⟩ : ∃ z : Int32, z = (x2 + 1) := ⟨_, rfl⟩
        replace h := h v2 ev2
        refine V_iinc 12 2 (v := v2) (lv' := [(2, .int v2), (0, .ref a0), (1, .int a1), (3, .int x3)]) rfl rfl ((in_1 _).trans ev2.symm) (by decide) rfl ?_
        refine V_goto 13 (tgt := 5) rfl (by decide) ?_
        refine V_sub [1, 2, 0, 3] (lv' := [(0, .ref a0), (1, .int a1), (2, .int v2), (3, .int x3)]) rfl ?_
        exact k_Bk v2 x3  σ1 hW h
    intro n
    induction n with
    | zero => intro x2 x3  σ hW h; exact absurd h id
    | succ n ih => exact step  _ ih
  intro σ hW h
  refine V_iconst 0 (v := (0 : Int32)) rfl (by decide) ?_
  refine V_istore_n 1 (lv' := [(2, .int (0 : Int32)), (0, .ref a0), (1, .int a1)]) rfl rfl (by decide) rfl ?_
  refine V_aload_n 2 1 rfl rfl rfl ?_
  refine V_alenI 3 0 rfl (wsh hW ha0) (by decide) (by decide) (fun _ => rfl) ?_
  refine V_topi (fun v3 ev3 => ?_)
  replace h := h v3 ev3
  refine V_istore_n 4 (lv' := [(3, .int v3), (2, .int (0 : Int32)), (0, .ref a0), (1, .int a1)]) rfl rfl (by decide) rfl ?_
  refine V_sub [2, 3, 1, 0] (lv' := [(0, .ref a0), (1, .int a1), (2, .int (0 : Int32)), (3, .int v3)]) rfl ?_
  obtain ⟨n, h⟩ := h
  exact k_l5 n (0 : Int32) v3 σ hW h

def wJ7_fill_d0a16_l6_b (a0 : Nat) (a0n : Nat) (a1 : Int64) (Q : ab_S → Prop) (E : String → ab_S → Prop) (Bk : Int32 → Int32 → ab_S → Prop) (x3 : Int32) (x4 : Int32) (σ : ab_S) : Prop := ((x4 ≤ x3) → Q σ) ∧ (¬ (x4 ≤ x3) → vp_in x3 a0n ∧ (∀ σ1 : ab_S, σ1 = ab_L σ a0 x3.toNatClampNeg a1 → ∀ v2 : Int32, v2 = (x3 + 1) → Bk v2 x4 σ1))
def wJ7_fill_d0a16_l6 (a0 : Nat) (a0n : Nat) (a1 : Int64) (Q : ab_S → Prop) (E : String → ab_S → Prop) : Nat → Int32 → Int32 → ab_S → Prop
  | 0, _, _, _ => False
  | n + 1, x3, x4, σ => wJ7_fill_d0a16_l6_b a0 a0n a1 Q E (wJ7_fill_d0a16_l6 a0 a0n a1 Q E n) x3 x4 σ
def wJ7_fill_d0a16 (a0 : Nat) (a0n : Nat) (a1 : Int64) (Q : ab_S → Prop) (E : String → ab_S → Prop) (σ : ab_S) : Prop := ∀ v3 : Int32, v3 = (nI a0n) → ∃ n, wJ7_fill_d0a16_l6 a0 a0n a1 Q E n (0 : Int32) v3 σ
set_option maxHeartbeats 4000000 in
set_option maxRecDepth 100000 in
theorem ceJ7_fill_d0a16 {l : Launch} (hl : l.stackTraces = false) (B : Nat) {a0 : Nat} {a0n : Nat} {a1 : Int64} (ha0 : SH[a0]? = some (21, a0n)) {Q : ab_S → Prop} {E : String → ab_S → Prop} {σ : ab_S} (hW : Wire σ) (h : wJ7_fill_d0a16 a0 a0n a1 Q E σ) : ab_Mt l yJ7_fill_d0a16 mdJ7_fill_d0a16 B 0 0 0 0 [.ref a0, .long a1] σ (fun v σ' => Wire σ' ∧ v = none ∧ Q σ') (fun X σ' => Wire σ' ∧ E X σ') := by
  refine V_met hl ⟨rfl, rfl, by decide⟩ rfl dkJ7_fill_d0a16 (Nat.le_of_ble_eq_true rfl) ?_
  show V l mdJ7_fill_d0a16 B 0 0 0 0 (ab_End _ _) 0 [(0, .ref a0), (1, .long a1)] [] σ
  revert h hW
  revert σ
  have k_l6 : ∀ (n : Nat) (x3 : Int32) (x4 : Int32)  (σ : ab_S), Wire σ → wJ7_fill_d0a16_l6 a0 a0n a1 Q E n x3 x4 σ → V l mdJ7_fill_d0a16 B 0 0 0 0 (ab_End (fun v σ' => Wire σ' ∧ v = none ∧ Q σ') (fun X σ' => Wire σ' ∧ E X σ')) 6 [(0, .ref a0), (1, .long a1), (3, .int x3), (4, .int x4)] [] σ := by
    have step : ∀ (Bk : Int32 → Int32 → ab_S → Prop) (k_Bk : ∀ (x3 : Int32) (x4 : Int32)  (σ : ab_S), Wire σ → Bk x3 x4 σ → V l mdJ7_fill_d0a16 B 0 0 0 0 (ab_End (fun v σ' => Wire σ' ∧ v = none ∧ Q σ') (fun X σ' => Wire σ' ∧ E X σ')) 6 [(0, .ref a0), (1, .long a1), (3, .int x3), (4, .int x4)] [] σ), ∀ (x3 : Int32) (x4 : Int32)  (σ : ab_S), Wire σ → wJ7_fill_d0a16_l6_b a0 a0n a1 Q E Bk x3 x4 σ → V l mdJ7_fill_d0a16 B 0 0 0 0 (ab_End (fun v σ' => Wire σ' ∧ v = none ∧ Q σ') (fun X σ' => Wire σ' ∧ E X σ')) 6 [(0, .ref a0), (1, .long a1), (3, .int x3), (4, .int x4)] [] σ := by
      intro Bk k_Bk
      intro x3 x4  σ hW h
      refine V_iload_n 5 2 rfl rfl rfl ?_
      refine V_iload 6 3 rfl rfl ?_
      refine V_icmp_ge 7 (tgt := 22) rfl (by decide) (fun hc => ?_) (fun hc => ?_)
      · replace h := h.1 hc
        exact V_vret 14 rfl rfl ⟨hW, rfl, h⟩
      · replace h := h.2 hc
        refine V_pc 12 rfl ?_
        refine V_aload_n 8 0 rfl rfl rfl ?_
        refine V_iload_n 9 2 rfl rfl rfl ?_
        refine V_lload_n 10 1 rfl rfl rfl ?_
        obtain ⟨hin, h⟩ := h
        refine V_last 11 rfl (wsh hW ha0) hin ?_
        refine V_nm (fun σ1 eσ1 => ?_)
        replace h := h σ1 eσ1
        have hW := wire_L eσ1 hW
        obtain ⟨v2, ev2⟩ : ∃ z : Int32, z = (x3 + 1) := ⟨_, rfl⟩
        replace h := h v2 ev2
        refine V_iinc 12 2 (v := v2) (lv' := [(3, .int v2), (0, .ref a0), (1, .long a1), (4, .int x4)]) rfl rfl ((in_1 _).trans ev2.symm) (by decide) rfl ?_
        refine V_goto 13 (tgt := 6) rfl (by decide) ?_
        refine V_sub [1, 2, 0, 3] (lv' := [(0, .ref a0), (1, .long a1), (3, .int v2), (4, .int x4)]) rfl ?_
        exact k_Bk v2 x4  σ1 hW h
    intro n
    induction n with
    | zero => intro x3 x4  σ hW h; exact absurd h id
    | succ n ih => exact step  _ ih
  intro σ hW h
  refine V_iconst 0 (v := (0 : Int32)) rfl (by decide) ?_
  refine V_istore_n 1 (lv' := [(3, .int (0 : Int32)), (0, .ref a0), (1, .long a1)]) rfl rfl (by decide) rfl ?_
  refine V_aload_n 2 1 rfl rfl rfl ?_
  refine V_alenL 3 rfl (wsh hW ha0) ?_
  refine V_topi (fun v3 ev3 => ?_)
  replace h := h v3 ev3
  refine V_istore 4 (lv' := [(4, .int v3), (3, .int (0 : Int32)), (0, .ref a0), (1, .long a1)]) rfl (by decide) rfl ?_
  refine V_sub [2, 3, 1, 0] (lv' := [(0, .ref a0), (1, .long a1), (3, .int (0 : Int32)), (4, .int v3)]) rfl ?_
  obtain ⟨n, h⟩ := h
  exact k_l6 n (0 : Int32) v3 σ hW h

def wJ7_rangeCheck_23922 (a0 : Int32) (a1 : Int32) (a2 : Int32) (Q : ab_S → Prop) (E : String → ab_S → Prop) (σ : ab_S) : Prop := ((a1 ≤ a2) → ((0 ≤ a1) → ((a2 ≤ a0) → Q σ) ∧ (¬ (a2 ≤ a0) → False)) ∧ (¬ (0 ≤ a1) → False)) ∧ (¬ (a1 ≤ a2) → False)
set_option maxHeartbeats 4000000 in
set_option maxRecDepth 100000 in
theorem ceJ7_rangeCheck_23922 {l : Launch} (hl : l.stackTraces = false) (B : Nat) {a0 : Int32} {a1 : Int32} {a2 : Int32}  {Q : ab_S → Prop} {E : String → ab_S → Prop} {σ : ab_S} (hW : Wire σ) (h : wJ7_rangeCheck_23922 a0 a1 a2 Q E σ) : ab_Mt l yJ7_rangeCheck_23922 mdJ7_rangeCheck_23922 B 0 0 0 0 [.int a0, .int a1, .int a2] σ (fun v σ' => Wire σ' ∧ v = none ∧ Q σ') (fun X σ' => Wire σ' ∧ E X σ') := by
  refine V_met hl ⟨rfl, rfl, by decide⟩ rfl dkJ7_rangeCheck_23922 (Nat.le_of_ble_eq_true rfl) ?_
  show V l mdJ7_rangeCheck_23922 B 0 0 0 0 (ab_End _ _) 0 [(0, .int a0), (1, .int a1), (2, .int a2)] [] σ
  refine V_iload_n 0 1 rfl rfl rfl ?_
  refine V_iload_n 1 2 rfl rfl rfl ?_
  refine V_icmp_le 2 (tgt := 46) rfl (by decide) (fun hc => ?_) (fun hc => ?_)
  · replace h := h.1 hc
    refine V_iload_n 21 1 rfl rfl rfl ?_
    refine V_if_ge 22 (tgt := 59) rfl (by decide) (fun hc => ?_) (fun hc => ?_)
    · replace h := h.1 hc
      refine V_iload_n 28 2 rfl rfl rfl ?_
      refine V_iload_n 29 0 rfl rfl rfl ?_
      refine V_icmp_le 30 (tgt := 73) rfl (by decide) (fun hc => ?_) (fun hc => ?_)
      · replace h := h.1 hc
        exact V_vret 36 rfl rfl ⟨hW, rfl, h⟩
      · replace h := h.2 hc
        refine V_pc 64 rfl ?_
        exact absurd h id
    · replace h := h.2 hc
      refine V_pc 50 rfl ?_
      exact absurd h id
  · replace h := h.2 hc
    refine V_pc 5 rfl ?_
    exact absurd h id

def wX0_clear (this : Nat) (Q : ab_S → Prop) (E : String → ab_S → Prop) (σ : ab_S) : Prop := (∀ σ1 : ab_S, σ1 = ab_I σ this 0 (0 : Int32) → (∀ σ2 : ab_S, σ2 = ab_I σ1 this 5 (0 : Int32) → (∀ σ3 : ab_S, σ3 = ab_I σ2 this 14 (0 : Int32) → Q σ3)))
set_option maxHeartbeats 4000000 in
set_option maxRecDepth 100000 in
theorem ceX0_clear {l : Launch} (hl : l.stackTraces = false) (B : Nat) {this : Nat} (hthis : isG this) {Q : ab_S → Prop} {E : String → ab_S → Prop} {σ : ab_S} (hW : Wire σ) (h : wX0_clear this Q E σ) : ab_Mt l yX0_clear mdX0_clear B 0 0 0 0 [.ref this] σ (fun v σ' => Wire σ' ∧ v = none ∧ Q σ') (fun X σ' => Wire σ' ∧ E X σ') := by
  refine V_met hl ⟨rfl, rfl, by decide⟩ rfl dkX0_clear (Nat.le_of_ble_eq_true rfl) ?_
  show V l mdX0_clear B 0 0 0 0 (ab_End _ _) 0 [(0, .ref this)] [] σ
  refine V_aload_n 0 0 rfl rfl rfl ?_
  refine V_iconst 1 (v := (0 : Int32)) rfl (by decide) ?_
  refine V_putI 2 0 rfl clX0 flX0_65 (by decide) (wG hW hthis) rfl (fun _ _ => rfl) rfl rfl ?_
  refine V_nm (fun σ1 eσ1 => ?_)
  replace h := h σ1 eσ1
  have hW := wire_I eσ1 hW
  refine V_aload_n 3 0 rfl rfl rfl ?_
  refine V_iconst 4 (v := (0 : Int32)) rfl (by decide) ?_
  refine V_putI 5 5 rfl clX0 flX0_69 (by decide) (wG hW hthis) rfl (fun _ _ => rfl) rfl rfl ?_
  refine V_nm (fun σ2 eσ2 => ?_)
  replace h := h σ2 eσ2
  have hW := wire_I eσ2 hW
  refine V_aload_n 6 0 rfl rfl rfl ?_
  refine V_iconst 7 (v := (0 : Int32)) rfl (by decide) ?_
  refine V_putI 8 14 rfl clX0 flX0_72 (by decide) (wG hW hthis) rfl (fun _ _ => rfl) rfl rfl ?_
  refine V_nm (fun σ3 eσ3 => ?_)
  replace h := h σ3 eσ3
  have hW := wire_I eσ3 hW
  exact V_vret 9 rfl rfl ⟨hW, rfl, h⟩

def wX0_addSymbol (this : Nat) (a0 : Int64) (Q : ab_S → Prop) (E : String → ab_S → Prop) (σ : ab_S) : Prop := vp_in (σ.2.1 this 0) 12 ∧ (∀ σ1 : ab_S, σ1 = ab_L σ (this + 1) (σ.2.1 this 0).toNatClampNeg a0 → vp_in (σ1.2.1 this 0) 12 ∧ (∀ σ2 : ab_S, σ2 = ab_I σ1 (this + 2) (σ1.2.1 this 0).toNatClampNeg (0 : Int32) → vp_in (σ2.2.1 this 0) 12 ∧ (∀ σ3 : ab_S, σ3 = ab_I σ2 (this + 3) (σ2.2.1 this 0).toNatClampNeg (0 : Int32) → (∀ σ4 : ab_S, σ4 = ab_I σ3 this 0 ((σ3.2.1 this 0) + (1 : Int32)) → Q σ4))))
set_option maxHeartbeats 4000000 in
set_option maxRecDepth 100000 in
theorem ceX0_addSymbol {l : Launch} (hl : l.stackTraces = false) (B : Nat) {this : Nat} {a0 : Int64} (hthis : isG this) {Q : ab_S → Prop} {E : String → ab_S → Prop} {σ : ab_S} (hW : Wire σ) (h : wX0_addSymbol this a0 Q E σ) : ab_Mt l yX0_addSymbol mdX0_addSymbol B 0 0 0 0 [.ref this, .long a0] σ (fun v σ' => Wire σ' ∧ v = none ∧ Q σ') (fun X σ' => Wire σ' ∧ E X σ') := by
  refine V_met hl ⟨rfl, rfl, by decide⟩ rfl dkX0_addSymbol (Nat.le_of_ble_eq_true rfl) ?_
  show V l mdX0_addSymbol B 0 0 0 0 (ab_End _ _) 0 [(0, .ref this), (1, .long a0)] [] σ
  refine V_aload_n 0 0 rfl rfl rfl ?_
  refine V_getR 1 1 rfl clX0 flX0_9 (by decide) (wG hW hthis) (fun _ => rfl) (wG_f1 hW hthis) ?_
  refine V_aload_n 2 0 rfl rfl rfl ?_
  refine V_get (v := .int (σ.2.1 this 0)) 3 0 rfl clX0 flX0_65 (by decide) (wG hW hthis) (fun _ => rfl) ?_
  refine V_lload_n 4 1 rfl rfl rfl ?_
  obtain ⟨hin, h⟩ := h
  refine V_last 5 rfl (wG_a1 hW hthis) hin ?_
  refine V_nm (fun σ1 eσ1 => ?_)
  replace h := h σ1 eσ1
  have hW := wire_L eσ1 hW
  refine V_pc 10 rfl ?_
  refine V_aload_n 6 0 rfl rfl rfl ?_
  refine V_getR 7 2 rfl clX0 flX0_15 (by decide) (wG hW hthis) (fun _ => rfl) (wG_f2 hW hthis) ?_
  refine V_aload_n 8 0 rfl rfl rfl ?_
  refine V_get (v := .int (σ1.2.1 this 0)) 9 0 rfl clX0 flX0_65 (by decide) (wG hW hthis) (fun _ => rfl) ?_
  refine V_iconst 10 (v := (0 : Int32)) rfl (by decide) ?_
  obtain ⟨hin, h⟩ := h
  refine V_iast 11 rfl (wG_a2 hW hthis) hin ?_
  refine V_nm (fun σ2 eσ2 => ?_)
  replace h := h σ2 eσ2
  have hW := wire_I eσ2 hW
  refine V_pc 20 rfl ?_
  refine V_aload_n 12 0 rfl rfl rfl ?_
  refine V_getR 13 3 rfl clX0 flX0_19 (by decide) (wG hW hthis) (fun _ => rfl) (wG_f3 hW hthis) ?_
  refine V_aload_n 14 0 rfl rfl rfl ?_
  refine V_get (v := .int (σ2.2.1 this 0)) 15 0 rfl clX0 flX0_65 (by decide) (wG hW hthis) (fun _ => rfl) ?_
  refine V_iconst 16 (v := (0 : Int32)) rfl (by decide) ?_
  obtain ⟨hin, h⟩ := h
  refine V_iast 17 rfl (wG_a3 hW hthis) hin ?_
  refine V_nm (fun σ3 eσ3 => ?_)
  replace h := h σ3 eσ3
  have hW := wire_I eσ3 hW
  refine V_pc 30 rfl ?_
  refine V_aload_n 18 0 rfl rfl rfl ?_
  refine V_dup 19 rfl rfl ?_
  refine V_get (v := .int (σ3.2.1 this 0)) 20 0 rfl clX0 flX0_65 (by decide) (wG hW hthis) (fun _ => rfl) ?_
  refine V_iconst 21 (v := (1 : Int32)) rfl (by decide) ?_
  refine V_iadd 22 rfl ?_
  refine V_putI 23 0 rfl clX0 flX0_65 (by decide) (wG hW hthis) rfl (fun _ _ => rfl) rfl rfl ?_
  refine V_nm (fun σ4 eσ4 => ?_)
  replace h := h σ4 eσ4
  have hW := wire_I eσ4 hW
  exact V_vret 24 rfl rfl ⟨hW, rfl, h⟩

def wX0_addAttribute_j39 (this : Nat) (a0 : Int32) (a1 : Int64) (a2 : Int32) (Q : ab_S → Prop) (E : String → ab_S → Prop) (x5 : Int32) (σ : ab_S) : Prop := vp_in a0 12 ∧ (∀ σ1 : ab_S, σ1 = ab_I σ (this + 2) a0.toNatClampNeg (x5 + (1 : Int32)) → Q σ1)
def wX0_addAttribute (this : Nat) (a0 : Int32) (a1 : Int64) (a2 : Int32) (Q : ab_S → Prop) (E : String → ab_S → Prop) (σ : ab_S) : Prop := vp_in a0 12 ∧ (∀ v2 : Int32, v2 = (σ.2.1 (this + 2) a0.toNatClampNeg) → vp_in ((a0 * (8 : Int32)) + v2) 96 ∧ (∀ σ3 : ab_S, σ3 = ab_L σ (this + 4) ((a0 * (8 : Int32)) + v2).toNatClampNeg a1 → ((a2 = 0) → wX0_addAttribute_j39 this a0 a1 a2 Q E v2 σ3) ∧ (¬ (a2 = 0) → vp_in a0 12 ∧ (vp_in a0 12 ∧ (∀ σ4 : ab_S, σ4 = ab_I σ3 (this + 3) a0.toNatClampNeg ((σ3.2.1 (this + 3) a0.toNatClampNeg) ||| ((1 : Int32) <<< (v2 &&& 31))) → wX0_addAttribute_j39 this a0 a1 a2 Q E v2 σ4)))))
set_option maxHeartbeats 4000000 in
set_option maxRecDepth 100000 in
theorem ceX0_addAttribute {l : Launch} (hl : l.stackTraces = false) (B : Nat) {this : Nat} {a0 : Int32} {a1 : Int64} {a2 : Int32} (hthis : isG this) {Q : ab_S → Prop} {E : String → ab_S → Prop} {σ : ab_S} (hW : Wire σ) (h : wX0_addAttribute this a0 a1 a2 Q E σ) : ab_Mt l yX0_addAttribute mdX0_addAttribute B 0 0 0 0 [.ref this, .int a0, .long a1, .int a2] σ (fun v σ' => Wire σ' ∧ v = none ∧ Q σ') (fun X σ' => Wire σ' ∧ E X σ') := by
  refine V_met hl ⟨rfl, rfl, by decide⟩ rfl dkX0_addAttribute (Nat.le_of_ble_eq_true rfl) ?_
  show V l mdX0_addAttribute B 0 0 0 0 (ab_End _ _) 0 [(0, .ref this), (1, .int a0), (2, .long a1), (4, .int a2)] [] σ
  revert h hW
  revert σ
  have k_j39 : ∀ (x5 : Int32)  (σ : ab_S), Wire σ → wX0_addAttribute_j39 this a0 a1 a2 Q E x5 σ → V l mdX0_addAttribute B 0 0 0 0 (ab_End (fun v σ' => Wire σ' ∧ v = none ∧ Q σ') (fun X σ' => Wire σ' ∧ E X σ')) 39 [(0, .ref this), (1, .int a0), (5, .int x5)] [] σ := by
    intro x5  σ hW h
    refine V_aload_n 26 0 rfl rfl rfl ?_
    refine V_getR 27 2 rfl clX0 flX0_15 (by decide) (wG hW hthis) (fun _ => rfl) (wG_f2 hW hthis) ?_
    refine V_iload_n 28 1 rfl rfl rfl ?_
    refine V_iload 29 2 rfl rfl ?_
    refine V_iconst 30 (v := (1 : Int32)) rfl (by decide) ?_
    refine V_iadd 31 rfl ?_
    refine V_pc 48 rfl ?_
    obtain ⟨hin, h⟩ := h
    refine V_iast 32 rfl (wG_a2 hW hthis) hin ?_
    refine V_nm (fun σ1 eσ1 => ?_)
    replace h := h σ1 eσ1
    have hW := wire_I eσ1 hW
    exact V_vret 33 rfl rfl ⟨hW, rfl, h⟩
  intro σ hW h
  refine V_aload_n 0 0 rfl rfl rfl ?_
  refine V_getR 1 2 rfl clX0 flX0_15 (by decide) (wG hW hthis) (fun _ => rfl) (wG_f2 hW hthis) ?_
  refine V_iload_n 2 1 rfl rfl rfl ?_
  obtain ⟨hin, h⟩ := h
  refine V_iald 3 rfl (wG_a2 hW hthis) hin ?_
  refine V_topi (fun v2 ev2 => ?_)
  replace h := h v2 ev2
  refine V_istore 4 (lv' := [(5, .int v2), (0, .ref this), (1, .int a0), (2, .long a1), (4, .int a2)]) rfl (by decide) rfl ?_
  refine V_aload_n 5 1 rfl rfl rfl ?_
  refine V_pc 9 rfl ?_
  refine V_getR 6 4 rfl clX0 flX0_22 (by decide) (wG hW hthis) (fun _ => rfl) (wG_f4 hW hthis) ?_
  refine V_iload_n 7 2 rfl rfl rfl ?_
  refine V_bipush 8 (v := (8 : Int32)) rfl (by decide) ?_
  refine V_imul 9 rfl ?_
  refine V_iload 10 0 rfl rfl ?_
  refine V_iadd 11 rfl ?_
  refine V_pc 19 rfl ?_
  refine V_lload_n 12 3 rfl rfl rfl ?_
  obtain ⟨hin, h⟩ := h
  refine V_last 13 rfl (wG_a4 hW hthis) hin ?_
  refine V_nm (fun σ3 eσ3 => ?_)
  replace h := h σ3 eσ3
  have hW := wire_L eσ3 hW
  refine V_iload 14 4 rfl rfl ?_
  refine V_if_eq 15 (tgt := 39) rfl (by decide) (fun hc => ?_) (fun hc => ?_)
  · replace h := h.1 hc
    refine V_sub [1, 2, 0] (lv' := [(0, .ref this), (1, .int a0), (5, .int v2)]) rfl ?_
    exact k_j39 v2 σ3 hW h
  · replace h := h.2 hc
    refine V_pc 26 rfl ?_
    refine V_aload_n 16 1 rfl rfl rfl ?_
    refine V_getR 17 3 rfl clX0 flX0_19 (by decide) (wG hW hthis) (fun _ => rfl) (wG_f3 hW hthis) ?_
    refine V_iload_n 18 2 rfl rfl rfl ?_
    refine V_dup2 19 rfl rfl rfl ?_
    obtain ⟨hin, h⟩ := h
    refine V_iald 20 rfl (wG_a3 hW hthis) hin ?_
    refine V_iconst 21 (v := (1 : Int32)) rfl (by decide) ?_
    refine V_pc 34 rfl ?_
    refine V_iload 22 0 rfl rfl ?_
    refine V_ishl 23 rfl ?_
    refine V_ior 24 rfl ?_
    obtain ⟨hin, h⟩ := h
    refine V_iast 25 rfl (wG_a3 hW hthis) hin ?_
    refine V_nm (fun σ4 eσ4 => ?_)
    replace h := h σ4 eσ4
    have hW := wire_I eσ4 hW
    refine V_sub [1, 2, 0] (lv' := [(0, .ref this), (1, .int a0), (5, .int v2)]) rfl ?_
    exact k_j39 v2 σ4 hW h

def wX0_emit_j40 (this : Nat) (a0 : Int32) (a1 : Int32) (Q : Int32 → ab_S → Prop) (E : String → ab_S → Prop)  (σ : ab_S) : Prop := Q ((σ.2.1 this 14) - (1 : Int32)) σ
def wX0_emit (this : Nat) (a0 : Int32) (a1 : Int32) (Q : Int32 → ab_S → Prop) (E : String → ab_S → Prop) (σ : ab_S) : Prop := (((2400 : Int32) ≤ (σ.2.1 this 14)) → wX0_emit_j40 this a0 a1 Q E σ) ∧ (¬ ((2400 : Int32) ≤ (σ.2.1 this 14)) → vp_in (σ.2.1 this 14) 2400 ∧ (∀ σ1 : ab_S, σ1 = ab_I σ (this + 13) (σ.2.1 this 14).toNatClampNeg a0 → vp_in (σ1.2.1 this 14) 2400 ∧ (∀ σ2 : ab_S, σ2 = ab_I σ1 (this + 14) (σ1.2.1 this 14).toNatClampNeg a1 → (∀ σ3 : ab_S, σ3 = ab_I σ2 this 14 ((σ2.2.1 this 14) + (1 : Int32)) → wX0_emit_j40 this a0 a1 Q E σ3))))
set_option maxHeartbeats 4000000 in
set_option maxRecDepth 100000 in
theorem ceX0_emit {l : Launch} (hl : l.stackTraces = false) (B : Nat) {this : Nat} {a0 : Int32} {a1 : Int32} (hthis : isG this) {Q : Int32 → ab_S → Prop} {E : String → ab_S → Prop} {σ : ab_S} (hW : Wire σ) (h : wX0_emit this a0 a1 Q E σ) : ab_Mt l yX0_emit mdX0_emit B 0 0 0 0 [.ref this, .int a0, .int a1] σ (fun v σ' => Wire σ' ∧ ∃ r : Int32, v = some (.int r) ∧ Q r σ') (fun X σ' => Wire σ' ∧ E X σ') := by
  refine V_met hl ⟨rfl, rfl, by decide⟩ rfl dkX0_emit (Nat.le_of_ble_eq_true rfl) ?_
  show V l mdX0_emit B 0 0 0 0 (ab_End _ _) 0 [(0, .ref this), (1, .int a0), (2, .int a1)] [] σ
  revert h hW
  revert σ
  have k_j40 : ∀   (σ : ab_S), Wire σ → wX0_emit_j40 this a0 a1 Q E  σ → V l mdX0_emit B 0 0 0 0 (ab_End (fun v σ' => Wire σ' ∧ ∃ r : Int32, v = some (.int r) ∧ Q r σ') (fun X σ' => Wire σ' ∧ E X σ')) 40 [(0, .ref this)] [] σ := by
    intro   σ hW h
    refine V_aload_n 22 0 rfl rfl rfl ?_
    refine V_get (v := .int (σ.2.1 this 14)) 23 14 rfl clX0 flX0_72 (by decide) (wG hW hthis) (fun _ => rfl) ?_
    refine V_iconst 24 (v := (1 : Int32)) rfl (by decide) ?_
    refine V_isub 25 rfl ?_
    exact V_iret 26 rfl rfl ⟨hW, _, rfl, h⟩
  intro σ hW h
  refine V_aload_n 0 0 rfl rfl rfl ?_
  refine V_get (v := .int (σ.2.1 this 14)) 1 14 rfl clX0 flX0_72 (by decide) (wG hW hthis) (fun _ => rfl) ?_
  refine V_sipush 2 (v := (2400 : Int32)) rfl (by decide) ?_
  refine V_icmp_ge 3 (tgt := 40) rfl (by decide) (fun hc => ?_) (fun hc => ?_)
  · replace h := h.1 hc
    refine V_sub [0] (lv' := [(0, .ref this)]) rfl ?_
    exact k_j40 σ hW h
  · replace h := h.2 hc
    refine V_pc 10 rfl ?_
    refine V_aload_n 4 0 rfl rfl rfl ?_
    refine V_getR 5 15 rfl clX0 flX0_50 (by decide) (wG hW hthis) (fun _ => rfl) (wG_f15 hW hthis) ?_
    refine V_aload_n 6 0 rfl rfl rfl ?_
    refine V_get (v := .int (σ.2.1 this 14)) 7 14 rfl clX0 flX0_72 (by decide) (wG hW hthis) (fun _ => rfl) ?_
    refine V_iload_n 8 1 rfl rfl rfl ?_
    obtain ⟨hin, h⟩ := h
    refine V_iast 9 rfl (wG_a13 hW hthis) hin ?_
    refine V_nm (fun σ1 eσ1 => ?_)
    replace h := h σ1 eσ1
    have hW := wire_I eσ1 hW
    refine V_pc 20 rfl ?_
    refine V_aload_n 10 0 rfl rfl rfl ?_
    refine V_getR 11 16 rfl clX0 flX0_53 (by decide) (wG hW hthis) (fun _ => rfl) (wG_f16 hW hthis) ?_
    refine V_aload_n 12 0 rfl rfl rfl ?_
    refine V_get (v := .int (σ1.2.1 this 14)) 13 14 rfl clX0 flX0_72 (by decide) (wG hW hthis) (fun _ => rfl) ?_
    refine V_iload_n 14 2 rfl rfl rfl ?_
    obtain ⟨hin, h⟩ := h
    refine V_iast 15 rfl (wG_a14 hW hthis) hin ?_
    refine V_nm (fun σ2 eσ2 => ?_)
    replace h := h σ2 eσ2
    have hW := wire_I eσ2 hW
    refine V_pc 30 rfl ?_
    refine V_aload_n 16 0 rfl rfl rfl ?_
    refine V_dup 17 rfl rfl ?_
    refine V_get (v := .int (σ2.2.1 this 14)) 18 14 rfl clX0 flX0_72 (by decide) (wG hW hthis) (fun _ => rfl) ?_
    refine V_iconst 19 (v := (1 : Int32)) rfl (by decide) ?_
    refine V_iadd 20 rfl ?_
    refine V_putI 21 14 rfl clX0 flX0_72 (by decide) (wG hW hthis) rfl (fun _ _ => rfl) rfl rfl ?_
    refine V_nm (fun σ3 eσ3 => ?_)
    replace h := h σ3 eσ3
    have hW := wire_I eσ3 hW
    refine V_sub [0] (lv' := [(0, .ref this)]) rfl ?_
    exact k_j40 σ3 hW h

def wX0_findSymbol_l2_b (this : Nat) (a0 : Int64) (Q : Int32 → ab_S → Prop) (E : String → ab_S → Prop) (Bk : Int32 → ab_S → Prop) (x3 : Int32) (σ : ab_S) : Prop := (((σ.2.1 this 0) ≤ x3) → Q (-1 : Int32) σ) ∧ (¬ ((σ.2.1 this 0) ≤ x3) → vp_in x3 12 ∧ (((¬ (lg_cmp (σ.2.2.1 (this + 1) x3.toNatClampNeg) a0) = 0) → ∀ v1 : Int32, v1 = (x3 + 1) → Bk v1 σ) ∧ (¬ (¬ (lg_cmp (σ.2.2.1 (this + 1) x3.toNatClampNeg) a0) = 0) → Q x3 σ)))
def wX0_findSymbol_l2 (this : Nat) (a0 : Int64) (Q : Int32 → ab_S → Prop) (E : String → ab_S → Prop) : Nat → Int32 → ab_S → Prop
  | 0, _, _ => False
  | n + 1, x3, σ => wX0_findSymbol_l2_b this a0 Q E (wX0_findSymbol_l2 this a0 Q E n) x3 σ
def wX0_findSymbol (this : Nat) (a0 : Int64) (Q : Int32 → ab_S → Prop) (E : String → ab_S → Prop) (σ : ab_S) : Prop := ∃ n, wX0_findSymbol_l2 this a0 Q E n (0 : Int32) σ
set_option maxHeartbeats 4000000 in
set_option maxRecDepth 100000 in
theorem ceX0_findSymbol {l : Launch} (hl : l.stackTraces = false) (B : Nat) {this : Nat} {a0 : Int64} (hthis : isG this) {Q : Int32 → ab_S → Prop} {E : String → ab_S → Prop} {σ : ab_S} (hW : Wire σ) (h : wX0_findSymbol this a0 Q E σ) : ab_Mt l yX0_findSymbol mdX0_findSymbol B 0 0 0 0 [.ref this, .long a0] σ (fun v σ' => Wire σ' ∧ ∃ r : Int32, v = some (.int r) ∧ Q r σ') (fun X σ' => Wire σ' ∧ E X σ') := by
  refine V_met hl ⟨rfl, rfl, by decide⟩ rfl dkX0_findSymbol (Nat.le_of_ble_eq_true rfl) ?_
  show V l mdX0_findSymbol B 0 0 0 0 (ab_End _ _) 0 [(0, .ref this), (1, .long a0)] [] σ
  revert h hW
  revert σ
  have k_l2 : ∀ (n : Nat) (x3 : Int32)  (σ : ab_S), Wire σ → wX0_findSymbol_l2 this a0 Q E n x3 σ → V l mdX0_findSymbol B 0 0 0 0 (ab_End (fun v σ' => Wire σ' ∧ ∃ r : Int32, v = some (.int r) ∧ Q r σ') (fun X σ' => Wire σ' ∧ E X σ')) 2 [(0, .ref this), (1, .long a0), (3, .int x3)] [] σ := by
    have step : ∀ (Bk : Int32 → ab_S → Prop) (k_Bk : ∀ (x3 : Int32)  (σ : ab_S), Wire σ → Bk x3 σ → V l mdX0_findSymbol B 0 0 0 0 (ab_End (fun v σ' => Wire σ' ∧ ∃ r : Int32, v = some (.int r) ∧ Q r σ') (fun X σ' => Wire σ' ∧ E X σ')) 2 [(0, .ref this), (1, .long a0), (3, .int x3)] [] σ), ∀ (x3 : Int32)  (σ : ab_S), Wire σ → wX0_findSymbol_l2_b this a0 Q E Bk x3 σ → V l mdX0_findSymbol B 0 0 0 0 (ab_End (fun v σ' => Wire σ' ∧ ∃ r : Int32, v = some (.int r) ∧ Q r σ') (fun X σ' => Wire σ' ∧ E X σ')) 2 [(0, .ref this), (1, .long a0), (3, .int x3)] [] σ := by
      intro Bk k_Bk
      intro x3  σ hW h
      refine V_iload_n 2 2 rfl rfl rfl ?_
      refine V_aload_n 3 0 rfl rfl rfl ?_
      refine V_get (v := .int (σ.2.1 this 0)) 4 0 rfl clX0 flX0_65 (by decide) (wG hW hthis) (fun _ => rfl) ?_
      refine V_icmp_ge 5 (tgt := 29) rfl (by decide) (fun hc => ?_) (fun hc => ?_)
      · replace h := h.1 hc
        refine V_iconst 17 (v := (-1 : Int32)) rfl (by decide) ?_
        exact V_iret 18 rfl rfl ⟨hW, _, rfl, h⟩
      · replace h := h.2 hc
        refine V_pc 10 rfl ?_
        refine V_aload_n 6 0 rfl rfl rfl ?_
        refine V_getR 7 1 rfl clX0 flX0_9 (by decide) (wG hW hthis) (fun _ => rfl) (wG_f1 hW hthis) ?_
        refine V_iload_n 8 2 rfl rfl rfl ?_
        obtain ⟨hin, h⟩ := h
        refine V_lald 9 rfl (wG_a1 hW hthis) hin ?_
        refine V_lload_n 10 1 rfl rfl rfl ?_
        refine V_lcmp 11 rfl ?_
        refine V_pc 18 rfl ?_
        refine V_if_ne 12 (tgt := 23) rfl (by decide) (fun hc => ?_) (fun hc => ?_)
        · replace h := h.1 hc
          obtain ⟨v1, ev1⟩ : ∃ z : Int32, z = (x3 + 1) := ⟨_, rfl⟩
          replace h := h v1 ev1
          refine V_iinc 15 2 (v := v1) (lv' := [(3, .int v1), (0, .ref this), (1, .long a0)]) rfl rfl ((in_1 _).trans ev1.symm) (by decide) rfl ?_
          refine V_goto 16 (tgt := 2) rfl (by decide) ?_
          refine V_sub [1, 2, 0] (lv' := [(0, .ref this), (1, .long a0), (3, .int v1)]) rfl ?_
          exact k_Bk v1  σ hW h
        · replace h := h.2 hc
          refine V_pc 21 rfl ?_
          refine V_iload_n 13 2 rfl rfl rfl ?_
          exact V_iret 14 rfl rfl ⟨hW, _, rfl, h⟩
    intro n
    induction n with
    | zero => intro x3  σ hW h; exact absurd h id
    | succ n ih => exact step  _ ih
  intro σ hW h
  refine V_iconst 0 (v := (0 : Int32)) rfl (by decide) ?_
  refine V_istore_n 1 (lv' := [(3, .int (0 : Int32)), (0, .ref this), (1, .long a0)]) rfl rfl (by decide) rfl ?_
  refine V_sub [1, 2, 0] (lv' := [(0, .ref this), (1, .long a0), (3, .int (0 : Int32))]) rfl ?_
  obtain ⟨n, h⟩ := h
  exact k_l2 n (0 : Int32) σ hW h

def wX0_findProduction_l2_b (this : Nat) (a0 : Int64) (Q : Int32 → ab_S → Prop) (E : String → ab_S → Prop) (Bk : Int32 → ab_S → Prop) (x3 : Int32) (σ : ab_S) : Prop := (((σ.2.1 this 5) ≤ x3) → Q (-1 : Int32) σ) ∧ (¬ ((σ.2.1 this 5) ≤ x3) → vp_in x3 30 ∧ (((¬ (lg_cmp (σ.2.2.1 (this + 5) x3.toNatClampNeg) a0) = 0) → ∀ v1 : Int32, v1 = (x3 + 1) → Bk v1 σ) ∧ (¬ (¬ (lg_cmp (σ.2.2.1 (this + 5) x3.toNatClampNeg) a0) = 0) → Q x3 σ)))
def wX0_findProduction_l2 (this : Nat) (a0 : Int64) (Q : Int32 → ab_S → Prop) (E : String → ab_S → Prop) : Nat → Int32 → ab_S → Prop
  | 0, _, _ => False
  | n + 1, x3, σ => wX0_findProduction_l2_b this a0 Q E (wX0_findProduction_l2 this a0 Q E n) x3 σ
def wX0_findProduction (this : Nat) (a0 : Int64) (Q : Int32 → ab_S → Prop) (E : String → ab_S → Prop) (σ : ab_S) : Prop := ∃ n, wX0_findProduction_l2 this a0 Q E n (0 : Int32) σ
set_option maxHeartbeats 4000000 in
set_option maxRecDepth 100000 in
theorem ceX0_findProduction {l : Launch} (hl : l.stackTraces = false) (B : Nat) {this : Nat} {a0 : Int64} (hthis : isG this) {Q : Int32 → ab_S → Prop} {E : String → ab_S → Prop} {σ : ab_S} (hW : Wire σ) (h : wX0_findProduction this a0 Q E σ) : ab_Mt l yX0_findProduction mdX0_findProduction B 0 0 0 0 [.ref this, .long a0] σ (fun v σ' => Wire σ' ∧ ∃ r : Int32, v = some (.int r) ∧ Q r σ') (fun X σ' => Wire σ' ∧ E X σ') := by
  refine V_met hl ⟨rfl, rfl, by decide⟩ rfl dkX0_findProduction (Nat.le_of_ble_eq_true rfl) ?_
  show V l mdX0_findProduction B 0 0 0 0 (ab_End _ _) 0 [(0, .ref this), (1, .long a0)] [] σ
  revert h hW
  revert σ
  have k_l2 : ∀ (n : Nat) (x3 : Int32)  (σ : ab_S), Wire σ → wX0_findProduction_l2 this a0 Q E n x3 σ → V l mdX0_findProduction B 0 0 0 0 (ab_End (fun v σ' => Wire σ' ∧ ∃ r : Int32, v = some (.int r) ∧ Q r σ') (fun X σ' => Wire σ' ∧ E X σ')) 2 [(0, .ref this), (1, .long a0), (3, .int x3)] [] σ := by
    have step : ∀ (Bk : Int32 → ab_S → Prop) (k_Bk : ∀ (x3 : Int32)  (σ : ab_S), Wire σ → Bk x3 σ → V l mdX0_findProduction B 0 0 0 0 (ab_End (fun v σ' => Wire σ' ∧ ∃ r : Int32, v = some (.int r) ∧ Q r σ') (fun X σ' => Wire σ' ∧ E X σ')) 2 [(0, .ref this), (1, .long a0), (3, .int x3)] [] σ), ∀ (x3 : Int32)  (σ : ab_S), Wire σ → wX0_findProduction_l2_b this a0 Q E Bk x3 σ → V l mdX0_findProduction B 0 0 0 0 (ab_End (fun v σ' => Wire σ' ∧ ∃ r : Int32, v = some (.int r) ∧ Q r σ') (fun X σ' => Wire σ' ∧ E X σ')) 2 [(0, .ref this), (1, .long a0), (3, .int x3)] [] σ := by
      intro Bk k_Bk
      intro x3  σ hW h
      refine V_iload_n 2 2 rfl rfl rfl ?_
      refine V_aload_n 3 0 rfl rfl rfl ?_
      refine V_get (v := .int (σ.2.1 this 5)) 4 5 rfl clX0 flX0_69 (by decide) (wG hW hthis) (fun _ => rfl) ?_
      refine V_icmp_ge 5 (tgt := 29) rfl (by decide) (fun hc => ?_) (fun hc => ?_)
      · replace h := h.1 hc
        refine V_iconst 17 (v := (-1 : Int32)) rfl (by decide) ?_
        exact V_iret 18 rfl rfl ⟨hW, _, rfl, h⟩
      · replace h := h.2 hc
        refine V_pc 10 rfl ?_
        refine V_aload_n 6 0 rfl rfl rfl ?_
        refine V_getR 7 6 rfl clX0 flX0_25 (by decide) (wG hW hthis) (fun _ => rfl) (wG_f6 hW hthis) ?_
        refine V_iload_n 8 2 rfl rfl rfl ?_
        obtain ⟨hin, h⟩ := h
        refine V_lald 9 rfl (wG_a5 hW hthis) hin ?_
        refine V_lload_n 10 1 rfl rfl rfl ?_
        refine V_lcmp 11 rfl ?_
        refine V_pc 18 rfl ?_
        refine V_if_ne 12 (tgt := 23) rfl (by decide) (fun hc => ?_) (fun hc => ?_)
        · replace h := h.1 hc
          obtain ⟨v1, ev1⟩ : ∃ z : Int32, z = (x3 + 1) := ⟨_, rfl⟩
          replace h := h v1 ev1
          refine V_iinc 15 2 (v := v1) (lv' := [(3, .int v1), (0, .ref this), (1, .long a0)]) rfl rfl ((in_1 _).trans ev1.symm) (by decide) rfl ?_
          refine V_goto 16 (tgt := 2) rfl (by decide) ?_
          refine V_sub [1, 2, 0] (lv' := [(0, .ref this), (1, .long a0), (3, .int v1)]) rfl ?_
          exact k_Bk v1  σ hW h
        · replace h := h.2 hc
          refine V_pc 21 rfl ?_
          refine V_iload_n 13 2 rfl rfl rfl ?_
          exact V_iret 14 rfl rfl ⟨hW, _, rfl, h⟩
    intro n
    induction n with
    | zero => intro x3  σ hW h; exact absurd h id
    | succ n ih => exact step  _ ih
  intro σ hW h
  refine V_iconst 0 (v := (0 : Int32)) rfl (by decide) ?_
  refine V_istore_n 1 (lv' := [(3, .int (0 : Int32)), (0, .ref this), (1, .long a0)]) rfl rfl (by decide) rfl ?_
  refine V_sub [1, 2, 0] (lv' := [(0, .ref this), (1, .long a0), (3, .int (0 : Int32))]) rfl ?_
  obtain ⟨n, h⟩ := h
  exact k_l2 n (0 : Int32) σ hW h

def wX0_findAttribute_l3_b (this : Nat) (a0 : Int32) (a1 : Int64) (Q : Int32 → ab_S → Prop) (E : String → ab_S → Prop) (Bk : Int32 → ab_S → Prop) (x4 : Int32) (σ : ab_S) : Prop := vp_in a0 12 ∧ ((((σ.2.1 (this + 2) a0.toNatClampNeg) ≤ x4) → Q (-1 : Int32) σ) ∧ (¬ ((σ.2.1 (this + 2) a0.toNatClampNeg) ≤ x4) → vp_in ((a0 * (8 : Int32)) + x4) 96 ∧ (((¬ (lg_cmp (σ.2.2.1 (this + 4) ((a0 * (8 : Int32)) + x4).toNatClampNeg) a1) = 0) → ∀ v1 : Int32, v1 = (x4 + 1) → Bk v1 σ) ∧ (¬ (¬ (lg_cmp (σ.2.2.1 (this + 4) ((a0 * (8 : Int32)) + x4).toNatClampNeg) a1) = 0) → Q x4 σ))))
def wX0_findAttribute_l3 (this : Nat) (a0 : Int32) (a1 : Int64) (Q : Int32 → ab_S → Prop) (E : String → ab_S → Prop) : Nat → Int32 → ab_S → Prop
  | 0, _, _ => False
  | n + 1, x4, σ => wX0_findAttribute_l3_b this a0 a1 Q E (wX0_findAttribute_l3 this a0 a1 Q E n) x4 σ
def wX0_findAttribute (this : Nat) (a0 : Int32) (a1 : Int64) (Q : Int32 → ab_S → Prop) (E : String → ab_S → Prop) (σ : ab_S) : Prop := ∃ n, wX0_findAttribute_l3 this a0 a1 Q E n (0 : Int32) σ
set_option maxHeartbeats 4000000 in
set_option maxRecDepth 100000 in
theorem ceX0_findAttribute {l : Launch} (hl : l.stackTraces = false) (B : Nat) {this : Nat} {a0 : Int32} {a1 : Int64} (hthis : isG this) {Q : Int32 → ab_S → Prop} {E : String → ab_S → Prop} {σ : ab_S} (hW : Wire σ) (h : wX0_findAttribute this a0 a1 Q E σ) : ab_Mt l yX0_findAttribute mdX0_findAttribute B 0 0 0 0 [.ref this, .int a0, .long a1] σ (fun v σ' => Wire σ' ∧ ∃ r : Int32, v = some (.int r) ∧ Q r σ') (fun X σ' => Wire σ' ∧ E X σ') := by
  refine V_met hl ⟨rfl, rfl, by decide⟩ rfl dkX0_findAttribute (Nat.le_of_ble_eq_true rfl) ?_
  show V l mdX0_findAttribute B 0 0 0 0 (ab_End _ _) 0 [(0, .ref this), (1, .int a0), (2, .long a1)] [] σ
  revert h hW
  revert σ
  have k_l3 : ∀ (n : Nat) (x4 : Int32)  (σ : ab_S), Wire σ → wX0_findAttribute_l3 this a0 a1 Q E n x4 σ → V l mdX0_findAttribute B 0 0 0 0 (ab_End (fun v σ' => Wire σ' ∧ ∃ r : Int32, v = some (.int r) ∧ Q r σ') (fun X σ' => Wire σ' ∧ E X σ')) 3 [(0, .ref this), (1, .int a0), (2, .long a1), (4, .int x4)] [] σ := by
    have step : ∀ (Bk : Int32 → ab_S → Prop) (k_Bk : ∀ (x4 : Int32)  (σ : ab_S), Wire σ → Bk x4 σ → V l mdX0_findAttribute B 0 0 0 0 (ab_End (fun v σ' => Wire σ' ∧ ∃ r : Int32, v = some (.int r) ∧ Q r σ') (fun X σ' => Wire σ' ∧ E X σ')) 3 [(0, .ref this), (1, .int a0), (2, .long a1), (4, .int x4)] [] σ), ∀ (x4 : Int32)  (σ : ab_S), Wire σ → wX0_findAttribute_l3_b this a0 a1 Q E Bk x4 σ → V l mdX0_findAttribute B 0 0 0 0 (ab_End (fun v σ' => Wire σ' ∧ ∃ r : Int32, v = some (.int r) ∧ Q r σ') (fun X σ' => Wire σ' ∧ E X σ')) 3 [(0, .ref this), (1, .int a0), (2, .long a1), (4, .int x4)] [] σ := by
      intro Bk k_Bk
      intro x4  σ hW h
      refine V_iload 2 3 rfl rfl ?_
      refine V_aload_n 3 0 rfl rfl rfl ?_
      refine V_getR 4 2 rfl clX0 flX0_15 (by decide) (wG hW hthis) (fun _ => rfl) (wG_f2 hW hthis) ?_
      refine V_iload_n 5 1 rfl rfl rfl ?_
      obtain ⟨hin, h⟩ := h
      refine V_iald 6 rfl (wG_a2 hW hthis) hin ?_
      refine V_icmp_ge 7 (tgt := 40) rfl (by decide) (fun hc => ?_) (fun hc => ?_)
      · replace h := h.1 hc
        refine V_iconst 23 (v := (-1 : Int32)) rfl (by decide) ?_
        exact V_iret 24 rfl rfl ⟨hW, _, rfl, h⟩
      · replace h := h.2 hc
        refine V_pc 14 rfl ?_
        refine V_aload_n 8 0 rfl rfl rfl ?_
        refine V_getR 9 4 rfl clX0 flX0_22 (by decide) (wG hW hthis) (fun _ => rfl) (wG_f4 hW hthis) ?_
        refine V_iload_n 10 1 rfl rfl rfl ?_
        refine V_bipush 11 (v := (8 : Int32)) rfl (by decide) ?_
        refine V_imul 12 rfl ?_
        refine V_iload 13 3 rfl rfl ?_
        refine V_pc 24 rfl ?_
        refine V_iadd 14 rfl ?_
        obtain ⟨hin, h⟩ := h
        refine V_lald 15 rfl (wG_a4 hW hthis) hin ?_
        refine V_lload_n 16 2 rfl rfl rfl ?_
        refine V_lcmp 17 rfl ?_
        refine V_if_ne 18 (tgt := 34) rfl (by decide) (fun hc => ?_) (fun hc => ?_)
        · replace h := h.1 hc
          obtain ⟨v1, ev1⟩ : ∃ z : Int32, z = (x4 + 1) := ⟨_, rfl⟩
          replace h := h v1 ev1
          refine V_iinc 21 3 (v := v1) (lv' := [(4, .int v1), (0, .ref this), (1, .int a0), (2, .long a1)]) rfl rfl ((in_1 _).trans ev1.symm) (by decide) rfl ?_
          refine V_goto 22 (tgt := 3) rfl (by decide) ?_
          refine V_sub [1, 2, 3, 0] (lv' := [(0, .ref this), (1, .int a0), (2, .long a1), (4, .int v1)]) rfl ?_
          exact k_Bk v1  σ hW h
        · replace h := h.2 hc
          refine V_pc 31 rfl ?_
          refine V_iload 19 3 rfl rfl ?_
          exact V_iret 20 rfl rfl ⟨hW, _, rfl, h⟩
    intro n
    induction n with
    | zero => intro x4  σ hW h; exact absurd h id
    | succ n ih => exact step  _ ih
  intro σ hW h
  refine V_iconst 0 (v := (0 : Int32)) rfl (by decide) ?_
  refine V_istore 1 (lv' := [(4, .int (0 : Int32)), (0, .ref this), (1, .int a0), (2, .long a1)]) rfl (by decide) rfl ?_
  refine V_sub [1, 2, 3, 0] (lv' := [(0, .ref this), (1, .int a0), (2, .long a1), (4, .int (0 : Int32))]) rfl ?_
  obtain ⟨n, h⟩ := h
  exact k_l3 n (0 : Int32) σ hW h

def wX0_symbolAt (this : Nat) (a0 : Int32) (a1 : Int32) (Q : Int32 → ab_S → Prop) (E : String → ab_S → Prop) (σ : ab_S) : Prop := vp_in ((a0 * (4 : Int32)) + a1) 120 ∧ (Q (σ.2.1 (this + 7) ((a0 * (4 : Int32)) + a1).toNatClampNeg) σ)
set_option maxHeartbeats 4000000 in
set_option maxRecDepth 100000 in
theorem ceX0_symbolAt {l : Launch} (hl : l.stackTraces = false) (B : Nat) {this : Nat} {a0 : Int32} {a1 : Int32} (hthis : isG this) {Q : Int32 → ab_S → Prop} {E : String → ab_S → Prop} {σ : ab_S} (hW : Wire σ) (h : wX0_symbolAt this a0 a1 Q E σ) : ab_Mt l yX0_symbolAt mdX0_symbolAt B 0 0 0 0 [.ref this, .int a0, .int a1] σ (fun v σ' => Wire σ' ∧ ∃ r : Int32, v = some (.int r) ∧ Q r σ') (fun X σ' => Wire σ' ∧ E X σ') := by
  refine V_met hl ⟨rfl, rfl, by decide⟩ rfl dkX0_symbolAt (Nat.le_of_ble_eq_true rfl) ?_
  show V l mdX0_symbolAt B 0 0 0 0 (ab_End _ _) 0 [(0, .ref this), (1, .int a0), (2, .int a1)] [] σ
  refine V_aload_n 0 0 rfl rfl rfl ?_
  refine V_getR 1 8 rfl clX0 flX0_31 (by decide) (wG hW hthis) (fun _ => rfl) (wG_f8 hW hthis) ?_
  refine V_iload_n 2 1 rfl rfl rfl ?_
  refine V_iconst 3 (v := (4 : Int32)) rfl (by decide) ?_
  refine V_imul 4 rfl ?_
  refine V_iload_n 5 2 rfl rfl rfl ?_
  refine V_pc 8 rfl ?_
  refine V_iadd 6 rfl ?_
  obtain ⟨hin, h⟩ := h
  refine V_iald 7 rfl (wG_a7 hW hthis) hin ?_
  exact V_iret 8 rfl rfl ⟨hW, _, rfl, h⟩

def wX0_allOf (this : Nat) (a0 : Int32) (Q : Int32 → ab_S → Prop) (E : String → ab_S → Prop) (σ : ab_S) : Prop := vp_in a0 12 ∧ (Q (((1 : Int32) <<< ((σ.2.1 (this + 2) a0.toNatClampNeg) &&& 31)) - (1 : Int32)) σ)
set_option maxHeartbeats 4000000 in
set_option maxRecDepth 100000 in
theorem ceX0_allOf {l : Launch} (hl : l.stackTraces = false) (B : Nat) {this : Nat} {a0 : Int32} (hthis : isG this) {Q : Int32 → ab_S → Prop} {E : String → ab_S → Prop} {σ : ab_S} (hW : Wire σ) (h : wX0_allOf this a0 Q E σ) : ab_Mt l yX0_allOf mdX0_allOf B 0 0 0 0 [.ref this, .int a0] σ (fun v σ' => Wire σ' ∧ ∃ r : Int32, v = some (.int r) ∧ Q r σ') (fun X σ' => Wire σ' ∧ E X σ') := by
  refine V_met hl ⟨rfl, rfl, by decide⟩ rfl dkX0_allOf (Nat.le_of_ble_eq_true rfl) ?_
  show V l mdX0_allOf B 0 0 0 0 (ab_End _ _) 0 [(0, .ref this), (1, .int a0)] [] σ
  refine V_iconst 0 (v := (1 : Int32)) rfl (by decide) ?_
  refine V_aload_n 1 0 rfl rfl rfl ?_
  refine V_getR 2 2 rfl clX0 flX0_15 (by decide) (wG hW hthis) (fun _ => rfl) (wG_f2 hW hthis) ?_
  refine V_iload_n 3 1 rfl rfl rfl ?_
  obtain ⟨hin, h⟩ := h
  refine V_iald 4 rfl (wG_a2 hW hthis) hin ?_
  refine V_ishl 5 rfl ?_
  refine V_pc 8 rfl ?_
  refine V_iconst 6 (v := (1 : Int32)) rfl (by decide) ?_
  refine V_isub 7 rfl ?_
  exact V_iret 8 rfl rfl ⟨hW, _, rfl, h⟩

def wX0_isDown (this : Nat) (a0 : Int32) (a1 : Int32) (Q : Int32 → ab_S → Prop) (E : String → ab_S → Prop) (σ : ab_S) : Prop := vp_in a0 12 ∧ (((((((σ.2.1 (this + 3) a0.toNatClampNeg).toUInt32 >>> (a1.toUInt32 &&& Int32.toUInt32 31)).toInt32) &&& (1 : Int32)) = 0) → Q (0 : Int32) σ) ∧ (¬ (((((σ.2.1 (this + 3) a0.toNatClampNeg).toUInt32 >>> (a1.toUInt32 &&& Int32.toUInt32 31)).toInt32) &&& (1 : Int32)) = 0) → Q (1 : Int32) σ))
set_option maxHeartbeats 4000000 in
set_option maxRecDepth 100000 in
theorem ceX0_isDown {l : Launch} (hl : l.stackTraces = false) (B : Nat) {this : Nat} {a0 : Int32} {a1 : Int32} (hthis : isG this) {Q : Int32 → ab_S → Prop} {E : String → ab_S → Prop} {σ : ab_S} (hW : Wire σ) (h : wX0_isDown this a0 a1 Q E σ) : ab_Mt l yX0_isDown mdX0_isDown B 0 0 0 0 [.ref this, .int a0, .int a1] σ (fun v σ' => Wire σ' ∧ ∃ r : Int32, v = some (.int r) ∧ Q r σ') (fun X σ' => Wire σ' ∧ E X σ') := by
  refine V_met hl ⟨rfl, rfl, by decide⟩ rfl dkX0_isDown (Nat.le_of_ble_eq_true rfl) ?_
  show V l mdX0_isDown B 0 0 0 0 (ab_End _ _) 0 [(0, .ref this), (1, .int a0), (2, .int a1)] [] σ
  refine V_aload_n 0 0 rfl rfl rfl ?_
  refine V_getR 1 3 rfl clX0 flX0_19 (by decide) (wG hW hthis) (fun _ => rfl) (wG_f3 hW hthis) ?_
  refine V_iload_n 2 1 rfl rfl rfl ?_
  obtain ⟨hin, h⟩ := h
  refine V_iald 3 rfl (wG_a3 hW hthis) hin ?_
  refine V_iload_n 4 2 rfl rfl rfl ?_
  refine V_iushr 5 rfl ?_
  refine V_pc 8 rfl ?_
  refine V_iconst 6 (v := (1 : Int32)) rfl (by decide) ?_
  refine V_iand 7 rfl ?_
  refine V_if_eq 8 (tgt := 17) rfl (by decide) (fun hc => ?_) (fun hc => ?_)
  · replace h := h.1 hc
    refine V_iconst 11 (v := (0 : Int32)) rfl (by decide) ?_
    exact V_zret 12 rfl rfl rfl ⟨hW, _, rfl, h⟩
  · replace h := h.2 hc
    refine V_pc 13 rfl ?_
    refine V_iconst 9 (v := (1 : Int32)) rfl (by decide) ?_
    refine V_goto 10 (tgt := 18) rfl (by decide) ?_
    exact V_zret 12 rfl rfl rfl ⟨hW, _, rfl, h⟩

def wX0_definable_l25_b (this : Nat) (a0 : Int32) (Q : Int32 → ab_S → Prop) (E : String → ab_S → Prop) (Bk : Int32 → Int32 → ab_S → Prop) (x3 : Int32) (x4 : Int32) (σ : ab_S) : Prop := vp_in a0 30 ∧ ((((σ.2.1 (this + 6) a0.toNatClampNeg) < x4) → Q x3 σ) ∧ (¬ ((σ.2.1 (this + 6) a0.toNatClampNeg) < x4) → wX0_symbolAt this a0 x4 (fun u2 σ1 => vp_in u2 12 ∧ (∀ v3 : Int32, v3 = (x3 ||| ((σ1.2.1 (this + 3) u2.toNatClampNeg) <<< ((x4 * (8 : Int32)) &&& 31))) → ∀ v4 : Int32, v4 = (x4 + 1) → Bk v3 v4 σ1)) E σ))
def wX0_definable_l25 (this : Nat) (a0 : Int32) (Q : Int32 → ab_S → Prop) (E : String → ab_S → Prop) : Nat → Int32 → Int32 → ab_S → Prop
  | 0, _, _, _ => False
  | n + 1, x3, x4, σ => wX0_definable_l25_b this a0 Q E (wX0_definable_l25 this a0 Q E n) x3 x4 σ
def wX0_definable (this : Nat) (a0 : Int32) (Q : Int32 → ab_S → Prop) (E : String → ab_S → Prop) (σ : ab_S) : Prop := wX0_symbolAt this a0 (0 : Int32) (fun u6 σ5 => wX0_allOf this u6 (fun u8 σ7 => vp_in u6 12 ∧ (∀ v9 : Int32, v9 = (u8 &&& ((σ7.2.1 (this + 3) u6.toNatClampNeg) ^^^ (-1 : Int32))) → ∃ n, wX0_definable_l25 this a0 Q E n v9 (1 : Int32) σ7)) E σ5) E σ
set_option maxHeartbeats 4000000 in
set_option maxRecDepth 100000 in
theorem ceX0_definable {l : Launch} (hl : l.stackTraces = false) (B : Nat) {this : Nat} {a0 : Int32} (hthis : isG this) {Q : Int32 → ab_S → Prop} {E : String → ab_S → Prop} {σ : ab_S} (hW : Wire σ) (h : wX0_definable this a0 Q E σ) : ab_Mt l yX0_definable mdX0_definable B 1 22 0 0 [.ref this, .int a0] σ (fun v σ' => Wire σ' ∧ ∃ r : Int32, v = some (.int r) ∧ Q r σ') (fun X σ' => Wire σ' ∧ E X σ') := by
  refine V_met hl ⟨rfl, rfl, by decide⟩ rfl dkX0_definable (Nat.le_of_ble_eq_true rfl) ?_
  show V l mdX0_definable B 1 22 0 0 (ab_End _ _) 0 [(0, .ref this), (1, .int a0)] [] σ
  revert h hW
  revert σ
  have k_l25 : ∀ (n : Nat) (x3 : Int32) (x4 : Int32)  (σ : ab_S), Wire σ → wX0_definable_l25 this a0 Q E n x3 x4 σ → V l mdX0_definable B 1 22 0 0 (ab_End (fun v σ' => Wire σ' ∧ ∃ r : Int32, v = some (.int r) ∧ Q r σ') (fun X σ' => Wire σ' ∧ E X σ')) 25 [(0, .ref this), (1, .int a0), (3, .int x3), (4, .int x4)] [] σ := by
    have step : ∀ (Bk : Int32 → Int32 → ab_S → Prop) (k_Bk : ∀ (x3 : Int32) (x4 : Int32)  (σ : ab_S), Wire σ → Bk x3 x4 σ → V l mdX0_definable B 1 22 0 0 (ab_End (fun v σ' => Wire σ' ∧ ∃ r : Int32, v = some (.int r) ∧ Q r σ') (fun X σ' => Wire σ' ∧ E X σ')) 25 [(0, .ref this), (1, .int a0), (3, .int x3), (4, .int x4)] [] σ), ∀ (x3 : Int32) (x4 : Int32)  (σ : ab_S), Wire σ → wX0_definable_l25_b this a0 Q E Bk x3 x4 σ → V l mdX0_definable B 1 22 0 0 (ab_End (fun v σ' => Wire σ' ∧ ∃ r : Int32, v = some (.int r) ∧ Q r σ') (fun X σ' => Wire σ' ∧ E X σ')) 25 [(0, .ref this), (1, .int a0), (3, .int x3), (4, .int x4)] [] σ := by
      intro Bk k_Bk
      intro x3 x4  σ hW h
      refine V_iload 18 3 rfl rfl ?_
      refine V_aload_n 19 0 rfl rfl rfl ?_
      refine V_getR 20 7 rfl clX0 flX0_28 (by decide) (wG hW hthis) (fun _ => rfl) (wG_f7 hW hthis) ?_
      refine V_iload_n 21 1 rfl rfl rfl ?_
      obtain ⟨hin, h⟩ := h
      refine V_iald 22 rfl (wG_a6 hW hthis) hin ?_
      refine V_icmp_gt 23 (tgt := 63) rfl (by decide) (fun hc => ?_) (fun hc => ?_)
      · replace h := h.1 hc
        refine V_iload_n 40 2 rfl rfl rfl ?_
        exact V_iret 41 rfl rfl ⟨hW, _, rfl, h⟩
      · replace h := h.2 hc
        refine V_pc 36 rfl ?_
        refine V_iload_n 24 2 rfl rfl rfl ?_
        refine V_aload_n 25 0 rfl rfl rfl ?_
        refine V_getR 26 3 rfl clX0 flX0_19 (by decide) (wG hW hthis) (fun _ => rfl) (wG_f3 hW hthis) ?_
        refine V_aload_n 27 0 rfl rfl rfl ?_
        refine V_iload_n 28 1 rfl rfl rfl ?_
        refine V_iload 29 3 rfl rfl ?_
        refine V_pc 45 rfl ?_
        refine V_callV 30 2 (as := [.int a0, .int x4]) (rest := [.ref (this + 3), .int x3]) rfl mlX0_81 yvX0_symbolAt rfl rfl clX0 (wG hW hthis) (by decide) (by decide) (Nat.le_of_ble_eq_true rfl) (by decide) (by decide) (fun B9 => ceX0_symbolAt hl B9 hthis hW h) (fun X9 τ9 h9 => VX_out rfl h9) ?_
        rintro v9 σ1 ⟨hW, u2, rfl, h⟩
        obtain ⟨hin, h⟩ := h
        refine V_iald 31 rfl (wG_a3 hW hthis) hin ?_
        refine V_iload 32 3 rfl rfl ?_
        refine V_bipush 33 (v := (8 : Int32)) rfl (by decide) ?_
        refine V_imul 34 rfl ?_
        refine V_ishl 35 rfl ?_
        refine V_pc 55 rfl ?_
        refine V_ior 36 rfl ?_
        refine V_topi (fun v3 ev3 => ?_)
        replace h := h v3 ev3
        refine V_istore_n 37 (lv' := [(3, .int v3), (0, .ref this), (1, .int a0), (4, .int x4)]) rfl rfl (by decide) rfl ?_
        obtain ⟨v4, ev4⟩ : ∃ z : Int32, z = (x4 + 1) := ⟨_, rfl⟩
        replace h := h v4 ev4
        refine V_iinc 38 3 (v := v4) (lv' := [(4, .int v4), (3, .int v3), (0, .ref this), (1, .int a0)]) rfl rfl ((in_1 _).trans ev4.symm) (by decide) rfl ?_
        refine V_goto 39 (tgt := 25) rfl (by decide) ?_
        refine V_sub [2, 3, 1, 0] (lv' := [(0, .ref this), (1, .int a0), (3, .int v3), (4, .int v4)]) rfl ?_
        exact k_Bk v3 v4  σ1 hW h
    intro n
    induction n with
    | zero => intro x3 x4  σ hW h; exact absurd h id
    | succ n ih => exact step  _ ih
  intro σ hW h
  refine V_aload_n 0 0 rfl rfl rfl ?_
  refine V_iload_n 1 1 rfl rfl rfl ?_
  refine V_iconst 2 (v := (0 : Int32)) rfl (by decide) ?_
  refine V_callV 3 2 (as := [.int a0, .int (0 : Int32)]) (rest := []) rfl mlX0_81 yvX0_symbolAt rfl rfl clX0 (wG hW hthis) (by decide) (by decide) (Nat.le_of_ble_eq_true rfl) (by decide) (by decide) (fun B9 => ceX0_symbolAt hl B9 hthis hW h) (fun X9 τ9 h9 => VX_out rfl h9) ?_
  rintro v9 σ5 ⟨hW, u6, rfl, h⟩
  refine V_istore_n 4 (lv' := [(2, .int u6), (0, .ref this), (1, .int a0)]) rfl rfl (by decide) rfl ?_
  refine V_aload_n 5 1 rfl rfl rfl ?_
  refine V_iload_n 6 0 rfl rfl rfl ?_
  refine V_callV 7 1 (as := [.int u6]) (rest := []) rfl mlX0_85 yvX0_allOf rfl rfl clX0 (wG hW hthis) (by decide) (by decide) (Nat.le_of_ble_eq_true rfl) (by decide) (by decide) (fun B9 => ceX0_allOf hl B9 hthis hW h) (fun X9 τ9 h9 => VX_out rfl h9) ?_
  rintro v9 σ7 ⟨hW, u8, rfl, h⟩
  refine V_aload_n 8 1 rfl rfl rfl ?_
  refine V_getR 9 3 rfl clX0 flX0_19 (by decide) (wG hW hthis) (fun _ => rfl) (wG_f3 hW hthis) ?_
  refine V_iload_n 10 0 rfl rfl rfl ?_
  obtain ⟨hin, h⟩ := h
  refine V_iald 11 rfl (wG_a3 hW hthis) hin ?_
  refine V_iconst 12 (v := (-1 : Int32)) rfl (by decide) ?_
  refine V_pc 19 rfl ?_
  refine V_ixor 13 rfl ?_
  refine V_iand 14 rfl ?_
  refine V_topi (fun v9 ev9 => ?_)
  replace h := h v9 ev9
  refine V_istore_n 15 (lv' := [(3, .int v9), (2, .int u6), (0, .ref this), (1, .int a0)]) rfl rfl (by decide) rfl ?_
  refine V_iconst 16 (v := (1 : Int32)) rfl (by decide) ?_
  refine V_istore 17 (lv' := [(4, .int (1 : Int32)), (3, .int v9), (2, .int u6), (0, .ref this), (1, .int a0)]) rfl (by decide) rfl ?_
  refine V_sub [3, 4, 1, 0] (lv' := [(0, .ref this), (1, .int a0), (3, .int v9), (4, .int (1 : Int32))]) rfl ?_
  obtain ⟨n, h⟩ := h
  exact k_l25 n v9 (1 : Int32) σ7 hW h

def wX0_visitOf (this : Nat) (a0 : Int32) (a1 : Int32) (Q : Int32 → ab_S → Prop) (E : String → ab_S → Prop) (σ : ab_S) : Prop := vp_in a0 12 ∧ (vp_in ((a0 * (8 : Int32)) + a1) 96 ∧ (Q (((σ.2.1 (this + 17) a0.toNatClampNeg) + (1 : Int32)) - (((σ.2.1 (this + 16) ((a0 * (8 : Int32)) + a1).toNatClampNeg) + (1 : Int32)) / (2 : Int32))) σ))
set_option maxHeartbeats 4000000 in
set_option maxRecDepth 100000 in
theorem ceX0_visitOf {l : Launch} (hl : l.stackTraces = false) (B : Nat) {this : Nat} {a0 : Int32} {a1 : Int32} (hthis : isG this) {Q : Int32 → ab_S → Prop} {E : String → ab_S → Prop} {σ : ab_S} (hW : Wire σ) (h : wX0_visitOf this a0 a1 Q E σ) : ab_Mt l yX0_visitOf mdX0_visitOf B 0 0 0 0 [.ref this, .int a0, .int a1] σ (fun v σ' => Wire σ' ∧ ∃ r : Int32, v = some (.int r) ∧ Q r σ') (fun X σ' => Wire σ' ∧ E X σ') := by
  refine V_met hl ⟨rfl, rfl, by decide⟩ rfl dkX0_visitOf (Nat.le_of_ble_eq_true rfl) ?_
  show V l mdX0_visitOf B 0 0 0 0 (ab_End _ _) 0 [(0, .ref this), (1, .int a0), (2, .int a1)] [] σ
  refine V_aload_n 0 0 rfl rfl rfl ?_
  refine V_getR 1 19 rfl clX0 flX0_62 (by decide) (wG hW hthis) (fun _ => rfl) (wG_f19 hW hthis) ?_
  refine V_iload_n 2 1 rfl rfl rfl ?_
  obtain ⟨hin, h⟩ := h
  refine V_iald 3 rfl (wG_a17 hW hthis) hin ?_
  refine V_iconst 4 (v := (1 : Int32)) rfl (by decide) ?_
  refine V_iadd 5 rfl ?_
  refine V_pc 8 rfl ?_
  refine V_aload_n 6 0 rfl rfl rfl ?_
  refine V_getR 7 18 rfl clX0 flX0_59 (by decide) (wG hW hthis) (fun _ => rfl) (wG_f18 hW hthis) ?_
  refine V_iload_n 8 1 rfl rfl rfl ?_
  refine V_bipush 9 (v := (8 : Int32)) rfl (by decide) ?_
  refine V_imul 10 rfl ?_
  refine V_iload_n 11 2 rfl rfl rfl ?_
  refine V_pc 17 rfl ?_
  refine V_iadd 12 rfl ?_
  obtain ⟨hin, h⟩ := h
  refine V_iald 13 rfl (wG_a16 hW hthis) hin ?_
  refine V_iconst 14 (v := (1 : Int32)) rfl (by decide) ?_
  refine V_iadd 15 rfl ?_
  refine V_iconst 16 (v := (2 : Int32)) rfl (by decide) ?_
  refine V_idiv 17 rfl (by decide) ?_
  refine V_pc 23 rfl ?_
  refine V_isub 18 rfl ?_
  exact V_iret 19 rfl rfl ⟨hW, _, rfl, h⟩

def wX0_inVisit_j34 (this : Nat) (a0 : Int32) (a1 : Int32) (Q : Int32 → ab_S → Prop) (E : String → ab_S → Prop) (Bk : Int32 → Int32 → ab_S → Prop) (x3 : Int32) (x4 : Int32) (σ : ab_S) : Prop := ∀ v1 : Int32, v1 = (x4 + 1) → Bk x3 v1 σ
def wX0_inVisit_l5_b (this : Nat) (a0 : Int32) (a1 : Int32) (Q : Int32 → ab_S → Prop) (E : String → ab_S → Prop) (Bk : Int32 → Int32 → ab_S → Prop) (x3 : Int32) (x4 : Int32) (σ : ab_S) : Prop := vp_in a0 12 ∧ ((((σ.2.1 (this + 2) a0.toNatClampNeg) ≤ x4) → Q x3 σ) ∧ (¬ ((σ.2.1 (this + 2) a0.toNatClampNeg) ≤ x4) → wX0_visitOf this a0 x4 (fun u3 σ2 => ((¬ u3 = a1) → wX0_inVisit_j34 this a0 a1 Q E Bk x3 x4 σ2) ∧ (¬ (¬ u3 = a1) → ∀ v4 : Int32, v4 = (x3 ||| ((1 : Int32) <<< (x4 &&& 31))) → wX0_inVisit_j34 this a0 a1 Q E Bk v4 x4 σ2)) E σ))
def wX0_inVisit_l5 (this : Nat) (a0 : Int32) (a1 : Int32) (Q : Int32 → ab_S → Prop) (E : String → ab_S → Prop) : Nat → Int32 → Int32 → ab_S → Prop
  | 0, _, _, _ => False
  | n + 1, x3, x4, σ => wX0_inVisit_l5_b this a0 a1 Q E (wX0_inVisit_l5 this a0 a1 Q E n) x3 x4 σ
def wX0_inVisit (this : Nat) (a0 : Int32) (a1 : Int32) (Q : Int32 → ab_S → Prop) (E : String → ab_S → Prop) (σ : ab_S) : Prop := ∃ n, wX0_inVisit_l5 this a0 a1 Q E n (0 : Int32) (0 : Int32) σ
set_option maxHeartbeats 4000000 in
set_option maxRecDepth 100000 in
theorem ceX0_inVisit {l : Launch} (hl : l.stackTraces = false) (B : Nat) {this : Nat} {a0 : Int32} {a1 : Int32} (hthis : isG this) {Q : Int32 → ab_S → Prop} {E : String → ab_S → Prop} {σ : ab_S} (hW : Wire σ) (h : wX0_inVisit this a0 a1 Q E σ) : ab_Mt l yX0_inVisit mdX0_inVisit B 1 22 0 0 [.ref this, .int a0, .int a1] σ (fun v σ' => Wire σ' ∧ ∃ r : Int32, v = some (.int r) ∧ Q r σ') (fun X σ' => Wire σ' ∧ E X σ') := by
  refine V_met hl ⟨rfl, rfl, by decide⟩ rfl dkX0_inVisit (Nat.le_of_ble_eq_true rfl) ?_
  show V l mdX0_inVisit B 1 22 0 0 (ab_End _ _) 0 [(0, .ref this), (1, .int a0), (2, .int a1)] [] σ
  revert h hW
  revert σ
  have k_l5 : ∀ (n : Nat) (x3 : Int32) (x4 : Int32)  (σ : ab_S), Wire σ → wX0_inVisit_l5 this a0 a1 Q E n x3 x4 σ → V l mdX0_inVisit B 1 22 0 0 (ab_End (fun v σ' => Wire σ' ∧ ∃ r : Int32, v = some (.int r) ∧ Q r σ') (fun X σ' => Wire σ' ∧ E X σ')) 5 [(0, .ref this), (1, .int a0), (2, .int a1), (3, .int x3), (4, .int x4)] [] σ := by
    have step : ∀ (Bk : Int32 → Int32 → ab_S → Prop) (k_Bk : ∀ (x3 : Int32) (x4 : Int32)  (σ : ab_S), Wire σ → Bk x3 x4 σ → V l mdX0_inVisit B 1 22 0 0 (ab_End (fun v σ' => Wire σ' ∧ ∃ r : Int32, v = some (.int r) ∧ Q r σ') (fun X σ' => Wire σ' ∧ E X σ')) 5 [(0, .ref this), (1, .int a0), (2, .int a1), (3, .int x3), (4, .int x4)] [] σ), ∀ (x3 : Int32) (x4 : Int32)  (σ : ab_S), Wire σ → wX0_inVisit_l5_b this a0 a1 Q E Bk x3 x4 σ → V l mdX0_inVisit B 1 22 0 0 (ab_End (fun v σ' => Wire σ' ∧ ∃ r : Int32, v = some (.int r) ∧ Q r σ') (fun X σ' => Wire σ' ∧ E X σ')) 5 [(0, .ref this), (1, .int a0), (2, .int a1), (3, .int x3), (4, .int x4)] [] σ := by
      intro Bk k_Bk
      have k_j34 : ∀ (x3 : Int32) (x4 : Int32)  (σ : ab_S), Wire σ → wX0_inVisit_j34 this a0 a1 Q E Bk x3 x4 σ → V l mdX0_inVisit B 1 22 0 0 (ab_End (fun v σ' => Wire σ' ∧ ∃ r : Int32, v = some (.int r) ∧ Q r σ') (fun X σ' => Wire σ' ∧ E X σ')) 34 [(0, .ref this), (1, .int a0), (2, .int a1), (3, .int x3), (4, .int x4)] [] σ := by
        intro x3 x4  σ hW h
        obtain ⟨v1, ev1⟩ : ∃ z : Int32, z = (x4 + 1) := ⟨_, rfl⟩
        replace h := h v1 ev1
        refine V_iinc 22 4 (v := v1) (lv' := [(4, .int v1), (0, .ref this), (1, .int a0), (2, .int a1), (3, .int x3)]) rfl rfl ((in_1 _).trans ev1.symm) (by decide) rfl ?_
        refine V_goto 23 (tgt := 5) rfl (by decide) ?_
        refine V_sub [1, 2, 3, 4, 0] (lv' := [(0, .ref this), (1, .int a0), (2, .int a1), (3, .int x3), (4, .int v1)]) rfl ?_
        exact k_Bk x3 v1  σ hW h
      intro x3 x4  σ hW h
      refine V_iload 4 4 rfl rfl ?_
      refine V_aload_n 5 0 rfl rfl rfl ?_
      refine V_getR 6 2 rfl clX0 flX0_15 (by decide) (wG hW hthis) (fun _ => rfl) (wG_f2 hW hthis) ?_
      refine V_iload_n 7 1 rfl rfl rfl ?_
      obtain ⟨hin, h⟩ := h
      refine V_iald 8 rfl (wG_a2 hW hthis) hin ?_
      refine V_icmp_ge 9 (tgt := 40) rfl (by decide) (fun hc => ?_) (fun hc => ?_)
      · replace h := h.1 hc
        refine V_iload_n 24 3 rfl rfl rfl ?_
        exact V_iret 25 rfl rfl ⟨hW, _, rfl, h⟩
      · replace h := h.2 hc
        refine V_pc 16 rfl ?_
        refine V_aload_n 10 0 rfl rfl rfl ?_
        refine V_iload_n 11 1 rfl rfl rfl ?_
        refine V_iload 12 4 rfl rfl ?_
        refine V_callV 13 2 (as := [.int a0, .int x4]) (rest := []) rfl mlX0_92 yvX0_visitOf rfl rfl clX0 (wG hW hthis) (by decide) (by decide) (Nat.le_of_ble_eq_true rfl) (by decide) (by decide) (fun B9 => ceX0_visitOf hl B9 hthis hW h) (fun X9 τ9 h9 => VX_out rfl h9) ?_
        rintro v9 σ2 ⟨hW, u3, rfl, h⟩
        refine V_iload_n 14 2 rfl rfl rfl ?_
        refine V_icmp_ne 15 (tgt := 34) rfl (by decide) (fun hc => ?_) (fun hc => ?_)
        · replace h := h.1 hc
          exact k_j34 x3 x4 σ2 hW h
        · replace h := h.2 hc
          refine V_pc 27 rfl ?_
          refine V_iload_n 16 3 rfl rfl rfl ?_
          refine V_iconst 17 (v := (1 : Int32)) rfl (by decide) ?_
          refine V_iload 18 4 rfl rfl ?_
          refine V_ishl 19 rfl ?_
          refine V_ior 20 rfl ?_
          refine V_topi (fun v4 ev4 => ?_)
          replace h := h v4 ev4
          refine V_istore_n 21 (lv' := [(3, .int v4), (0, .ref this), (1, .int a0), (2, .int a1), (4, .int x4)]) rfl rfl (by decide) rfl ?_
          refine V_sub [1, 2, 3, 0, 4] (lv' := [(0, .ref this), (1, .int a0), (2, .int a1), (3, .int v4), (4, .int x4)]) rfl ?_
          exact k_j34 v4 x4 σ2 hW h
    intro n
    induction n with
    | zero => intro x3 x4  σ hW h; exact absurd h id
    | succ n ih => exact step  _ ih
  intro σ hW h
  refine V_iconst 0 (v := (0 : Int32)) rfl (by decide) ?_
  refine V_istore_n 1 (lv' := [(3, .int (0 : Int32)), (0, .ref this), (1, .int a0), (2, .int a1)]) rfl rfl (by decide) rfl ?_
  refine V_iconst 2 (v := (0 : Int32)) rfl (by decide) ?_
  refine V_istore 3 (lv' := [(4, .int (0 : Int32)), (3, .int (0 : Int32)), (0, .ref this), (1, .int a0), (2, .int a1)]) rfl (by decide) rfl ?_
  refine V_sub [2, 3, 4, 1, 0] (lv' := [(0, .ref this), (1, .int a0), (2, .int a1), (3, .int (0 : Int32)), (4, .int (0 : Int32))]) rfl ?_
  obtain ⟨n, h⟩ := h
  exact k_l5 n (0 : Int32) (0 : Int32) σ hW h

def wX0_downs (this : Nat) (a0 : Int32) (a1 : Int32) (Q : Int32 → ab_S → Prop) (E : String → ab_S → Prop) (σ : ab_S) : Prop := wX0_inVisit this a0 a1 (fun u2 σ1 => vp_in a0 12 ∧ (Q (u2 &&& (σ1.2.1 (this + 3) a0.toNatClampNeg)) σ1)) E σ
set_option maxHeartbeats 4000000 in
set_option maxRecDepth 100000 in
theorem ceX0_downs {l : Launch} (hl : l.stackTraces = false) (B : Nat) {this : Nat} {a0 : Int32} {a1 : Int32} (hthis : isG this) {Q : Int32 → ab_S → Prop} {E : String → ab_S → Prop} {σ : ab_S} (hW : Wire σ) (h : wX0_downs this a0 a1 Q E σ) : ab_Mt l yX0_downs mdX0_downs B 2 46 0 0 [.ref this, .int a0, .int a1] σ (fun v σ' => Wire σ' ∧ ∃ r : Int32, v = some (.int r) ∧ Q r σ') (fun X σ' => Wire σ' ∧ E X σ') := by
  refine V_met hl ⟨rfl, rfl, by decide⟩ rfl dkX0_downs (Nat.le_of_ble_eq_true rfl) ?_
  show V l mdX0_downs B 2 46 0 0 (ab_End _ _) 0 [(0, .ref this), (1, .int a0), (2, .int a1)] [] σ
  refine V_aload_n 0 0 rfl rfl rfl ?_
  refine V_iload_n 1 1 rfl rfl rfl ?_
  refine V_iload_n 2 2 rfl rfl rfl ?_
  refine V_callV 3 2 (as := [.int a0, .int a1]) (rest := []) rfl mlX0_89 yvX0_inVisit rfl rfl clX0 (wG hW hthis) (by decide) (by decide) (Nat.le_of_ble_eq_true rfl) (by decide) (by decide) (fun B9 => ceX0_inVisit hl B9 hthis hW h) (fun X9 τ9 h9 => VX_out rfl h9) ?_
  rintro v9 σ1 ⟨hW, u2, rfl, h⟩
  refine V_aload_n 4 0 rfl rfl rfl ?_
  refine V_getR 5 3 rfl clX0 flX0_19 (by decide) (wG hW hthis) (fun _ => rfl) (wG_f3 hW hthis) ?_
  refine V_iload_n 6 1 rfl rfl rfl ?_
  obtain ⟨hin, h⟩ := h
  refine V_iald 7 rfl (wG_a3 hW hthis) hin ?_
  refine V_iand 8 rfl ?_
  refine V_pc 13 rfl ?_
  exact V_iret 9 rfl rfl ⟨hW, _, rfl, h⟩

def wX0_ups (this : Nat) (a0 : Int32) (a1 : Int32) (Q : Int32 → ab_S → Prop) (E : String → ab_S → Prop) (σ : ab_S) : Prop := wX0_inVisit this a0 a1 (fun u2 σ1 => vp_in a0 12 ∧ (Q (u2 &&& ((σ1.2.1 (this + 3) a0.toNatClampNeg) ^^^ (-1 : Int32))) σ1)) E σ
set_option maxHeartbeats 4000000 in
set_option maxRecDepth 100000 in
theorem ceX0_ups {l : Launch} (hl : l.stackTraces = false) (B : Nat) {this : Nat} {a0 : Int32} {a1 : Int32} (hthis : isG this) {Q : Int32 → ab_S → Prop} {E : String → ab_S → Prop} {σ : ab_S} (hW : Wire σ) (h : wX0_ups this a0 a1 Q E σ) : ab_Mt l yX0_ups mdX0_ups B 2 46 0 0 [.ref this, .int a0, .int a1] σ (fun v σ' => Wire σ' ∧ ∃ r : Int32, v = some (.int r) ∧ Q r σ') (fun X σ' => Wire σ' ∧ E X σ') := by
  refine V_met hl ⟨rfl, rfl, by decide⟩ rfl dkX0_ups (Nat.le_of_ble_eq_true rfl) ?_
  show V l mdX0_ups B 2 46 0 0 (ab_End _ _) 0 [(0, .ref this), (1, .int a0), (2, .int a1)] [] σ
  refine V_aload_n 0 0 rfl rfl rfl ?_
  refine V_iload_n 1 1 rfl rfl rfl ?_
  refine V_iload_n 2 2 rfl rfl rfl ?_
  refine V_callV 3 2 (as := [.int a0, .int a1]) (rest := []) rfl mlX0_89 yvX0_inVisit rfl rfl clX0 (wG hW hthis) (by decide) (by decide) (Nat.le_of_ble_eq_true rfl) (by decide) (by decide) (fun B9 => ceX0_inVisit hl B9 hthis hW h) (fun X9 τ9 h9 => VX_out rfl h9) ?_
  rintro v9 σ1 ⟨hW, u2, rfl, h⟩
  refine V_aload_n 4 0 rfl rfl rfl ?_
  refine V_getR 5 3 rfl clX0 flX0_19 (by decide) (wG hW hthis) (fun _ => rfl) (wG_f3 hW hthis) ?_
  refine V_iload_n 6 1 rfl rfl rfl ?_
  obtain ⟨hin, h⟩ := h
  refine V_iald 7 rfl (wG_a3 hW hthis) hin ?_
  refine V_iconst 8 (v := (-1 : Int32)) rfl (by decide) ?_
  refine V_pc 13 rfl ?_
  refine V_ixor 9 rfl ?_
  refine V_iand 10 rfl ?_
  exact V_iret 11 rfl rfl ⟨hW, _, rfl, h⟩

def wX6_skipBlanks_j41 (a0 : Int32) (Q : Int32 → ab_S → Prop) (E : String → ab_S → Prop) (Bk : Int32 → ab_S → Prop) (x2 : Int32) (σ : ab_S) : Prop := ∀ v1 : Int32, v1 = (x2 + 1) → Bk v1 σ
def wX6_skipBlanks_l2_b (a0 : Int32) (Q : Int32 → ab_S → Prop) (E : String → ab_S → Prop) (Bk : Int32 → ab_S → Prop) (x2 : Int32) (σ : ab_S) : Prop := (((σ.2.1 1 1) ≤ x2) → Q x2 σ) ∧ (¬ ((σ.2.1 1 1) ≤ x2) → vp_in x2 2400 ∧ ((((σ.2.1 2 x2.toNatClampNeg) = (32 : Int32)) → wX6_skipBlanks_j41 a0 Q E Bk x2 σ) ∧ (¬ ((σ.2.1 2 x2.toNatClampNeg) = (32 : Int32)) → vp_in x2 2400 ∧ (((¬ (σ.2.1 2 x2.toNatClampNeg) = (10 : Int32)) → Q x2 σ) ∧ (¬ (¬ (σ.2.1 2 x2.toNatClampNeg) = (10 : Int32)) → wX6_skipBlanks_j41 a0 Q E Bk x2 σ)))))
def wX6_skipBlanks_l2 (a0 : Int32) (Q : Int32 → ab_S → Prop) (E : String → ab_S → Prop) : Nat → Int32 → ab_S → Prop
  | 0, _, _ => False
  | n + 1, x2, σ => wX6_skipBlanks_l2_b a0 Q E (wX6_skipBlanks_l2 a0 Q E n) x2 σ
def wX6_skipBlanks (a0 : Int32) (Q : Int32 → ab_S → Prop) (E : String → ab_S → Prop) (σ : ab_S) : Prop := ∃ n, wX6_skipBlanks_l2 a0 Q E n a0 σ
set_option maxHeartbeats 4000000 in
set_option maxRecDepth 100000 in
theorem ceX6_skipBlanks {l : Launch} (hl : l.stackTraces = false) (B : Nat) {a0 : Int32}  {Q : Int32 → ab_S → Prop} {E : String → ab_S → Prop} {σ : ab_S} (hW : Wire σ) (h : wX6_skipBlanks a0 Q E σ) : ab_Mt l yX6_skipBlanks mdX6_skipBlanks B 0 0 0 0 [.ref 3, .int a0] σ (fun v σ' => Wire σ' ∧ ∃ r : Int32, v = some (.int r) ∧ Q r σ') (fun X σ' => Wire σ' ∧ E X σ') := by
  refine V_met hl ⟨rfl, rfl, by decide⟩ rfl dkX6_skipBlanks (Nat.le_of_ble_eq_true rfl) ?_
  show V l mdX6_skipBlanks B 0 0 0 0 (ab_End _ _) 0 [(0, .ref 3), (1, .int a0)] [] σ
  revert h hW
  revert σ
  have k_l2 : ∀ (n : Nat) (x2 : Int32)  (σ : ab_S), Wire σ → wX6_skipBlanks_l2 a0 Q E n x2 σ → V l mdX6_skipBlanks B 0 0 0 0 (ab_End (fun v σ' => Wire σ' ∧ ∃ r : Int32, v = some (.int r) ∧ Q r σ') (fun X σ' => Wire σ' ∧ E X σ')) 2 [(0, .ref 3), (2, .int x2)] [] σ := by
    have step : ∀ (Bk : Int32 → ab_S → Prop) (k_Bk : ∀ (x2 : Int32)  (σ : ab_S), Wire σ → Bk x2 σ → V l mdX6_skipBlanks B 0 0 0 0 (ab_End (fun v σ' => Wire σ' ∧ ∃ r : Int32, v = some (.int r) ∧ Q r σ') (fun X σ' => Wire σ' ∧ E X σ')) 2 [(0, .ref 3), (2, .int x2)] [] σ), ∀ (x2 : Int32)  (σ : ab_S), Wire σ → wX6_skipBlanks_l2_b a0 Q E Bk x2 σ → V l mdX6_skipBlanks B 0 0 0 0 (ab_End (fun v σ' => Wire σ' ∧ ∃ r : Int32, v = some (.int r) ∧ Q r σ') (fun X σ' => Wire σ' ∧ E X σ')) 2 [(0, .ref 3), (2, .int x2)] [] σ := by
      intro Bk k_Bk
      have k_j41 : ∀ (x2 : Int32)  (σ : ab_S), Wire σ → wX6_skipBlanks_j41 a0 Q E Bk x2 σ → V l mdX6_skipBlanks B 0 0 0 0 (ab_End (fun v σ' => Wire σ' ∧ ∃ r : Int32, v = some (.int r) ∧ Q r σ') (fun X σ' => Wire σ' ∧ E X σ')) 41 [(0, .ref 3), (2, .int x2)] [] σ := by
        intro x2  σ hW h
        obtain ⟨v1, ev1⟩ : ∃ z : Int32, z = (x2 + 1) := ⟨_, rfl⟩
        replace h := h v1 ev1
        refine V_iinc 21 1 (v := v1) (lv' := [(2, .int v1), (0, .ref 3)]) rfl rfl ((in_1 _).trans ev1.symm) (by decide) rfl ?_
        refine V_goto 22 (tgt := 2) rfl (by decide) ?_
        refine V_sub [1, 0] (lv' := [(0, .ref 3), (2, .int v1)]) rfl ?_
        exact k_Bk v1  σ hW h
      intro x2  σ hW h
      refine V_iload_n 2 1 rfl rfl rfl ?_
      refine V_aload_n 3 0 rfl rfl rfl ?_
      refine V_getR 4 0 rfl clX6 flX6_22 (by decide) (wsh hW rfl) (fun _ => rfl) (wrf hW 12 rfl) ?_
      refine V_get (v := .int (σ.2.1 1 1)) 5 1 rfl clX8 flX6_56 (by decide) (wsh hW rfl) (fun _ => rfl) ?_
      refine V_icmp_ge 6 (tgt := 47) rfl (by decide) (fun hc => ?_) (fun hc => ?_)
      · replace h := h.1 hc
        refine V_iload_n 23 1 rfl rfl rfl ?_
        exact V_iret 24 rfl rfl ⟨hW, _, rfl, h⟩
      · replace h := h.2 hc
        refine V_pc 13 rfl ?_
        refine V_aload_n 7 0 rfl rfl rfl ?_
        refine V_getR 8 0 rfl clX6 flX6_22 (by decide) (wsh hW rfl) (fun _ => rfl) (wrf hW 12 rfl) ?_
        refine V_getR 9 0 rfl clX8 flX6_61 (by decide) (wsh hW rfl) (fun _ => rfl) (wrf hW 11 rfl) ?_
        refine V_iload_n 10 1 rfl rfl rfl ?_
        obtain ⟨hin, h⟩ := h
        refine V_cald 11 rfl (wsh hW rfl) hin ?_
        refine V_bipush 12 (v := (32 : Int32)) rfl (by decide) ?_
        refine V_pc 24 rfl ?_
        refine V_icmp_eq 13 (tgt := 41) rfl (by decide) (fun hc => ?_) (fun hc => ?_)
        · replace h := h.1 hc
          exact k_j41 x2 σ hW h
        · replace h := h.2 hc
          refine V_pc 27 rfl ?_
          refine V_aload_n 14 0 rfl rfl rfl ?_
          refine V_getR 15 0 rfl clX6 flX6_22 (by decide) (wsh hW rfl) (fun _ => rfl) (wrf hW 12 rfl) ?_
          refine V_getR 16 0 rfl clX8 flX6_61 (by decide) (wsh hW rfl) (fun _ => rfl) (wrf hW 11 rfl) ?_
          refine V_iload_n 17 1 rfl rfl rfl ?_
          obtain ⟨hin, h⟩ := h
          refine V_cald 18 rfl (wsh hW rfl) hin ?_
          refine V_bipush 19 (v := (10 : Int32)) rfl (by decide) ?_
          refine V_pc 38 rfl ?_
          refine V_icmp_ne 20 (tgt := 47) rfl (by decide) (fun hc => ?_) (fun hc => ?_)
          · replace h := h.1 hc
            refine V_iload_n 23 1 rfl rfl rfl ?_
            exact V_iret 24 rfl rfl ⟨hW, _, rfl, h⟩
          · replace h := h.2 hc
            refine V_pc 41 rfl ?_
            exact k_j41 x2 σ hW h
    intro n
    induction n with
    | zero => intro x2  σ hW h; exact absurd h id
    | succ n ih => exact step  _ ih
  intro σ hW h
  refine V_iload_n 0 1 rfl rfl rfl ?_
  refine V_istore_n 1 (lv' := [(2, .int a0), (0, .ref 3), (1, .int a0)]) rfl rfl (by decide) rfl ?_
  refine V_sub [1, 0] (lv' := [(0, .ref 3), (2, .int a0)]) rfl ?_
  obtain ⟨n, h⟩ := h
  exact k_l2 n a0 σ hW h

def wX6_isLetter (a0 : Int32) (Q : Int32 → ab_S → Prop) (E : String → ab_S → Prop) (σ : ab_S) : Prop := ((a0 < (97 : Int32)) → Q (0 : Int32) σ) ∧ (¬ (a0 < (97 : Int32)) → (((122 : Int32) < a0) → Q (0 : Int32) σ) ∧ (¬ ((122 : Int32) < a0) → Q (1 : Int32) σ))
set_option maxHeartbeats 4000000 in
set_option maxRecDepth 100000 in
theorem ceX6_isLetter {l : Launch} (hl : l.stackTraces = false) (B : Nat) {a0 : Int32}  {Q : Int32 → ab_S → Prop} {E : String → ab_S → Prop} {σ : ab_S} (hW : Wire σ) (h : wX6_isLetter a0 Q E σ) : ab_Mt l yX6_isLetter mdX6_isLetter B 0 0 0 0 [.int a0] σ (fun v σ' => Wire σ' ∧ ∃ r : Int32, v = some (.int r) ∧ Q r σ') (fun X σ' => Wire σ' ∧ E X σ') := by
  refine V_met hl ⟨rfl, rfl, by decide⟩ rfl dkX6_isLetter (Nat.le_of_ble_eq_true rfl) ?_
  show V l mdX6_isLetter B 0 0 0 0 (ab_End _ _) 0 [(0, .int a0)] [] σ
  refine V_iload_n 0 0 rfl rfl rfl ?_
  refine V_bipush 1 (v := (97 : Int32)) rfl (by decide) ?_
  refine V_icmp_lt 2 (tgt := 16) rfl (by decide) (fun hc => ?_) (fun hc => ?_)
  · replace h := h.1 hc
    refine V_iconst 8 (v := (0 : Int32)) rfl (by decide) ?_
    exact V_zret 9 rfl rfl rfl ⟨hW, _, rfl, h⟩
  · replace h := h.2 hc
    refine V_pc 6 rfl ?_
    refine V_iload_n 3 0 rfl rfl rfl ?_
    refine V_bipush 4 (v := (122 : Int32)) rfl (by decide) ?_
    refine V_icmp_gt 5 (tgt := 16) rfl (by decide) (fun hc => ?_) (fun hc => ?_)
    · replace h := h.1 hc
      refine V_iconst 8 (v := (0 : Int32)) rfl (by decide) ?_
      exact V_zret 9 rfl rfl rfl ⟨hW, _, rfl, h⟩
    · replace h := h.2 hc
      refine V_pc 12 rfl ?_
      refine V_iconst 6 (v := (1 : Int32)) rfl (by decide) ?_
      refine V_goto 7 (tgt := 17) rfl (by decide) ?_
      exact V_zret 9 rfl rfl rfl ⟨hW, _, rfl, h⟩

def wX6_spells_l15_b (a0 : Nat) (a1 : Int32) (a2 : Int32) (Q : Int32 → ab_S → Prop) (E : String → ab_S → Prop) (Bk : Int32 → ab_S → Prop) (x4 : Int32) (σ : ab_S) : Prop := (((nI (skn a0)) ≤ x4) → Q (1 : Int32) σ) ∧ (¬ ((nI (skn a0)) ≤ x4) → vp_in (a1 + x4) 2400 ∧ (vp_in x4 (skn a0) ∧ ((((σ.2.1 2 (a1 + x4).toNatClampNeg) = (skb a0 x4.toNatClampNeg)) → ∀ v1 : Int32, v1 = (x4 + 1) → Bk v1 σ) ∧ (¬ ((σ.2.1 2 (a1 + x4).toNatClampNeg) = (skb a0 x4.toNatClampNeg)) → Q (0 : Int32) σ))))
def wX6_spells_l15 (a0 : Nat) (a1 : Int32) (a2 : Int32) (Q : Int32 → ab_S → Prop) (E : String → ab_S → Prop) : Nat → Int32 → ab_S → Prop
  | 0, _, _ => False
  | n + 1, x4, σ => wX6_spells_l15_b a0 a1 a2 Q E (wX6_spells_l15 a0 a1 a2 Q E n) x4 σ
def wX6_spells (a0 : Nat) (a1 : Int32) (a2 : Int32) (Q : Int32 → ab_S → Prop) (E : String → ab_S → Prop) (σ : ab_S) : Prop := (((a2 - a1) = (nI (skn a0))) → ∃ n, wX6_spells_l15 a0 a1 a2 Q E n (0 : Int32) σ) ∧ (¬ ((a2 - a1) = (nI (skn a0))) → Q (0 : Int32) σ)
set_option maxHeartbeats 4000000 in
set_option maxRecDepth 100000 in
theorem ceX6_spells {l : Launch} (hl : l.stackTraces = false) (B : Nat) {a0 : Nat} {a1 : Int32} {a2 : Int32} (ha0 : isS a0) {Q : Int32 → ab_S → Prop} {E : String → ab_S → Prop} {σ : ab_S} (hW : Wire σ) (h : wX6_spells a0 a1 a2 Q E σ) : ab_Mt l yX6_spells mdX6_spells B 4 85 0 0 [.ref 3, .ref a0, .int a1, .int a2] σ (fun v σ' => Wire σ' ∧ ∃ r : Int32, v = some (.int r) ∧ Q r σ') (fun X σ' => Wire σ' ∧ E X σ') := by
  refine V_met hl ⟨rfl, rfl, by decide⟩ rfl dkX6_spells (Nat.le_of_ble_eq_true rfl) ?_
  show V l mdX6_spells B 4 85 0 0 (ab_End _ _) 0 [(0, .ref 3), (1, .ref a0), (2, .int a1), (3, .int a2)] [] σ
  revert h hW
  revert σ
  have k_l15 : ∀ (n : Nat) (x4 : Int32)  (σ : ab_S), Wire σ → wX6_spells_l15 a0 a1 a2 Q E n x4 σ → V l mdX6_spells B 4 85 0 0 (ab_End (fun v σ' => Wire σ' ∧ ∃ r : Int32, v = some (.int r) ∧ Q r σ') (fun X σ' => Wire σ' ∧ E X σ')) 15 [(0, .ref 3), (1, .ref a0), (2, .int a1), (4, .int x4)] [] σ := by
    have step : ∀ (Bk : Int32 → ab_S → Prop) (k_Bk : ∀ (x4 : Int32)  (σ : ab_S), Wire σ → Bk x4 σ → V l mdX6_spells B 4 85 0 0 (ab_End (fun v σ' => Wire σ' ∧ ∃ r : Int32, v = some (.int r) ∧ Q r σ') (fun X σ' => Wire σ' ∧ E X σ')) 15 [(0, .ref 3), (1, .ref a0), (2, .int a1), (4, .int x4)] [] σ), ∀ (x4 : Int32)  (σ : ab_S), Wire σ → wX6_spells_l15_b a0 a1 a2 Q E Bk x4 σ → V l mdX6_spells B 4 85 0 0 (ab_End (fun v σ' => Wire σ' ∧ ∃ r : Int32, v = some (.int r) ∧ Q r σ') (fun X σ' => Wire σ' ∧ E X σ')) 15 [(0, .ref 3), (1, .ref a0), (2, .int a1), (4, .int x4)] [] σ := by
      intro Bk k_Bk
      intro x4  σ hW h
      refine V_iload 10 3 rfl rfl ?_
      refine V_aload_n 11 1 rfl rfl rfl ?_
      refine V_callK 12 0 (as := []) (rest := [.int x4]) rfl mlX6_109 yvJ0_length_8abf5 rfl rfl ha0 (by decide) (by decide) (Nat.le_of_ble_eq_true rfl) (by decide) (by decide) (fun B9 => ceJ0_length hl B9 ha0) (fun X9 τ9 h9 => absurd h9 id) ?_
      rintro v9 τ9 ⟨rfl, e9⟩
      subst τ9
      refine V_icmp_ge 13 (tgt := 53) rfl (by decide) (fun hc => ?_) (fun hc => ?_)
      · replace h := h.1 hc
        refine V_iconst 29 (v := (1 : Int32)) rfl (by decide) ?_
        exact V_zret 30 rfl rfl rfl ⟨hW, _, rfl, h⟩
      · replace h := h.2 hc
        refine V_pc 24 rfl ?_
        refine V_aload_n 14 0 rfl rfl rfl ?_
        refine V_getR 15 0 rfl clX6 flX6_22 (by decide) (wsh hW rfl) (fun _ => rfl) (wrf hW 12 rfl) ?_
        refine V_getR 16 0 rfl clX8 flX6_61 (by decide) (wsh hW rfl) (fun _ => rfl) (wrf hW 11 rfl) ?_
        refine V_iload_n 17 2 rfl rfl rfl ?_
        refine V_iload 18 3 rfl rfl ?_
        refine V_iadd 19 rfl ?_
        refine V_pc 35 rfl ?_
        obtain ⟨hin, h⟩ := h
        refine V_cald 20 rfl (wsh hW rfl) hin ?_
        refine V_aload_n 21 1 rfl rfl rfl ?_
        refine V_iload 22 3 rfl rfl ?_
        obtain ⟨hin, h⟩ := h
        refine V_callK 23 1 (as := [.int x4]) (rest := [.int (σ.2.1 2 (a1 + x4).toNatClampNeg)]) rfl mlX6_112 yvJ0_charAt_5068e rfl rfl ha0 (by decide) (by decide) (Nat.le_of_ble_eq_true rfl) (by decide) (by decide) (fun B9 => ceJ0_charAt hl B9 ha0 hin) (fun X9 τ9 h9 => absurd h9 id) ?_
        rintro v9 τ9 ⟨rfl, e9⟩
        subst τ9
        refine V_icmp_eq 24 (tgt := 47) rfl (by decide) (fun hc => ?_) (fun hc => ?_)
        · replace h := h.1 hc
          obtain ⟨v1, ev1⟩ : ∃ z : Int32, z = (x4 + 1) := ⟨_, rfl⟩
          replace h := h v1 ev1
          refine V_iinc 27 3 (v := v1) (lv' := [(4, .int v1), (0, .ref 3), (1, .ref a0), (2, .int a1)]) rfl rfl ((in_1 _).trans ev1.symm) (by decide) rfl ?_
          refine V_goto 28 (tgt := 15) rfl (by decide) ?_
          refine V_sub [1, 2, 3, 0] (lv' := [(0, .ref 3), (1, .ref a0), (2, .int a1), (4, .int v1)]) rfl ?_
          exact k_Bk v1  σ hW h
        · replace h := h.2 hc
          refine V_pc 45 rfl ?_
          refine V_iconst 25 (v := (0 : Int32)) rfl (by decide) ?_
          exact V_zret 26 rfl rfl rfl ⟨hW, _, rfl, h⟩
    intro n
    induction n with
    | zero => intro x4  σ hW h; exact absurd h id
    | succ n ih => exact step  _ ih
  intro σ hW h
  refine V_iload_n 0 3 rfl rfl rfl ?_
  refine V_iload_n 1 2 rfl rfl rfl ?_
  refine V_isub 2 rfl ?_
  refine V_aload_n 3 1 rfl rfl rfl ?_
  refine V_callK 4 0 (as := []) (rest := [.int (a2 - a1)]) rfl mlX6_109 yvJ0_length_8abf5 rfl rfl ha0 (by decide) (by decide) (Nat.le_of_ble_eq_true rfl) (by decide) (by decide) (fun B9 => ceJ0_length hl B9 ha0) (fun X9 τ9 h9 => absurd h9 id) ?_
  rintro v9 τ9 ⟨rfl, e9⟩
  subst τ9
  refine V_icmp_eq 5 (tgt := 12) rfl (by decide) (fun hc => ?_) (fun hc => ?_)
  · replace h := h.1 hc
    refine V_iconst 8 (v := (0 : Int32)) rfl (by decide) ?_
    refine V_istore 9 (lv' := [(4, .int (0 : Int32)), (0, .ref 3), (1, .ref a0), (2, .int a1), (3, .int a2)]) rfl (by decide) rfl ?_
    refine V_sub [1, 2, 3, 0] (lv' := [(0, .ref 3), (1, .ref a0), (2, .int a1), (4, .int (0 : Int32))]) rfl ?_
    obtain ⟨n, h⟩ := h
    exact k_l15 n (0 : Int32) σ hW h
  · replace h := h.2 hc
    refine V_pc 10 rfl ?_
    refine V_iconst 6 (v := (0 : Int32)) rfl (by decide) ?_
    exact V_zret 7 rfl rfl rfl ⟨hW, _, rfl, h⟩

def wX6_kindOfName (a0 : Int32) (a1 : Int32) (Q : Int32 → ab_S → Prop) (E : String → ab_S → Prop) (σ : ab_S) : Prop := wX6_spells 1000001 a0 a1 (fun u2 σ1 => ((u2 = 0) → wX6_spells 1000002 a0 a1 (fun u4 σ3 => ((u4 = 0) → wX6_spells 1000003 a0 a1 (fun u6 σ5 => ((u6 = 0) → wX6_spells 1000004 a0 a1 (fun u8 σ7 => ((u8 = 0) → wX6_spells 1000005 a0 a1 (fun u10 σ9 => ((u10 = 0) → wX6_spells 1000006 a0 a1 (fun u12 σ11 => ((u12 = 0) → Q (2 : Int32) σ11) ∧ (¬ (u12 = 0) → Q (9 : Int32) σ11)) E σ9) ∧ (¬ (u10 = 0) → Q (8 : Int32) σ9)) E σ7) ∧ (¬ (u8 = 0) → Q (7 : Int32) σ7)) E σ5) ∧ (¬ (u6 = 0) → Q (6 : Int32) σ5)) E σ3) ∧ (¬ (u4 = 0) → Q (5 : Int32) σ3)) E σ1) ∧ (¬ (u2 = 0) → Q (4 : Int32) σ1)) E σ
set_option maxHeartbeats 4000000 in
set_option maxRecDepth 100000 in
theorem ceX6_kindOfName {l : Launch} (hl : l.stackTraces = false) (B : Nat) {a0 : Int32} {a1 : Int32}  {Q : Int32 → ab_S → Prop} {E : String → ab_S → Prop} {σ : ab_S} (hW : Wire σ) (h : wX6_kindOfName a0 a1 Q E σ) : ab_Mt l yX6_kindOfName mdX6_kindOfName B 5 109 0 0 [.ref 3, .int a0, .int a1] σ (fun v σ' => Wire σ' ∧ ∃ r : Int32, v = some (.int r) ∧ Q r σ') (fun X σ' => Wire σ' ∧ E X σ') := by
  refine V_met hl ⟨rfl, rfl, by decide⟩ rfl dkX6_kindOfName (Nat.le_of_ble_eq_true rfl) ?_
  show V l mdX6_kindOfName B 5 109 0 0 (ab_End _ _) 0 [(0, .ref 3), (1, .int a0), (2, .int a1)] [] σ
  refine V_aload_n 0 0 rfl rfl rfl ?_
  refine V_ldcS 1 0 rfl rfl (by decide) rfl ?_
  refine V_iload_n 2 1 rfl rfl rfl ?_
  refine V_iload_n 3 2 rfl rfl rfl ?_
  refine V_callV 4 3 (as := [.ref 1000001, .int a0, .int a1]) (rest := []) rfl mlX6_95 yvX6_spells rfl rfl clX6 (wsh hW rfl) (by decide) (by decide) (Nat.le_of_ble_eq_true rfl) (by decide) (by decide) (fun B9 => ceX6_spells hl B9 ⟨by decide, by decide⟩ hW h) (fun X9 τ9 h9 => VX_out rfl h9) ?_
  rintro v9 σ1 ⟨hW, u2, rfl, h⟩
  refine V_if_eq 5 (tgt := 13) rfl (by decide) (fun hc => ?_) (fun hc => ?_)
  · replace h := h.1 hc
    refine V_aload_n 8 0 rfl rfl rfl ?_
    refine V_ldcS 9 1 rfl rfl (by decide) rfl ?_
    refine V_iload_n 10 1 rfl rfl rfl ?_
    refine V_iload_n 11 2 rfl rfl rfl ?_
    refine V_callV 12 3 (as := [.ref 1000002, .int a0, .int a1]) (rest := []) rfl mlX6_95 yvX6_spells rfl rfl clX6 (wsh hW rfl) (by decide) (by decide) (Nat.le_of_ble_eq_true rfl) (by decide) (by decide) (fun B9 => ceX6_spells hl B9 ⟨by decide, by decide⟩ hW h) (fun X9 τ9 h9 => VX_out rfl h9) ?_
    rintro v9 σ3 ⟨hW, u4, rfl, h⟩
    refine V_if_eq 13 (tgt := 26) rfl (by decide) (fun hc => ?_) (fun hc => ?_)
    · replace h := h.1 hc
      refine V_aload_n 16 0 rfl rfl rfl ?_
      refine V_ldcS 17 2 rfl rfl (by decide) rfl ?_
      refine V_iload_n 18 1 rfl rfl rfl ?_
      refine V_iload_n 19 2 rfl rfl rfl ?_
      refine V_callV 20 3 (as := [.ref 1000003, .int a0, .int a1]) (rest := []) rfl mlX6_95 yvX6_spells rfl rfl clX6 (wsh hW rfl) (by decide) (by decide) (Nat.le_of_ble_eq_true rfl) (by decide) (by decide) (fun B9 => ceX6_spells hl B9 ⟨by decide, by decide⟩ hW h) (fun X9 τ9 h9 => VX_out rfl h9) ?_
      rintro v9 σ5 ⟨hW, u6, rfl, h⟩
      refine V_if_eq 21 (tgt := 40) rfl (by decide) (fun hc => ?_) (fun hc => ?_)
      · replace h := h.1 hc
        refine V_aload_n 24 0 rfl rfl rfl ?_
        refine V_ldcS 25 3 rfl rfl (by decide) rfl ?_
        refine V_iload_n 26 1 rfl rfl rfl ?_
        refine V_iload_n 27 2 rfl rfl rfl ?_
        refine V_callV 28 3 (as := [.ref 1000004, .int a0, .int a1]) (rest := []) rfl mlX6_95 yvX6_spells rfl rfl clX6 (wsh hW rfl) (by decide) (by decide) (Nat.le_of_ble_eq_true rfl) (by decide) (by decide) (fun B9 => ceX6_spells hl B9 ⟨by decide, by decide⟩ hW h) (fun X9 τ9 h9 => VX_out rfl h9) ?_
        rintro v9 σ7 ⟨hW, u8, rfl, h⟩
        refine V_if_eq 29 (tgt := 54) rfl (by decide) (fun hc => ?_) (fun hc => ?_)
        · replace h := h.1 hc
          refine V_aload_n 32 0 rfl rfl rfl ?_
          refine V_ldcS 33 4 rfl rfl (by decide) rfl ?_
          refine V_iload_n 34 1 rfl rfl rfl ?_
          refine V_iload_n 35 2 rfl rfl rfl ?_
          refine V_callV 36 3 (as := [.ref 1000005, .int a0, .int a1]) (rest := []) rfl mlX6_95 yvX6_spells rfl rfl clX6 (wsh hW rfl) (by decide) (by decide) (Nat.le_of_ble_eq_true rfl) (by decide) (by decide) (fun B9 => ceX6_spells hl B9 ⟨by decide, by decide⟩ hW h) (fun X9 τ9 h9 => VX_out rfl h9) ?_
          rintro v9 σ9 ⟨hW, u10, rfl, h⟩
          refine V_if_eq 37 (tgt := 68) rfl (by decide) (fun hc => ?_) (fun hc => ?_)
          · replace h := h.1 hc
            refine V_aload_n 40 0 rfl rfl rfl ?_
            refine V_ldcS 41 5 rfl rfl (by decide) rfl ?_
            refine V_iload_n 42 1 rfl rfl rfl ?_
            refine V_iload_n 43 2 rfl rfl rfl ?_
            refine V_callV 44 3 (as := [.ref 1000006, .int a0, .int a1]) (rest := []) rfl mlX6_95 yvX6_spells rfl rfl clX6 (wsh hW rfl) (by decide) (by decide) (Nat.le_of_ble_eq_true rfl) (by decide) (by decide) (fun B9 => ceX6_spells hl B9 ⟨by decide, by decide⟩ hW h) (fun X9 τ9 h9 => VX_out rfl h9) ?_
            rintro v9 σ11 ⟨hW, u12, rfl, h⟩
            refine V_if_eq 45 (tgt := 84) rfl (by decide) (fun hc => ?_) (fun hc => ?_)
            · replace h := h.1 hc
              refine V_iconst 48 (v := (2 : Int32)) rfl (by decide) ?_
              exact V_iret 49 rfl rfl ⟨hW, _, rfl, h⟩
            · replace h := h.2 hc
              refine V_pc 79 rfl ?_
              refine V_bipush 46 (v := (9 : Int32)) rfl (by decide) ?_
              refine V_goto 47 (tgt := 85) rfl (by decide) ?_
              exact V_iret 49 rfl rfl ⟨hW, _, rfl, h⟩
          · replace h := h.2 hc
            refine V_pc 65 rfl ?_
            refine V_bipush 38 (v := (8 : Int32)) rfl (by decide) ?_
            exact V_iret 39 rfl rfl ⟨hW, _, rfl, h⟩
        · replace h := h.2 hc
          refine V_pc 51 rfl ?_
          refine V_bipush 30 (v := (7 : Int32)) rfl (by decide) ?_
          exact V_iret 31 rfl rfl ⟨hW, _, rfl, h⟩
      · replace h := h.2 hc
        refine V_pc 37 rfl ?_
        refine V_bipush 22 (v := (6 : Int32)) rfl (by decide) ?_
        exact V_iret 23 rfl rfl ⟨hW, _, rfl, h⟩
    · replace h := h.2 hc
      refine V_pc 24 rfl ?_
      refine V_iconst 14 (v := (5 : Int32)) rfl (by decide) ?_
      exact V_iret 15 rfl rfl ⟨hW, _, rfl, h⟩
  · replace h := h.2 hc
    refine V_pc 11 rfl ?_
    refine V_iconst 6 (v := (4 : Int32)) rfl (by decide) ?_
    exact V_iret 7 rfl rfl ⟨hW, _, rfl, h⟩

def wX6_scanName_j98 (a0 : Int32) (Q : Int32 → ab_S → Prop) (E : String → ab_S → Prop) (x4 : Int32) (y0 : Int32) (y1 : Int32) (σ : ab_S) : Prop := vp_in y1 2401 ∧ (∀ σ1 : ab_S, σ1 = ab_I σ 4 y1.toNatClampNeg y0 → Q x4 σ1)
def wX6_scanName_j60 (a0 : Int32) (Q : Int32 → ab_S → Prop) (E : String → ab_S → Prop) (x2 : Int64) (x4 : Int32) (σ : ab_S) : Prop := vp_in (σ.2.1 3 4) 2401 ∧ (∀ σ2 : ab_S, σ2 = ab_L σ 6 (σ.2.1 3 4).toNatClampNeg x2 → (((x4 - a0) ≤ (8 : Int32)) → wX6_kindOfName a0 x4 (fun u4 σ3 => wX6_scanName_j98 a0 Q E x4 u4 (σ2.2.1 3 4) σ3) E σ2) ∧ (¬ ((x4 - a0) ≤ (8 : Int32)) → wX6_scanName_j98 a0 Q E x4 (1 : Int32) (σ2.2.1 3 4) σ2))
def wX6_scanName_l5_b (a0 : Int32) (Q : Int32 → ab_S → Prop) (E : String → ab_S → Prop) (K60 : Int64 → Int32 → ab_S → Prop) (Bk : Int64 → Int32 → ab_S → Prop) (x2 : Int64) (x4 : Int32) (σ : ab_S) : Prop := (((σ.2.1 1 1) ≤ x4) → K60 x2 x4 σ) ∧ (¬ ((σ.2.1 1 1) ≤ x4) → vp_in x4 2400 ∧ (wX6_isLetter (σ.2.1 2 x4.toNatClampNeg) (fun u6 σ5 => ((u6 = 0) → K60 x2 x4 σ5) ∧ (¬ (u6 = 0) → vp_in x4 2400 ∧ (∀ v7 : Int64, v7 = ((x2 <<< ((5 : Int32).toInt64 &&& 63)) ||| ((((σ5.2.1 2 x4.toNatClampNeg) - (97 : Int32)) + (1 : Int32)).toInt64)) → ∀ v8 : Int32, v8 = (x4 + 1) → Bk v7 v8 σ5))) E σ))
def wX6_scanName_l5 (a0 : Int32) (Q : Int32 → ab_S → Prop) (E : String → ab_S → Prop) (K60 : Int64 → Int32 → ab_S → Prop) : Nat → Int64 → Int32 → ab_S → Prop
  | 0, _, _, _ => False
  | n + 1, x2, x4, σ => wX6_scanName_l5_b a0 Q E K60 (wX6_scanName_l5 a0 Q E K60 n) x2 x4 σ
def wX6_scanName (a0 : Int32) (Q : Int32 → ab_S → Prop) (E : String → ab_S → Prop) (σ : ab_S) : Prop := ∃ n, wX6_scanName_l5 a0 Q E (wX6_scanName_j60 a0 Q E) n (0 : Int64) a0 σ
set_option maxHeartbeats 4000000 in
set_option maxRecDepth 100000 in
theorem ceX6_scanName {l : Launch} (hl : l.stackTraces = false) (B : Nat) {a0 : Int32}  {Q : Int32 → ab_S → Prop} {E : String → ab_S → Prop} {σ : ab_S} (hW : Wire σ) (h : wX6_scanName a0 Q E σ) : ab_Mt l yX6_scanName mdX6_scanName B 6 131 0 0 [.ref 3, .int a0] σ (fun v σ' => Wire σ' ∧ ∃ r : Int32, v = some (.int r) ∧ Q r σ') (fun X σ' => Wire σ' ∧ E X σ') := by
  refine V_met hl ⟨rfl, rfl, by decide⟩ rfl dkX6_scanName (Nat.le_of_ble_eq_true rfl) ?_
  show V l mdX6_scanName B 6 131 0 0 (ab_End _ _) 0 [(0, .ref 3), (1, .int a0)] [] σ
  revert h hW
  revert σ
  have k_j98 : ∀ (x4 : Int32) (y0 : Int32) (y1 : Int32)  (σ : ab_S), Wire σ → wX6_scanName_j98 a0 Q E x4 y0 y1 σ → V l mdX6_scanName B 6 131 0 0 (ab_End (fun v σ' => Wire σ' ∧ ∃ r : Int32, v = some (.int r) ∧ Q r σ') (fun X σ' => Wire σ' ∧ E X σ')) 98 [(4, .int x4)] [.int y0, .int y1, .ref 4] σ := by
    intro x4 y0 y1  σ hW h
    obtain ⟨hin, h⟩ := h
    refine V_iast 54 rfl (wsh hW rfl) hin ?_
    refine V_nm (fun σ1 eσ1 => ?_)
    replace h := h σ1 eσ1
    have hW := wire_I eσ1 hW
    refine V_iload 55 0 rfl rfl ?_
    exact V_iret 56 rfl rfl ⟨hW, _, rfl, h⟩
  have k_j60 : ∀ (x2 : Int64) (x4 : Int32)  (σ : ab_S), Wire σ → wX6_scanName_j60 a0 Q E x2 x4 σ → V l mdX6_scanName B 6 131 0 0 (ab_End (fun v σ' => Wire σ' ∧ ∃ r : Int32, v = some (.int r) ∧ Q r σ') (fun X σ' => Wire σ' ∧ E X σ')) 60 [(0, .ref 3), (1, .int a0), (2, .long x2), (4, .int x4)] [] σ := by
    intro x2 x4  σ hW h
    refine V_aload_n 33 0 rfl rfl rfl ?_
    refine V_getR 34 3 rfl clX6 flX6_18 (by decide) (wsh hW rfl) (fun _ => rfl) (wrf hW 15 rfl) ?_
    refine V_aload_n 35 0 rfl rfl rfl ?_
    refine V_get (v := .int (σ.2.1 3 4)) 36 4 rfl clX6 flX6_26 (by decide) (wsh hW rfl) (fun _ => rfl) ?_
    refine V_lload_n 37 2 rfl rfl rfl ?_
    obtain ⟨hin, h⟩ := h
    refine V_last 38 rfl (wsh hW rfl) hin ?_
    refine V_nm (fun σ2 eσ2 => ?_)
    replace h := h σ2 eσ2
    have hW := wire_L eσ2 hW
    refine V_pc 70 rfl ?_
    refine V_aload_n 39 0 rfl rfl rfl ?_
    refine V_getR 40 1 rfl clX6 flX6_9 (by decide) (wsh hW rfl) (fun _ => rfl) (wrf hW 13 rfl) ?_
    refine V_aload_n 41 0 rfl rfl rfl ?_
    refine V_get (v := .int (σ2.2.1 3 4)) 42 4 rfl clX6 flX6_26 (by decide) (wsh hW rfl) (fun _ => rfl) ?_
    refine V_iload 43 3 rfl rfl ?_
    refine V_iload_n 44 1 rfl rfl rfl ?_
    refine V_pc 81 rfl ?_
    refine V_isub 45 rfl ?_
    refine V_bipush 46 (v := (8 : Int32)) rfl (by decide) ?_
    refine V_icmp_le 47 (tgt := 91) rfl (by decide) (fun hc => ?_) (fun hc => ?_)
    · replace h := h.1 hc
      refine V_aload_n 50 0 rfl rfl rfl ?_
      refine V_iload_n 51 1 rfl rfl rfl ?_
      refine V_iload 52 3 rfl rfl ?_
      refine V_callV 53 2 (as := [.int a0, .int x4]) (rest := [.int (σ2.2.1 3 4), .ref 4]) rfl mlX6_85 yvX6_kindOfName rfl rfl clX6 (wsh hW rfl) (by decide) (by decide) (Nat.le_of_ble_eq_true rfl) (by decide) (by decide) (fun B9 => ceX6_kindOfName hl B9 hW h) (fun X9 τ9 h9 => VX_out rfl h9) ?_
      rintro v9 σ3 ⟨hW, u4, rfl, h⟩
      refine V_sub [3] (lv' := [(4, .int x4)]) rfl ?_
      exact k_j98 x4 u4 (σ2.2.1 3 4) σ3 hW h
    · replace h := h.2 hc
      refine V_pc 87 rfl ?_
      refine V_iconst 48 (v := (1 : Int32)) rfl (by decide) ?_
      refine V_goto 49 (tgt := 98) rfl (by decide) ?_
      refine V_sub [3] (lv' := [(4, .int x4)]) rfl ?_
      exact k_j98 x4 (1 : Int32) (σ2.2.1 3 4) σ2 hW h
  have k_l5 : ∀ (n : Nat) (x2 : Int64) (x4 : Int32)  (σ : ab_S), Wire σ → wX6_scanName_l5 a0 Q E (wX6_scanName_j60 a0 Q E) n x2 x4 σ → V l mdX6_scanName B 6 131 0 0 (ab_End (fun v σ' => Wire σ' ∧ ∃ r : Int32, v = some (.int r) ∧ Q r σ') (fun X σ' => Wire σ' ∧ E X σ')) 5 [(0, .ref 3), (1, .int a0), (2, .long x2), (4, .int x4)] [] σ := by
    have step : ∀ (K60 : Int64 → Int32 → ab_S → Prop) (k_K60 : ∀ (x2 : Int64) (x4 : Int32)  (σ : ab_S), Wire σ → K60 x2 x4 σ → V l mdX6_scanName B 6 131 0 0 (ab_End (fun v σ' => Wire σ' ∧ ∃ r : Int32, v = some (.int r) ∧ Q r σ') (fun X σ' => Wire σ' ∧ E X σ')) 60 [(0, .ref 3), (1, .int a0), (2, .long x2), (4, .int x4)] [] σ), ∀ (Bk : Int64 → Int32 → ab_S → Prop) (k_Bk : ∀ (x2 : Int64) (x4 : Int32)  (σ : ab_S), Wire σ → Bk x2 x4 σ → V l mdX6_scanName B 6 131 0 0 (ab_End (fun v σ' => Wire σ' ∧ ∃ r : Int32, v = some (.int r) ∧ Q r σ') (fun X σ' => Wire σ' ∧ E X σ')) 5 [(0, .ref 3), (1, .int a0), (2, .long x2), (4, .int x4)] [] σ), ∀ (x2 : Int64) (x4 : Int32)  (σ : ab_S), Wire σ → wX6_scanName_l5_b a0 Q E K60 Bk x2 x4 σ → V l mdX6_scanName B 6 131 0 0 (ab_End (fun v σ' => Wire σ' ∧ ∃ r : Int32, v = some (.int r) ∧ Q r σ') (fun X σ' => Wire σ' ∧ E X σ')) 5 [(0, .ref 3), (1, .int a0), (2, .long x2), (4, .int x4)] [] σ := by
      intro K60 k_K60 Bk k_Bk
      intro x2 x4  σ hW h
      refine V_iload 4 3 rfl rfl ?_
      refine V_aload_n 5 0 rfl rfl rfl ?_
      refine V_getR 6 0 rfl clX6 flX6_22 (by decide) (wsh hW rfl) (fun _ => rfl) (wrf hW 12 rfl) ?_
      refine V_get (v := .int (σ.2.1 1 1)) 7 1 rfl clX8 flX6_56 (by decide) (wsh hW rfl) (fun _ => rfl) ?_
      refine V_icmp_ge 8 (tgt := 60) rfl (by decide) (fun hc => ?_) (fun hc => ?_)
      · replace h := h.1 hc
        exact k_K60 x2 x4  σ hW h
      · replace h := h.2 hc
        refine V_pc 17 rfl ?_
        refine V_aload_n 9 0 rfl rfl rfl ?_
        refine V_getR 10 0 rfl clX6 flX6_22 (by decide) (wsh hW rfl) (fun _ => rfl) (wrf hW 12 rfl) ?_
        refine V_getR 11 0 rfl clX8 flX6_61 (by decide) (wsh hW rfl) (fun _ => rfl) (wrf hW 11 rfl) ?_
        refine V_iload 12 3 rfl rfl ?_
        obtain ⟨hin, h⟩ := h
        refine V_cald 13 rfl (wsh hW rfl) hin ?_
        refine V_callS 14 1 (as := [.int (σ.2.1 2 x4.toNatClampNeg)]) (rest := []) rfl mlX6_65 yvX6_isLetter rfl rfl (by decide) (by decide) (Nat.le_of_ble_eq_true rfl) (by decide) (by decide) (fun B9 => ceX6_isLetter hl B9 hW h) (fun X9 τ9 h9 => VX_out rfl h9) ?_
        rintro v9 σ5 ⟨hW, u6, rfl, h⟩
        refine V_if_eq 15 (tgt := 60) rfl (by decide) (fun hc => ?_) (fun hc => ?_)
        · replace h := h.1 hc
          exact k_K60 x2 x4  σ5 hW h
        · replace h := h.2 hc
          refine V_pc 33 rfl ?_
          refine V_lload_n 16 2 rfl rfl rfl ?_
          refine V_iconst 17 (v := (5 : Int32)) rfl (by decide) ?_
          refine V_lshl 18 rfl ?_
          refine V_aload_n 19 0 rfl rfl rfl ?_
          refine V_getR 20 0 rfl clX6 flX6_22 (by decide) (wsh hW rfl) (fun _ => rfl) (wrf hW 12 rfl) ?_
          refine V_getR 21 0 rfl clX8 flX6_61 (by decide) (wsh hW rfl) (fun _ => rfl) (wrf hW 11 rfl) ?_
          refine V_pc 43 rfl ?_
          refine V_iload 22 3 rfl rfl ?_
          obtain ⟨hin, h⟩ := h
          refine V_cald 23 rfl (wsh hW rfl) hin ?_
          refine V_bipush 24 (v := (97 : Int32)) rfl (by decide) ?_
          refine V_isub 25 rfl ?_
          refine V_iconst 26 (v := (1 : Int32)) rfl (by decide) ?_
          refine V_iadd 27 rfl ?_
          refine V_pc 51 rfl ?_
          refine V_i2l 28 rfl ?_
          refine V_lor 29 rfl ?_
          refine V_topl (fun v7 ev7 => ?_)
          replace h := h v7 ev7
          refine V_lstore_n 30 (lv' := [(2, .long v7), (0, .ref 3), (1, .int a0), (4, .int x4)]) rfl rfl (by decide) rfl ?_
          obtain ⟨v8, ev8⟩ : ∃ z : Int32, z = (x4 + 1) := ⟨_, rfl⟩
          replace h := h v8 ev8
          refine V_iinc 31 3 (v := v8) (lv' := [(4, .int v8), (2, .long v7), (0, .ref 3), (1, .int a0)]) rfl rfl ((in_1 _).trans ev8.symm) (by decide) rfl ?_
          refine V_goto 32 (tgt := 5) rfl (by decide) ?_
          refine V_sub [2, 3, 1, 0] (lv' := [(0, .ref 3), (1, .int a0), (2, .long v7), (4, .int v8)]) rfl ?_
          exact k_Bk v7 v8  σ5 hW h
    intro n
    induction n with
    | zero => intro x2 x4  σ hW h; exact absurd h id
    | succ n ih => exact step _ k_j60 _ ih
  intro σ hW h
  refine V_lconst 0 (v := (0 : Int64)) rfl (by decide) ?_
  refine V_lstore_n 1 (lv' := [(2, .long (0 : Int64)), (0, .ref 3), (1, .int a0)]) rfl rfl (by decide) rfl ?_
  refine V_iload_n 2 2 rfl rfl rfl ?_
  refine V_istore 3 (lv' := [(4, .int a0), (2, .long (0 : Int64)), (0, .ref 3), (1, .int a0)]) rfl (by decide) rfl ?_
  refine V_sub [2, 3, 1, 0] (lv' := [(0, .ref 3), (1, .int a0), (2, .long (0 : Int64)), (4, .int a0)]) rfl ?_
  obtain ⟨n, h⟩ := h
  exact k_l5 n (0 : Int64) a0 σ hW h

def wX6_isDigit (a0 : Int32) (Q : Int32 → ab_S → Prop) (E : String → ab_S → Prop) (σ : ab_S) : Prop := ((a0 < (48 : Int32)) → Q (0 : Int32) σ) ∧ (¬ (a0 < (48 : Int32)) → (((57 : Int32) < a0) → Q (0 : Int32) σ) ∧ (¬ ((57 : Int32) < a0) → Q (1 : Int32) σ))
set_option maxHeartbeats 4000000 in
set_option maxRecDepth 100000 in
theorem ceX6_isDigit {l : Launch} (hl : l.stackTraces = false) (B : Nat) {a0 : Int32}  {Q : Int32 → ab_S → Prop} {E : String → ab_S → Prop} {σ : ab_S} (hW : Wire σ) (h : wX6_isDigit a0 Q E σ) : ab_Mt l yX6_isDigit mdX6_isDigit B 0 0 0 0 [.int a0] σ (fun v σ' => Wire σ' ∧ ∃ r : Int32, v = some (.int r) ∧ Q r σ') (fun X σ' => Wire σ' ∧ E X σ') := by
  refine V_met hl ⟨rfl, rfl, by decide⟩ rfl dkX6_isDigit (Nat.le_of_ble_eq_true rfl) ?_
  show V l mdX6_isDigit B 0 0 0 0 (ab_End _ _) 0 [(0, .int a0)] [] σ
  refine V_iload_n 0 0 rfl rfl rfl ?_
  refine V_bipush 1 (v := (48 : Int32)) rfl (by decide) ?_
  refine V_icmp_lt 2 (tgt := 16) rfl (by decide) (fun hc => ?_) (fun hc => ?_)
  · replace h := h.1 hc
    refine V_iconst 8 (v := (0 : Int32)) rfl (by decide) ?_
    exact V_zret 9 rfl rfl rfl ⟨hW, _, rfl, h⟩
  · replace h := h.2 hc
    refine V_pc 6 rfl ?_
    refine V_iload_n 3 0 rfl rfl rfl ?_
    refine V_bipush 4 (v := (57 : Int32)) rfl (by decide) ?_
    refine V_icmp_gt 5 (tgt := 16) rfl (by decide) (fun hc => ?_) (fun hc => ?_)
    · replace h := h.1 hc
      refine V_iconst 8 (v := (0 : Int32)) rfl (by decide) ?_
      exact V_zret 9 rfl rfl rfl ⟨hW, _, rfl, h⟩
    · replace h := h.2 hc
      refine V_pc 12 rfl ?_
      refine V_iconst 6 (v := (1 : Int32)) rfl (by decide) ?_
      refine V_goto 7 (tgt := 17) rfl (by decide) ?_
      exact V_zret 9 rfl rfl rfl ⟨hW, _, rfl, h⟩

def wX6_scanNumber_j93 (a0 : Int32) (Q : Int32 → ab_S → Prop) (E : String → ab_S → Prop) (x4 : Int32) (y0 : Int32) (y1 : Int32) (σ : ab_S) : Prop := vp_in y1 2401 ∧ (∀ σ1 : ab_S, σ1 = ab_I σ 4 y1.toNatClampNeg y0 → Q x4 σ1)
def wX6_scanNumber_j61 (a0 : Int32) (Q : Int32 → ab_S → Prop) (E : String → ab_S → Prop) (x2 : Int64) (x4 : Int32) (σ : ab_S) : Prop := vp_in (σ.2.1 3 4) 2401 ∧ (∀ σ2 : ab_S, σ2 = ab_L σ 6 (σ.2.1 3 4).toNatClampNeg x2 → (((x4 - a0) ≤ (6 : Int32)) → wX6_scanNumber_j93 a0 Q E x4 (3 : Int32) (σ2.2.1 3 4) σ2) ∧ (¬ ((x4 - a0) ≤ (6 : Int32)) → wX6_scanNumber_j93 a0 Q E x4 (1 : Int32) (σ2.2.1 3 4) σ2))
def wX6_scanNumber_l5_b (a0 : Int32) (Q : Int32 → ab_S → Prop) (E : String → ab_S → Prop) (K61 : Int64 → Int32 → ab_S → Prop) (Bk : Int64 → Int32 → ab_S → Prop) (x2 : Int64) (x4 : Int32) (σ : ab_S) : Prop := (((σ.2.1 1 1) ≤ x4) → K61 x2 x4 σ) ∧ (¬ ((σ.2.1 1 1) ≤ x4) → vp_in x4 2400 ∧ (wX6_isDigit (σ.2.1 2 x4.toNatClampNeg) (fun u4 σ3 => ((u4 = 0) → K61 x2 x4 σ3) ∧ (¬ (u4 = 0) → vp_in x4 2400 ∧ (∀ v5 : Int64, v5 = (((x2 * (10 : Int64)) + ((σ3.2.1 2 x4.toNatClampNeg).toInt64)) - (48 : Int64)) → ∀ v6 : Int32, v6 = (x4 + 1) → Bk v5 v6 σ3))) E σ))
def wX6_scanNumber_l5 (a0 : Int32) (Q : Int32 → ab_S → Prop) (E : String → ab_S → Prop) (K61 : Int64 → Int32 → ab_S → Prop) : Nat → Int64 → Int32 → ab_S → Prop
  | 0, _, _, _ => False
  | n + 1, x2, x4, σ => wX6_scanNumber_l5_b a0 Q E K61 (wX6_scanNumber_l5 a0 Q E K61 n) x2 x4 σ
def wX6_scanNumber (a0 : Int32) (Q : Int32 → ab_S → Prop) (E : String → ab_S → Prop) (σ : ab_S) : Prop := ∃ n, wX6_scanNumber_l5 a0 Q E (wX6_scanNumber_j61 a0 Q E) n (0 : Int64) a0 σ
set_option maxHeartbeats 4000000 in
set_option maxRecDepth 100000 in
theorem ceX6_scanNumber {l : Launch} (hl : l.stackTraces = false) (B : Nat) {a0 : Int32}  {Q : Int32 → ab_S → Prop} {E : String → ab_S → Prop} {σ : ab_S} (hW : Wire σ) (h : wX6_scanNumber a0 Q E σ) : ab_Mt l yX6_scanNumber mdX6_scanNumber B 1 20 0 0 [.ref 3, .int a0] σ (fun v σ' => Wire σ' ∧ ∃ r : Int32, v = some (.int r) ∧ Q r σ') (fun X σ' => Wire σ' ∧ E X σ') := by
  refine V_met hl ⟨rfl, rfl, by decide⟩ rfl dkX6_scanNumber (Nat.le_of_ble_eq_true rfl) ?_
  show V l mdX6_scanNumber B 1 20 0 0 (ab_End _ _) 0 [(0, .ref 3), (1, .int a0)] [] σ
  revert h hW
  revert σ
  have k_j93 : ∀ (x4 : Int32) (y0 : Int32) (y1 : Int32)  (σ : ab_S), Wire σ → wX6_scanNumber_j93 a0 Q E x4 y0 y1 σ → V l mdX6_scanNumber B 1 20 0 0 (ab_End (fun v σ' => Wire σ' ∧ ∃ r : Int32, v = some (.int r) ∧ Q r σ') (fun X σ' => Wire σ' ∧ E X σ')) 93 [(4, .int x4)] [.int y0, .int y1, .ref 4] σ := by
    intro x4 y0 y1  σ hW h
    obtain ⟨hin, h⟩ := h
    refine V_iast 49 rfl (wsh hW rfl) hin ?_
    refine V_nm (fun σ1 eσ1 => ?_)
    replace h := h σ1 eσ1
    have hW := wire_I eσ1 hW
    refine V_iload 50 0 rfl rfl ?_
    exact V_iret 51 rfl rfl ⟨hW, _, rfl, h⟩
  have k_j61 : ∀ (x2 : Int64) (x4 : Int32)  (σ : ab_S), Wire σ → wX6_scanNumber_j61 a0 Q E x2 x4 σ → V l mdX6_scanNumber B 1 20 0 0 (ab_End (fun v σ' => Wire σ' ∧ ∃ r : Int32, v = some (.int r) ∧ Q r σ') (fun X σ' => Wire σ' ∧ E X σ')) 61 [(0, .ref 3), (1, .int a0), (2, .long x2), (4, .int x4)] [] σ := by
    intro x2 x4  σ hW h
    refine V_aload_n 31 0 rfl rfl rfl ?_
    refine V_getR 32 3 rfl clX6 flX6_18 (by decide) (wsh hW rfl) (fun _ => rfl) (wrf hW 15 rfl) ?_
    refine V_aload_n 33 0 rfl rfl rfl ?_
    refine V_get (v := .int (σ.2.1 3 4)) 34 4 rfl clX6 flX6_26 (by decide) (wsh hW rfl) (fun _ => rfl) ?_
    refine V_lload_n 35 2 rfl rfl rfl ?_
    obtain ⟨hin, h⟩ := h
    refine V_last 36 rfl (wsh hW rfl) hin ?_
    refine V_nm (fun σ2 eσ2 => ?_)
    replace h := h σ2 eσ2
    have hW := wire_L eσ2 hW
    refine V_pc 71 rfl ?_
    refine V_aload_n 37 0 rfl rfl rfl ?_
    refine V_getR 38 1 rfl clX6 flX6_9 (by decide) (wsh hW rfl) (fun _ => rfl) (wrf hW 13 rfl) ?_
    refine V_aload_n 39 0 rfl rfl rfl ?_
    refine V_get (v := .int (σ2.2.1 3 4)) 40 4 rfl clX6 flX6_26 (by decide) (wsh hW rfl) (fun _ => rfl) ?_
    refine V_iload 41 3 rfl rfl ?_
    refine V_iload_n 42 1 rfl rfl rfl ?_
    refine V_pc 82 rfl ?_
    refine V_isub 43 rfl ?_
    refine V_bipush 44 (v := (6 : Int32)) rfl (by decide) ?_
    refine V_icmp_le 45 (tgt := 92) rfl (by decide) (fun hc => ?_) (fun hc => ?_)
    · replace h := h.1 hc
      refine V_iconst 48 (v := (3 : Int32)) rfl (by decide) ?_
      refine V_sub [3] (lv' := [(4, .int x4)]) rfl ?_
      exact k_j93 x4 (3 : Int32) (σ2.2.1 3 4) σ2 hW h
    · replace h := h.2 hc
      refine V_pc 88 rfl ?_
      refine V_iconst 46 (v := (1 : Int32)) rfl (by decide) ?_
      refine V_goto 47 (tgt := 93) rfl (by decide) ?_
      refine V_sub [3] (lv' := [(4, .int x4)]) rfl ?_
      exact k_j93 x4 (1 : Int32) (σ2.2.1 3 4) σ2 hW h
  have k_l5 : ∀ (n : Nat) (x2 : Int64) (x4 : Int32)  (σ : ab_S), Wire σ → wX6_scanNumber_l5 a0 Q E (wX6_scanNumber_j61 a0 Q E) n x2 x4 σ → V l mdX6_scanNumber B 1 20 0 0 (ab_End (fun v σ' => Wire σ' ∧ ∃ r : Int32, v = some (.int r) ∧ Q r σ') (fun X σ' => Wire σ' ∧ E X σ')) 5 [(0, .ref 3), (1, .int a0), (2, .long x2), (4, .int x4)] [] σ := by
    have step : ∀ (K61 : Int64 → Int32 → ab_S → Prop) (k_K61 : ∀ (x2 : Int64) (x4 : Int32)  (σ : ab_S), Wire σ → K61 x2 x4 σ → V l mdX6_scanNumber B 1 20 0 0 (ab_End (fun v σ' => Wire σ' ∧ ∃ r : Int32, v = some (.int r) ∧ Q r σ') (fun X σ' => Wire σ' ∧ E X σ')) 61 [(0, .ref 3), (1, .int a0), (2, .long x2), (4, .int x4)] [] σ), ∀ (Bk : Int64 → Int32 → ab_S → Prop) (k_Bk : ∀ (x2 : Int64) (x4 : Int32)  (σ : ab_S), Wire σ → Bk x2 x4 σ → V l mdX6_scanNumber B 1 20 0 0 (ab_End (fun v σ' => Wire σ' ∧ ∃ r : Int32, v = some (.int r) ∧ Q r σ') (fun X σ' => Wire σ' ∧ E X σ')) 5 [(0, .ref 3), (1, .int a0), (2, .long x2), (4, .int x4)] [] σ), ∀ (x2 : Int64) (x4 : Int32)  (σ : ab_S), Wire σ → wX6_scanNumber_l5_b a0 Q E K61 Bk x2 x4 σ → V l mdX6_scanNumber B 1 20 0 0 (ab_End (fun v σ' => Wire σ' ∧ ∃ r : Int32, v = some (.int r) ∧ Q r σ') (fun X σ' => Wire σ' ∧ E X σ')) 5 [(0, .ref 3), (1, .int a0), (2, .long x2), (4, .int x4)] [] σ := by
      intro K61 k_K61 Bk k_Bk
      intro x2 x4  σ hW h
      refine V_iload 4 3 rfl rfl ?_
      refine V_aload_n 5 0 rfl rfl rfl ?_
      refine V_getR 6 0 rfl clX6 flX6_22 (by decide) (wsh hW rfl) (fun _ => rfl) (wrf hW 12 rfl) ?_
      refine V_get (v := .int (σ.2.1 1 1)) 7 1 rfl clX8 flX6_56 (by decide) (wsh hW rfl) (fun _ => rfl) ?_
      refine V_icmp_ge 8 (tgt := 61) rfl (by decide) (fun hc => ?_) (fun hc => ?_)
      · replace h := h.1 hc
        exact k_K61 x2 x4  σ hW h
      · replace h := h.2 hc
        refine V_pc 17 rfl ?_
        refine V_aload_n 9 0 rfl rfl rfl ?_
        refine V_getR 10 0 rfl clX6 flX6_22 (by decide) (wsh hW rfl) (fun _ => rfl) (wrf hW 12 rfl) ?_
        refine V_getR 11 0 rfl clX8 flX6_61 (by decide) (wsh hW rfl) (fun _ => rfl) (wrf hW 11 rfl) ?_
        refine V_iload 12 3 rfl rfl ?_
        obtain ⟨hin, h⟩ := h
        refine V_cald 13 rfl (wsh hW rfl) hin ?_
        refine V_callS 14 1 (as := [.int (σ.2.1 2 x4.toNatClampNeg)]) (rest := []) rfl mlX6_72 yvX6_isDigit rfl rfl (by decide) (by decide) (Nat.le_of_ble_eq_true rfl) (by decide) (by decide) (fun B9 => ceX6_isDigit hl B9 hW h) (fun X9 τ9 h9 => VX_out rfl h9) ?_
        rintro v9 σ3 ⟨hW, u4, rfl, h⟩
        refine V_if_eq 15 (tgt := 61) rfl (by decide) (fun hc => ?_) (fun hc => ?_)
        · replace h := h.1 hc
          exact k_K61 x2 x4  σ3 hW h
        · replace h := h.2 hc
          refine V_pc 33 rfl ?_
          refine V_lload_n 16 2 rfl rfl rfl ?_
          refine V_ldc2 17 (v := (10 : Int64)) rfl ctX6_89 ?_
          refine V_lmul 18 rfl ?_
          refine V_aload_n 19 0 rfl rfl rfl ?_
          refine V_getR 20 0 rfl clX6 flX6_22 (by decide) (wsh hW rfl) (fun _ => rfl) (wrf hW 12 rfl) ?_
          refine V_getR 21 0 rfl clX8 flX6_61 (by decide) (wsh hW rfl) (fun _ => rfl) (wrf hW 11 rfl) ?_
          refine V_pc 45 rfl ?_
          refine V_iload 22 3 rfl rfl ?_
          obtain ⟨hin, h⟩ := h
          refine V_cald 23 rfl (wsh hW rfl) hin ?_
          refine V_i2l 24 rfl ?_
          refine V_ladd 25 rfl ?_
          refine V_ldc2 26 (v := (48 : Int64)) rfl ctX6_91 ?_
          refine V_lsub 27 rfl ?_
          refine V_pc 54 rfl ?_
          refine V_topl (fun v5 ev5 => ?_)
          replace h := h v5 ev5
          refine V_lstore_n 28 (lv' := [(2, .long v5), (0, .ref 3), (1, .int a0), (4, .int x4)]) rfl rfl (by decide) rfl ?_
          obtain ⟨v6, ev6⟩ : ∃ z : Int32, z = (x4 + 1) := ⟨_, rfl⟩
          replace h := h v6 ev6
          refine V_iinc 29 3 (v := v6) (lv' := [(4, .int v6), (2, .long v5), (0, .ref 3), (1, .int a0)]) rfl rfl ((in_1 _).trans ev6.symm) (by decide) rfl ?_
          refine V_goto 30 (tgt := 5) rfl (by decide) ?_
          refine V_sub [2, 3, 1, 0] (lv' := [(0, .ref 3), (1, .int a0), (2, .long v5), (4, .int v6)]) rfl ?_
          exact k_Bk v5 v6  σ3 hW h
    intro n
    induction n with
    | zero => intro x2 x4  σ hW h; exact absurd h id
    | succ n ih => exact step _ k_j61 _ ih
  intro σ hW h
  refine V_lconst 0 (v := (0 : Int64)) rfl (by decide) ?_
  refine V_lstore_n 1 (lv' := [(2, .long (0 : Int64)), (0, .ref 3), (1, .int a0)]) rfl rfl (by decide) rfl ?_
  refine V_iload_n 2 2 rfl rfl rfl ?_
  refine V_istore 3 (lv' := [(4, .int a0), (2, .long (0 : Int64)), (0, .ref 3), (1, .int a0)]) rfl (by decide) rfl ?_
  refine V_sub [2, 3, 1, 0] (lv' := [(0, .ref 3), (1, .int a0), (2, .long (0 : Int64)), (4, .int a0)]) rfl ?_
  obtain ⟨n, h⟩ := h
  exact k_l5 n (0 : Int64) a0 σ hW h

def wX6_scan_j91 (a0 : Int32) (Q : Int32 → ab_S → Prop) (E : String → ab_S → Prop) (y0 : Int32) (y1 : Int32) (σ : ab_S) : Prop := vp_in y1 2401 ∧ (∀ σ1 : ab_S, σ1 = ab_I σ 4 y1.toNatClampNeg y0 → Q (a0 + (1 : Int32)) σ1)
def wX6_scan (a0 : Int32) (Q : Int32 → ab_S → Prop) (E : String → ab_S → Prop) (σ : ab_S) : Prop := vp_in (σ.2.1 3 4) 2401 ∧ (∀ σ2 : ab_S, σ2 = ab_I σ 5 (σ.2.1 3 4).toNatClampNeg a0 → ((a0 < (σ2.2.1 1 1)) → vp_in a0 2400 ∧ (∀ v3 : Int32, v3 = (σ2.2.1 2 a0.toNatClampNeg) → wX6_isLetter v3 (fun u5 σ4 => ((u5 = 0) → wX6_isDigit v3 (fun u7 σ6 => ((u7 = 0) → (((ski v3) < 0) → wX6_scan_j91 a0 Q E (1 : Int32) (σ6.2.1 3 4) σ6) ∧ (¬ ((ski v3) < 0) → wX6_scan_j91 a0 Q E v3 (σ6.2.1 3 4) σ6)) ∧ (¬ (u7 = 0) → wX6_scanNumber a0 (fun u9 σ8 => Q u9 σ8) E σ6)) E σ4) ∧ (¬ (u5 = 0) → wX6_scanName a0 (fun u11 σ10 => Q u11 σ10) E σ4)) E σ2)) ∧ (¬ (a0 < (σ2.2.1 1 1)) → vp_in (σ2.2.1 3 4) 2401 ∧ (∀ σ12 : ab_S, σ12 = ab_I σ2 4 (σ2.2.1 3 4).toNatClampNeg (0 : Int32) → Q a0 σ12)))
set_option maxHeartbeats 4000000 in
set_option maxRecDepth 100000 in
theorem ceX6_scan {l : Launch} (hl : l.stackTraces = false) (B : Nat) {a0 : Int32}  {Q : Int32 → ab_S → Prop} {E : String → ab_S → Prop} {σ : ab_S} (hW : Wire σ) (h : wX6_scan a0 Q E σ) : ab_Mt l yX6_scan mdX6_scan B 7 155 0 0 [.ref 3, .int a0] σ (fun v σ' => Wire σ' ∧ ∃ r : Int32, v = some (.int r) ∧ Q r σ') (fun X σ' => Wire σ' ∧ E X σ') := by
  refine V_met hl ⟨rfl, rfl, by decide⟩ rfl dkX6_scan (Nat.le_of_ble_eq_true rfl) ?_
  show V l mdX6_scan B 7 155 0 0 (ab_End _ _) 0 [(0, .ref 3), (1, .int a0)] [] σ
  revert h hW
  revert σ
  have k_j91 : ∀ (y0 : Int32) (y1 : Int32)  (σ : ab_S), Wire σ → wX6_scan_j91 a0 Q E y0 y1 σ → V l mdX6_scan B 7 155 0 0 (ab_End (fun v σ' => Wire σ' ∧ ∃ r : Int32, v = some (.int r) ∧ Q r σ') (fun X σ' => Wire σ' ∧ E X σ')) 91 [(1, .int a0)] [.int y0, .int y1, .ref 4] σ := by
    intro y0 y1  σ hW h
    obtain ⟨hin, h⟩ := h
    refine V_iast 50 rfl (wsh hW rfl) hin ?_
    refine V_nm (fun σ1 eσ1 => ?_)
    replace h := h σ1 eσ1
    have hW := wire_I eσ1 hW
    refine V_iload_n 51 0 rfl rfl rfl ?_
    refine V_iconst 52 (v := (1 : Int32)) rfl (by decide) ?_
    refine V_iadd 53 rfl ?_
    exact V_iret 54 rfl rfl ⟨hW, _, rfl, h⟩
  intro σ hW h
  refine V_aload_n 0 0 rfl rfl rfl ?_
  refine V_getR 1 2 rfl clX6 flX6_15 (by decide) (wsh hW rfl) (fun _ => rfl) (wrf hW 14 rfl) ?_
  refine V_aload_n 2 0 rfl rfl rfl ?_
  refine V_get (v := .int (σ.2.1 3 4)) 3 4 rfl clX6 flX6_26 (by decide) (wsh hW rfl) (fun _ => rfl) ?_
  refine V_iload_n 4 1 rfl rfl rfl ?_
  obtain ⟨hin, h⟩ := h
  refine V_iast 5 rfl (wsh hW rfl) hin ?_
  refine V_nm (fun σ2 eσ2 => ?_)
  replace h := h σ2 eσ2
  have hW := wire_I eσ2 hW
  refine V_pc 10 rfl ?_
  refine V_iload_n 6 1 rfl rfl rfl ?_
  refine V_aload_n 7 0 rfl rfl rfl ?_
  refine V_getR 8 0 rfl clX6 flX6_22 (by decide) (wsh hW rfl) (fun _ => rfl) (wrf hW 12 rfl) ?_
  refine V_get (v := .int (σ2.2.1 1 1)) 9 1 rfl clX8 flX6_56 (by decide) (wsh hW rfl) (fun _ => rfl) ?_
  refine V_icmp_lt 10 (tgt := 33) rfl (by decide) (fun hc => ?_) (fun hc => ?_)
  · replace h := h.1 hc
    refine V_aload_n 19 0 rfl rfl rfl ?_
    refine V_getR 20 0 rfl clX6 flX6_22 (by decide) (wsh hW rfl) (fun _ => rfl) (wrf hW 12 rfl) ?_
    refine V_getR 21 0 rfl clX8 flX6_61 (by decide) (wsh hW rfl) (fun _ => rfl) (wrf hW 11 rfl) ?_
    refine V_iload_n 22 1 rfl rfl rfl ?_
    obtain ⟨hin, h⟩ := h
    refine V_cald 23 rfl (wsh hW rfl) hin ?_
    refine V_topi (fun v3 ev3 => ?_)
    replace h := h v3 ev3
    refine V_istore_n 24 (lv' := [(2, .int v3), (0, .ref 3), (1, .int a0)]) rfl rfl (by decide) rfl ?_
    refine V_pc 43 rfl ?_
    refine V_iload_n 25 0 rfl rfl rfl ?_
    refine V_callS 26 1 (as := [.int v3]) (rest := []) rfl mlX6_65 yvX6_isLetter rfl rfl (by decide) (by decide) (Nat.le_of_ble_eq_true rfl) (by decide) (by decide) (fun B9 => ceX6_isLetter hl B9 hW h) (fun X9 τ9 h9 => VX_out rfl h9) ?_
    rintro v9 σ4 ⟨hW, u5, rfl, h⟩
    refine V_if_eq 27 (tgt := 56) rfl (by decide) (fun hc => ?_) (fun hc => ?_)
    · replace h := h.1 hc
      refine V_iload_n 32 0 rfl rfl rfl ?_
      refine V_callS 33 1 (as := [.int v3]) (rest := []) rfl mlX6_72 yvX6_isDigit rfl rfl (by decide) (by decide) (Nat.le_of_ble_eq_true rfl) (by decide) (by decide) (fun B9 => ceX6_isDigit hl B9 hW h) (fun X9 τ9 h9 => VX_out rfl h9) ?_
      rintro v9 σ6 ⟨hW, u7, rfl, h⟩
      refine V_if_eq 34 (tgt := 69) rfl (by decide) (fun hc => ?_) (fun hc => ?_)
      · replace h := h.1 hc
        refine V_aload_n 39 1 rfl rfl rfl ?_
        refine V_getR 40 1 rfl clX6 flX6_9 (by decide) (wsh hW rfl) (fun _ => rfl) (wrf hW 13 rfl) ?_
        refine V_aload_n 41 1 rfl rfl rfl ?_
        refine V_get (v := .int (σ6.2.1 3 4)) 42 4 rfl clX6 flX6_26 (by decide) (wsh hW rfl) (fun _ => rfl) ?_
        refine V_ldcS 43 6 rfl rfl (by decide) rfl ?_
        refine V_iload_n 44 0 rfl rfl rfl ?_
        refine V_pc 80 rfl ?_
        refine V_callK 45 1 (as := [.int v3]) (rest := [.int (σ6.2.1 3 4), .ref 4]) rfl mlX6_80 yvJ0_indexOf_0f7a4 rfl rfl ⟨by decide, by decide⟩ (by decide) (by decide) (Nat.le_of_ble_eq_true rfl) (by decide) (by decide) (fun B9 => ceJ0_indexOf hl B9) (fun X9 τ9 h9 => absurd h9 id) ?_
        rintro v9 τ9 ⟨rfl, e9⟩
        subst τ9
        refine V_if_lt 46 (tgt := 90) rfl (by decide) (fun hc => ?_) (fun hc => ?_)
        · replace h := h.1 hc
          refine V_iconst 49 (v := (1 : Int32)) rfl (by decide) ?_
          refine V_sub [2] (lv' := [(1, .int a0)]) rfl ?_
          exact k_j91 (1 : Int32) (σ6.2.1 3 4) σ6 hW h
        · replace h := h.2 hc
          refine V_pc 86 rfl ?_
          refine V_iload_n 47 0 rfl rfl rfl ?_
          refine V_goto 48 (tgt := 91) rfl (by decide) ?_
          refine V_sub [2] (lv' := [(1, .int a0)]) rfl ?_
          exact k_j91 v3 (σ6.2.1 3 4) σ6 hW h
      · replace h := h.2 hc
        refine V_pc 63 rfl ?_
        refine V_aload_n 35 1 rfl rfl rfl ?_
        refine V_iload_n 36 2 rfl rfl rfl ?_
        refine V_callV 37 1 (as := [.int a0]) (rest := []) rfl mlX6_75 yvX6_scanNumber rfl rfl clX6 (wsh hW rfl) (by decide) (by decide) (Nat.le_of_ble_eq_true rfl) (by decide) (by decide) (fun B9 => ceX6_scanNumber hl B9 hW h) (fun X9 τ9 h9 => VX_out rfl h9) ?_
        rintro v9 σ8 ⟨hW, u9, rfl, h⟩
        exact V_iret 38 rfl rfl ⟨hW, _, rfl, h⟩
    · replace h := h.2 hc
      refine V_pc 50 rfl ?_
      refine V_aload_n 28 1 rfl rfl rfl ?_
      refine V_iload_n 29 2 rfl rfl rfl ?_
      refine V_callV 30 1 (as := [.int a0]) (rest := []) rfl mlX6_69 yvX6_scanName rfl rfl clX6 (wsh hW rfl) (by decide) (by decide) (Nat.le_of_ble_eq_true rfl) (by decide) (by decide) (fun B9 => ceX6_scanName hl B9 hW h) (fun X9 τ9 h9 => VX_out rfl h9) ?_
      rintro v9 σ10 ⟨hW, u11, rfl, h⟩
      exact V_iret 31 rfl rfl ⟨hW, _, rfl, h⟩
  · replace h := h.2 hc
    refine V_pc 21 rfl ?_
    refine V_aload_n 11 0 rfl rfl rfl ?_
    refine V_getR 12 1 rfl clX6 flX6_9 (by decide) (wsh hW rfl) (fun _ => rfl) (wrf hW 13 rfl) ?_
    refine V_aload_n 13 0 rfl rfl rfl ?_
    refine V_get (v := .int (σ2.2.1 3 4)) 14 4 rfl clX6 flX6_26 (by decide) (wsh hW rfl) (fun _ => rfl) ?_
    refine V_iconst 15 (v := (0 : Int32)) rfl (by decide) ?_
    obtain ⟨hin, h⟩ := h
    refine V_iast 16 rfl (wsh hW rfl) hin ?_
    refine V_nm (fun σ12 eσ12 => ?_)
    replace h := h σ12 eσ12
    have hW := wire_I eσ12 hW
    refine V_pc 31 rfl ?_
    refine V_iload_n 17 1 rfl rfl rfl ?_
    exact V_iret 18 rfl rfl ⟨hW, _, rfl, h⟩

def wX6_advance_j23 (Q : ab_S → Prop) (E : String → ab_S → Prop)  (σ : ab_S) : Prop := vp_in (σ.2.1 3 5) 2401 ∧ ((∀ σ1 : ab_S, σ1 = ab_I σ 3 6 (σ.2.1 4 (σ.2.1 3 5).toNatClampNeg) → vp_in (σ1.2.1 3 5) 2401 ∧ ((∀ σ2 : ab_S, σ2 = ab_I σ1 3 7 (σ1.2.1 5 (σ1.2.1 3 5).toNatClampNeg) → vp_in (σ2.2.1 3 5) 2401 ∧ ((∀ σ3 : ab_S, σ3 = ab_I σ2 3 8 ((σ2.2.2.1 6 (σ2.2.1 3 5).toNatClampNeg).toInt32) → vp_in (σ3.2.1 3 5) 2401 ∧ ((∀ σ4 : ab_S, σ4 = ab_L σ3 3 9 (σ3.2.2.1 6 (σ3.2.1 3 5).toNatClampNeg) → Q σ4))))))))
def wX6_advance  (Q : ab_S → Prop) (E : String → ab_S → Prop) (σ : ab_S) : Prop := (((σ.2.1 3 4) ≤ ((σ.2.1 3 5) + (1 : Int32))) → wX6_advance_j23 Q E σ) ∧ (¬ ((σ.2.1 3 4) ≤ ((σ.2.1 3 5) + (1 : Int32))) → (∀ σ5 : ab_S, σ5 = ab_I σ 3 5 ((σ.2.1 3 5) + (1 : Int32)) → wX6_advance_j23 Q E σ5))
set_option maxHeartbeats 4000000 in
set_option maxRecDepth 100000 in
theorem ceX6_advance {l : Launch} (hl : l.stackTraces = false) (B : Nat)   {Q : ab_S → Prop} {E : String → ab_S → Prop} {σ : ab_S} (hW : Wire σ) (h : wX6_advance  Q E σ) : ab_Mt l yX6_advance mdX6_advance B 0 0 0 0 [.ref 3] σ (fun v σ' => Wire σ' ∧ v = none ∧ Q σ') (fun X σ' => Wire σ' ∧ E X σ') := by
  refine V_met hl ⟨rfl, rfl, by decide⟩ rfl dkX6_advance (Nat.le_of_ble_eq_true rfl) ?_
  show V l mdX6_advance B 0 0 0 0 (ab_End _ _) 0 [(0, .ref 3)] [] σ
  revert h hW
  revert σ
  have k_j23 : ∀   (σ : ab_S), Wire σ → wX6_advance_j23 Q E  σ → V l mdX6_advance B 0 0 0 0 (ab_End (fun v σ' => Wire σ' ∧ v = none ∧ Q σ') (fun X σ' => Wire σ' ∧ E X σ')) 23 [(0, .ref 3)] [] σ := by
    intro   σ hW h
    refine V_aload_n 13 0 rfl rfl rfl ?_
    refine V_aload_n 14 0 rfl rfl rfl ?_
    refine V_getR 15 1 rfl clX6 flX6_9 (by decide) (wsh hW rfl) (fun _ => rfl) (wrf hW 13 rfl) ?_
    refine V_aload_n 16 0 rfl rfl rfl ?_
    refine V_get (v := .int (σ.2.1 3 5)) 17 5 rfl clX6 flX6_37 (by decide) (wsh hW rfl) (fun _ => rfl) ?_
    obtain ⟨hin, h⟩ := h
    refine V_iald 18 rfl (wsh hW rfl) hin ?_
    refine V_pc 33 rfl ?_
    refine V_putI 19 6 rfl clX6 flX6_43 (by decide) (wsh hW rfl) rfl (fun _ _ => rfl) rfl rfl ?_
    refine V_nm (fun σ1 eσ1 => ?_)
    replace h := h σ1 eσ1
    have hW := wire_I eσ1 hW
    refine V_aload_n 20 0 rfl rfl rfl ?_
    refine V_aload_n 21 0 rfl rfl rfl ?_
    refine V_getR 22 2 rfl clX6 flX6_15 (by decide) (wsh hW rfl) (fun _ => rfl) (wrf hW 14 rfl) ?_
    refine V_aload_n 23 0 rfl rfl rfl ?_
    refine V_get (v := .int (σ1.2.1 3 5)) 24 5 rfl clX6 flX6_37 (by decide) (wsh hW rfl) (fun _ => rfl) ?_
    refine V_pc 45 rfl ?_
    obtain ⟨hin, h⟩ := h
    refine V_iald 25 rfl (wsh hW rfl) hin ?_
    refine V_putI 26 7 rfl clX6 flX6_46 (by decide) (wsh hW rfl) rfl (fun _ _ => rfl) rfl rfl ?_
    refine V_nm (fun σ2 eσ2 => ?_)
    replace h := h σ2 eσ2
    have hW := wire_I eσ2 hW
    refine V_aload_n 27 0 rfl rfl rfl ?_
    refine V_aload_n 28 0 rfl rfl rfl ?_
    refine V_getR 29 3 rfl clX6 flX6_18 (by decide) (wsh hW rfl) (fun _ => rfl) (wrf hW 15 rfl) ?_
    refine V_aload_n 30 0 rfl rfl rfl ?_
    refine V_get (v := .int (σ2.2.1 3 5)) 31 5 rfl clX6 flX6_37 (by decide) (wsh hW rfl) (fun _ => rfl) ?_
    refine V_pc 58 rfl ?_
    obtain ⟨hin, h⟩ := h
    refine V_lald 32 rfl (wsh hW rfl) hin ?_
    refine V_l2i 33 rfl ?_
    refine V_putI 34 8 rfl clX6 flX6_49 (by decide) (wsh hW rfl) rfl (fun _ _ => rfl) rfl rfl ?_
    refine V_nm (fun σ3 eσ3 => ?_)
    replace h := h σ3 eσ3
    have hW := wire_I eσ3 hW
    refine V_aload_n 35 0 rfl rfl rfl ?_
    refine V_aload_n 36 0 rfl rfl rfl ?_
    refine V_getR 37 3 rfl clX6 flX6_18 (by decide) (wsh hW rfl) (fun _ => rfl) (wrf hW 15 rfl) ?_
    refine V_aload_n 38 0 rfl rfl rfl ?_
    refine V_get (v := .int (σ3.2.1 3 5)) 39 5 rfl clX6 flX6_37 (by decide) (wsh hW rfl) (fun _ => rfl) ?_
    refine V_pc 72 rfl ?_
    obtain ⟨hin, h⟩ := h
    refine V_lald 40 rfl (wsh hW rfl) hin ?_
    refine V_putL 41 9 rfl clX6 flX6_52 (by decide) (wsh hW rfl) rfl (fun _ _ => rfl) rfl rfl ?_
    refine V_nm (fun σ4 eσ4 => ?_)
    replace h := h σ4 eσ4
    have hW := wire_L eσ4 hW
    exact V_vret 42 rfl rfl ⟨hW, rfl, h⟩
  intro σ hW h
  refine V_aload_n 0 0 rfl rfl rfl ?_
  refine V_get (v := .int (σ.2.1 3 5)) 1 5 rfl clX6 flX6_37 (by decide) (wsh hW rfl) (fun _ => rfl) ?_
  refine V_iconst 2 (v := (1 : Int32)) rfl (by decide) ?_
  refine V_iadd 3 rfl ?_
  refine V_aload_n 4 0 rfl rfl rfl ?_
  refine V_get (v := .int (σ.2.1 3 4)) 5 4 rfl clX6 flX6_26 (by decide) (wsh hW rfl) (fun _ => rfl) ?_
  refine V_pc 10 rfl ?_
  refine V_icmp_ge 6 (tgt := 23) rfl (by decide) (fun hc => ?_) (fun hc => ?_)
  · replace h := h.1 hc
    exact k_j23 σ hW h
  · replace h := h.2 hc
    refine V_pc 13 rfl ?_
    refine V_aload_n 7 0 rfl rfl rfl ?_
    refine V_dup 8 rfl rfl ?_
    refine V_get (v := .int (σ.2.1 3 5)) 9 5 rfl clX6 flX6_37 (by decide) (wsh hW rfl) (fun _ => rfl) ?_
    refine V_iconst 10 (v := (1 : Int32)) rfl (by decide) ?_
    refine V_iadd 11 rfl ?_
    refine V_putI 12 5 rfl clX6 flX6_37 (by decide) (wsh hW rfl) rfl (fun _ _ => rfl) rfl rfl ?_
    refine V_nm (fun σ5 eσ5 => ?_)
    replace h := h σ5 eσ5
    have hW := wire_I eσ5 hW
    exact k_j23 σ5 hW h

def wX6_open_j77 (Q : ab_S → Prop) (E : String → ab_S → Prop)  (σ : ab_S) : Prop := (∀ σ1 : ab_S, σ1 = ab_I σ 3 5 (-1 : Int32) → wX6_advance (fun σ2 => Q σ2) E σ1)
def wX6_open_j63 (Q : ab_S → Prop) (E : String → ab_S → Prop) (K77 : ab_S → Prop) (Bk : Int32 → Int32 → ab_S → Prop) (x1 : Int32) (y0 : Int32) (σ : ab_S) : Prop := (∀ σ3 : ab_S, σ3 = ab_I σ 3 4 ((σ.2.1 3 4) + (1 : Int32)) → Bk x1 y0 σ3)
def wX6_open_j62 (Q : ab_S → Prop) (E : String → ab_S → Prop) (K77 : ab_S → Prop) (Bk : Int32 → Int32 → ab_S → Prop) (x1 : Int32) (σ : ab_S) : Prop := wX6_open_j63 Q E K77 Bk x1 (0 : Int32) σ
def wX6_open_l9_b (Q : ab_S → Prop) (E : String → ab_S → Prop) (K77 : ab_S → Prop) (Bk : Int32 → Int32 → ab_S → Prop) (x1 : Int32) (x2 : Int32) (σ : ab_S) : Prop := ((x2 = 0) → K77 σ) ∧ (¬ (x2 = 0) → (((2400 : Int32) < (σ.2.1 3 4)) → K77 σ) ∧ (¬ ((2400 : Int32) < (σ.2.1 3 4)) → wX6_skipBlanks x1 (fun u5 σ4 => wX6_scan u5 (fun u7 σ6 => vp_in (σ6.2.1 3 4) 2401 ∧ ((((σ6.2.1 4 (σ6.2.1 3 4).toNatClampNeg) = 0) → wX6_open_j62 Q E K77 Bk u7 σ6) ∧ (¬ ((σ6.2.1 4 (σ6.2.1 3 4).toNatClampNeg) = 0) → vp_in (σ6.2.1 3 4) 2401 ∧ ((((σ6.2.1 4 (σ6.2.1 3 4).toNatClampNeg) = (1 : Int32)) → wX6_open_j62 Q E K77 Bk u7 σ6) ∧ (¬ ((σ6.2.1 4 (σ6.2.1 3 4).toNatClampNeg) = (1 : Int32)) → wX6_open_j63 Q E K77 Bk u7 (1 : Int32) σ6))))) E σ4) E σ))
def wX6_open_l9 (Q : ab_S → Prop) (E : String → ab_S → Prop) (K77 : ab_S → Prop) : Nat → Int32 → Int32 → ab_S → Prop
  | 0, _, _, _ => False
  | n + 1, x1, x2, σ => wX6_open_l9_b Q E K77 (wX6_open_l9 Q E K77 n) x1 x2 σ
def wX6_open  (Q : ab_S → Prop) (E : String → ab_S → Prop) (σ : ab_S) : Prop := (∀ σ8 : ab_S, σ8 = ab_I σ 3 4 (0 : Int32) → ∃ n, wX6_open_l9 Q E (wX6_open_j77 Q E) n (0 : Int32) (1 : Int32) σ8)
set_option maxHeartbeats 4000000 in
set_option maxRecDepth 100000 in
theorem ceX6_open {l : Launch} (hl : l.stackTraces = false) (B : Nat)   {Q : ab_S → Prop} {E : String → ab_S → Prop} {σ : ab_S} (hW : Wire σ) (h : wX6_open  Q E σ) : ab_Mt l yX6_open mdX6_open B 8 177 0 0 [.ref 3] σ (fun v σ' => Wire σ' ∧ v = none ∧ Q σ') (fun X σ' => Wire σ' ∧ E X σ') := by
  refine V_met hl ⟨rfl, rfl, by decide⟩ rfl dkX6_open (Nat.le_of_ble_eq_true rfl) ?_
  show V l mdX6_open B 8 177 0 0 (ab_End _ _) 0 [(0, .ref 3)] [] σ
  revert h hW
  revert σ
  have k_j77 : ∀   (σ : ab_S), Wire σ → wX6_open_j77 Q E  σ → V l mdX6_open B 8 177 0 0 (ab_End (fun v σ' => Wire σ' ∧ v = none ∧ Q σ') (fun X σ' => Wire σ' ∧ E X σ')) 77 [(0, .ref 3)] [] σ := by
    intro   σ hW h
    refine V_aload_n 43 0 rfl rfl rfl ?_
    refine V_iconst 44 (v := (-1 : Int32)) rfl (by decide) ?_
    refine V_putI 45 5 rfl clX6 flX6_37 (by decide) (wsh hW rfl) rfl (fun _ _ => rfl) rfl rfl ?_
    refine V_nm (fun σ1 eσ1 => ?_)
    replace h := h σ1 eσ1
    have hW := wire_I eσ1 hW
    refine V_aload_n 46 0 rfl rfl rfl ?_
    refine V_callV 47 0 (as := []) (rest := []) rfl mlX6_40 yvX6_advance rfl rfl clX6 (wsh hW rfl) (by decide) (by decide) (Nat.le_of_ble_eq_true rfl) (by decide) (by decide) (fun B9 => ceX6_advance hl B9 hW h) (fun X9 τ9 h9 => VX_out rfl h9) ?_
    rintro v9 σ2 ⟨hW, rfl, h⟩
    exact V_vret 48 rfl rfl ⟨hW, rfl, h⟩
  have k_l9 : ∀ (n : Nat) (x1 : Int32) (x2 : Int32)  (σ : ab_S), Wire σ → wX6_open_l9 Q E (wX6_open_j77 Q E) n x1 x2 σ → V l mdX6_open B 8 177 0 0 (ab_End (fun v σ' => Wire σ' ∧ v = none ∧ Q σ') (fun X σ' => Wire σ' ∧ E X σ')) 9 [(0, .ref 3), (1, .int x1), (2, .int x2)] [] σ := by
    have step : ∀ (K77 : ab_S → Prop) (k_K77 : ∀   (σ : ab_S), Wire σ → K77  σ → V l mdX6_open B 8 177 0 0 (ab_End (fun v σ' => Wire σ' ∧ v = none ∧ Q σ') (fun X σ' => Wire σ' ∧ E X σ')) 77 [(0, .ref 3)] [] σ), ∀ (Bk : Int32 → Int32 → ab_S → Prop) (k_Bk : ∀ (x1 : Int32) (x2 : Int32)  (σ : ab_S), Wire σ → Bk x1 x2 σ → V l mdX6_open B 8 177 0 0 (ab_End (fun v σ' => Wire σ' ∧ v = none ∧ Q σ') (fun X σ' => Wire σ' ∧ E X σ')) 9 [(0, .ref 3), (1, .int x1), (2, .int x2)] [] σ), ∀ (x1 : Int32) (x2 : Int32)  (σ : ab_S), Wire σ → wX6_open_l9_b Q E K77 Bk x1 x2 σ → V l mdX6_open B 8 177 0 0 (ab_End (fun v σ' => Wire σ' ∧ v = none ∧ Q σ') (fun X σ' => Wire σ' ∧ E X σ')) 9 [(0, .ref 3), (1, .int x1), (2, .int x2)] [] σ := by
      intro K77 k_K77 Bk k_Bk
      have k_j63 : ∀ (x1 : Int32) (y0 : Int32)  (σ : ab_S), Wire σ → wX6_open_j63 Q E K77 Bk x1 y0 σ → V l mdX6_open B 8 177 0 0 (ab_End (fun v σ' => Wire σ' ∧ v = none ∧ Q σ') (fun X σ' => Wire σ' ∧ E X σ')) 63 [(0, .ref 3), (1, .int x1)] [.int y0] σ := by
        intro x1 y0  σ hW h
        refine V_istore_n 35 (lv' := [(2, .int y0), (0, .ref 3), (1, .int x1)]) rfl rfl (by decide) rfl ?_
        refine V_aload_n 36 1 rfl rfl rfl ?_
        refine V_dup 37 rfl rfl ?_
        refine V_get (v := .int (σ.2.1 3 4)) 38 4 rfl clX6 flX6_26 (by decide) (wsh hW rfl) (fun _ => rfl) ?_
        refine V_iconst 39 (v := (1 : Int32)) rfl (by decide) ?_
        refine V_iadd 40 rfl ?_
        refine V_pc 71 rfl ?_
        refine V_putI 41 4 rfl clX6 flX6_26 (by decide) (wsh hW rfl) rfl (fun _ _ => rfl) rfl rfl ?_
        refine V_nm (fun σ3 eσ3 => ?_)
        replace h := h σ3 eσ3
        have hW := wire_I eσ3 hW
        refine V_goto 42 (tgt := 9) rfl (by decide) ?_
        refine V_sub [1, 2, 0] (lv' := [(0, .ref 3), (1, .int x1), (2, .int y0)]) rfl ?_
        exact k_Bk x1 y0  σ3 hW h
      have k_j62 : ∀ (x1 : Int32)  (σ : ab_S), Wire σ → wX6_open_j62 Q E K77 Bk x1 σ → V l mdX6_open B 8 177 0 0 (ab_End (fun v σ' => Wire σ' ∧ v = none ∧ Q σ') (fun X σ' => Wire σ' ∧ E X σ')) 62 [(0, .ref 3), (1, .int x1)] [] σ := by
        intro x1  σ hW h
        refine V_iconst 34 (v := (0 : Int32)) rfl (by decide) ?_
        exact k_j63 x1 (0 : Int32) σ hW h
      intro x1 x2  σ hW h
      refine V_iload_n 7 2 rfl rfl rfl ?_
      refine V_if_eq 8 (tgt := 77) rfl (by decide) (fun hc => ?_) (fun hc => ?_)
      · replace h := h.1 hc
        refine V_sub [0] (lv' := [(0, .ref 3)]) rfl ?_
        exact k_K77  σ hW h
      · replace h := h.2 hc
        refine V_pc 13 rfl ?_
        refine V_aload_n 9 0 rfl rfl rfl ?_
        refine V_get (v := .int (σ.2.1 3 4)) 10 4 rfl clX6 flX6_26 (by decide) (wsh hW rfl) (fun _ => rfl) ?_
        refine V_sipush 11 (v := (2400 : Int32)) rfl (by decide) ?_
        refine V_icmp_gt 12 (tgt := 77) rfl (by decide) (fun hc => ?_) (fun hc => ?_)
        · replace h := h.1 hc
          refine V_sub [0] (lv' := [(0, .ref 3)]) rfl ?_
          exact k_K77  σ hW h
        · replace h := h.2 hc
          refine V_pc 23 rfl ?_
          refine V_aload_n 13 0 rfl rfl rfl ?_
          refine V_aload_n 14 0 rfl rfl rfl ?_
          refine V_iload_n 15 1 rfl rfl rfl ?_
          refine V_callV 16 1 (as := [.int x1]) (rest := [.ref 3]) rfl mlX6_30 yvX6_skipBlanks rfl rfl clX6 (wsh hW rfl) (by decide) (by decide) (Nat.le_of_ble_eq_true rfl) (by decide) (by decide) (fun B9 => ceX6_skipBlanks hl B9 hW h) (fun X9 τ9 h9 => VX_out rfl h9) ?_
          rintro v9 σ4 ⟨hW, u5, rfl, h⟩
          refine V_callV 17 1 (as := [.int u5]) (rest := []) rfl mlX6_34 yvX6_scan rfl rfl clX6 (wsh hW rfl) (by decide) (by decide) (Nat.le_of_ble_eq_true rfl) (by decide) (by decide) (fun B9 => ceX6_scan hl B9 hW h) (fun X9 τ9 h9 => VX_out rfl h9) ?_
          rintro v9 σ6 ⟨hW, u7, rfl, h⟩
          refine V_istore_n 18 (lv' := [(1, .int u7), (0, .ref 3), (2, .int x2)]) rfl rfl (by decide) rfl ?_
          refine V_aload_n 19 1 rfl rfl rfl ?_
          refine V_getR 20 1 rfl clX6 flX6_9 (by decide) (wsh hW rfl) (fun _ => rfl) (wrf hW 13 rfl) ?_
          refine V_aload_n 21 1 rfl rfl rfl ?_
          refine V_get (v := .int (σ6.2.1 3 4)) 22 4 rfl clX6 flX6_26 (by decide) (wsh hW rfl) (fun _ => rfl) ?_
          refine V_pc 41 rfl ?_
          obtain ⟨hin, h⟩ := h
          refine V_iald 23 rfl (wsh hW rfl) hin ?_
          refine V_if_eq 24 (tgt := 62) rfl (by decide) (fun hc => ?_) (fun hc => ?_)
          · replace h := h.1 hc
            refine V_sub [1, 0] (lv' := [(0, .ref 3), (1, .int u7)]) rfl ?_
            exact k_j62 u7 σ6 hW h
          · replace h := h.2 hc
            refine V_pc 45 rfl ?_
            refine V_aload_n 25 1 rfl rfl rfl ?_
            refine V_getR 26 1 rfl clX6 flX6_9 (by decide) (wsh hW rfl) (fun _ => rfl) (wrf hW 13 rfl) ?_
            refine V_aload_n 27 1 rfl rfl rfl ?_
            refine V_get (v := .int (σ6.2.1 3 4)) 28 4 rfl clX6 flX6_26 (by decide) (wsh hW rfl) (fun _ => rfl) ?_
            obtain ⟨hin, h⟩ := h
            refine V_iald 29 rfl (wsh hW rfl) hin ?_
            refine V_iconst 30 (v := (1 : Int32)) rfl (by decide) ?_
            refine V_pc 55 rfl ?_
            refine V_icmp_eq 31 (tgt := 62) rfl (by decide) (fun hc => ?_) (fun hc => ?_)
            · replace h := h.1 hc
              refine V_sub [1, 0] (lv' := [(0, .ref 3), (1, .int u7)]) rfl ?_
              exact k_j62 u7 σ6 hW h
            · replace h := h.2 hc
              refine V_pc 58 rfl ?_
              refine V_iconst 32 (v := (1 : Int32)) rfl (by decide) ?_
              refine V_goto 33 (tgt := 63) rfl (by decide) ?_
              refine V_sub [1, 0] (lv' := [(0, .ref 3), (1, .int u7)]) rfl ?_
              exact k_j63 u7 (1 : Int32) σ6 hW h
    intro n
    induction n with
    | zero => intro x1 x2  σ hW h; exact absurd h id
    | succ n ih => exact step _ k_j77 _ ih
  intro σ hW h
  refine V_aload_n 0 0 rfl rfl rfl ?_
  refine V_iconst 1 (v := (0 : Int32)) rfl (by decide) ?_
  refine V_putI 2 4 rfl clX6 flX6_26 (by decide) (wsh hW rfl) rfl (fun _ _ => rfl) rfl rfl ?_
  refine V_nm (fun σ8 eσ8 => ?_)
  replace h := h σ8 eσ8
  have hW := wire_I eσ8 hW
  refine V_iconst 3 (v := (0 : Int32)) rfl (by decide) ?_
  refine V_istore_n 4 (lv' := [(1, .int (0 : Int32)), (0, .ref 3)]) rfl rfl (by decide) rfl ?_
  refine V_iconst 5 (v := (1 : Int32)) rfl (by decide) ?_
  refine V_istore_n 6 (lv' := [(2, .int (1 : Int32)), (1, .int (0 : Int32)), (0, .ref 3)]) rfl rfl (by decide) rfl ?_
  refine V_sub [2, 1, 0] (lv' := [(0, .ref 3), (1, .int (0 : Int32)), (2, .int (1 : Int32))]) rfl ?_
  obtain ⟨n, h⟩ := h
  exact k_l9 n (0 : Int32) (1 : Int32) σ8 hW h

def wX6_take (a0 : Int32) (Q : Int32 → ab_S → Prop) (E : String → ab_S → Prop) (σ : ab_S) : Prop := (((σ.2.1 3 6) = a0) → wX6_advance (fun σ1 => Q (1 : Int32) σ1) E σ) ∧ (¬ ((σ.2.1 3 6) = a0) → Q (0 : Int32) σ)
set_option maxHeartbeats 4000000 in
set_option maxRecDepth 100000 in
theorem ceX6_take {l : Launch} (hl : l.stackTraces = false) (B : Nat) {a0 : Int32}  {Q : Int32 → ab_S → Prop} {E : String → ab_S → Prop} {σ : ab_S} (hW : Wire σ) (h : wX6_take a0 Q E σ) : ab_Mt l yX6_take mdX6_take B 1 20 0 0 [.ref 3, .int a0] σ (fun v σ' => Wire σ' ∧ ∃ r : Int32, v = some (.int r) ∧ Q r σ') (fun X σ' => Wire σ' ∧ E X σ') := by
  refine V_met hl ⟨rfl, rfl, by decide⟩ rfl dkX6_take (Nat.le_of_ble_eq_true rfl) ?_
  show V l mdX6_take B 1 20 0 0 (ab_End _ _) 0 [(0, .ref 3), (1, .int a0)] [] σ
  refine V_aload_n 0 0 rfl rfl rfl ?_
  refine V_get (v := .int (σ.2.1 3 6)) 1 6 rfl clX6 flX6_43 (by decide) (wsh hW rfl) (fun _ => rfl) ?_
  refine V_iload_n 2 1 rfl rfl rfl ?_
  refine V_icmp_eq 3 (tgt := 10) rfl (by decide) (fun hc => ?_) (fun hc => ?_)
  · replace h := h.1 hc
    refine V_aload_n 6 0 rfl rfl rfl ?_
    refine V_callV 7 0 (as := []) (rest := []) rfl mlX6_40 yvX6_advance rfl rfl clX6 (wsh hW rfl) (by decide) (by decide) (Nat.le_of_ble_eq_true rfl) (by decide) (by decide) (fun B9 => ceX6_advance hl B9 hW h) (fun X9 τ9 h9 => VX_out rfl h9) ?_
    rintro v9 σ1 ⟨hW, rfl, h⟩
    refine V_iconst 8 (v := (1 : Int32)) rfl (by decide) ?_
    exact V_zret 9 rfl rfl rfl ⟨hW, _, rfl, h⟩
  · replace h := h.2 hc
    refine V_pc 8 rfl ?_
    refine V_iconst 4 (v := (0 : Int32)) rfl (by decide) ?_
    exact V_zret 5 rfl rfl rfl ⟨hW, _, rfl, h⟩

def wX1_readAttributes_l2_b (a0 : Int32) (a1 : Int32) (Q : Int32 → ab_S → Prop) (E : String → ab_S → Prop) (Bk : Int32 → ab_S → Prop) (x3 : Int32) (σ : ab_S) : Prop := (((8 : Int32) < x3) → Q (0 : Int32) σ) ∧ (¬ ((8 : Int32) < x3) → wX6_advance (fun σ1 => ((¬ (σ1.2.1 3 6) = (2 : Int32)) → Q (0 : Int32) σ1) ∧ (¬ (¬ (σ1.2.1 3 6) = (2 : Int32)) → ∃ q2, σ1.2.2.2 7 1 = some q2 ∧ isG q2 ∧ (vp_in a0 12 ∧ ((((σ1.2.1 (q2 + 2) a0.toNatClampNeg) = (8 : Int32)) → Q (0 : Int32) σ1) ∧ (¬ ((σ1.2.1 (q2 + 2) a0.toNatClampNeg) = (8 : Int32)) → ∃ q3, σ1.2.2.2 7 1 = some q3 ∧ isG q3 ∧ (wX0_findAttribute q3 a0 (σ1.2.2.1 3 9) (fun u5 σ4 => ((u5 = (-1 : Int32)) → ∃ q6, σ4.2.2.2 7 1 = some q6 ∧ isG q6 ∧ (wX0_addAttribute q6 a0 (σ4.2.2.1 3 9) a1 (fun σ7 => wX6_advance (fun σ8 => (((σ8.2.1 3 6) = (44 : Int32)) → ∀ v9 : Int32, v9 = (x3 + 1) → Bk v9 σ8) ∧ (¬ ((σ8.2.1 3 6) = (44 : Int32)) → Q (1 : Int32) σ8)) E σ7) E σ4)) ∧ (¬ (u5 = (-1 : Int32)) → Q (0 : Int32) σ4)) E σ1)))))) E σ)
def wX1_readAttributes_l2 (a0 : Int32) (a1 : Int32) (Q : Int32 → ab_S → Prop) (E : String → ab_S → Prop) : Nat → Int32 → ab_S → Prop
  | 0, _, _ => False
  | n + 1, x3, σ => wX1_readAttributes_l2_b a0 a1 Q E (wX1_readAttributes_l2 a0 a1 Q E n) x3 σ
def wX1_readAttributes (a0 : Int32) (a1 : Int32) (Q : Int32 → ab_S → Prop) (E : String → ab_S → Prop) (σ : ab_S) : Prop := ∃ n, wX1_readAttributes_l2 a0 a1 Q E n (0 : Int32) σ
set_option maxHeartbeats 4000000 in
set_option maxRecDepth 100000 in
theorem ceX1_readAttributes {l : Launch} (hl : l.stackTraces = false) (B : Nat) {a0 : Int32} {a1 : Int32}  {Q : Int32 → ab_S → Prop} {E : String → ab_S → Prop} {σ : ab_S} (hW : Wire σ) (h : wX1_readAttributes a0 a1 Q E σ) : ab_Mt l yX1_readAttributes mdX1_readAttributes B 1 25 0 0 [.ref 7, .int a0, .int a1] σ (fun v σ' => Wire σ' ∧ ∃ r : Int32, v = some (.int r) ∧ Q r σ') (fun X σ' => Wire σ' ∧ E X σ') := by
  refine V_met hl ⟨rfl, rfl, by decide⟩ rfl dkX1_readAttributes (Nat.le_of_ble_eq_true rfl) ?_
  show V l mdX1_readAttributes B 1 25 0 0 (ab_End _ _) 0 [(0, .ref 7), (1, .int a0), (2, .int a1)] [] σ
  revert h hW
  revert σ
  have k_l2 : ∀ (n : Nat) (x3 : Int32)  (σ : ab_S), Wire σ → wX1_readAttributes_l2 a0 a1 Q E n x3 σ → V l mdX1_readAttributes B 1 25 0 0 (ab_End (fun v σ' => Wire σ' ∧ ∃ r : Int32, v = some (.int r) ∧ Q r σ') (fun X σ' => Wire σ' ∧ E X σ')) 2 [(0, .ref 7), (1, .int a0), (2, .int a1), (3, .int x3)] [] σ := by
    have step : ∀ (Bk : Int32 → ab_S → Prop) (k_Bk : ∀ (x3 : Int32)  (σ : ab_S), Wire σ → Bk x3 σ → V l mdX1_readAttributes B 1 25 0 0 (ab_End (fun v σ' => Wire σ' ∧ ∃ r : Int32, v = some (.int r) ∧ Q r σ') (fun X σ' => Wire σ' ∧ E X σ')) 2 [(0, .ref 7), (1, .int a0), (2, .int a1), (3, .int x3)] [] σ), ∀ (x3 : Int32)  (σ : ab_S), Wire σ → wX1_readAttributes_l2_b a0 a1 Q E Bk x3 σ → V l mdX1_readAttributes B 1 25 0 0 (ab_End (fun v σ' => Wire σ' ∧ ∃ r : Int32, v = some (.int r) ∧ Q r σ') (fun X σ' => Wire σ' ∧ E X σ')) 2 [(0, .ref 7), (1, .int a0), (2, .int a1), (3, .int x3)] [] σ := by
      intro Bk k_Bk
      intro x3  σ hW h
      refine V_iload_n 2 3 rfl rfl rfl ?_
      refine V_bipush 3 (v := (8 : Int32)) rfl (by decide) ?_
      refine V_icmp_gt 4 (tgt := 104) rfl (by decide) (fun hc => ?_) (fun hc => ?_)
      · replace h := h.1 hc
        refine V_iconst 51 (v := (0 : Int32)) rfl (by decide) ?_
        exact V_zret 52 rfl rfl rfl ⟨hW, _, rfl, h⟩
      · replace h := h.2 hc
        refine V_pc 8 rfl ?_
        refine V_aload_n 5 0 rfl rfl rfl ?_
        refine V_getR 6 0 rfl clX1 flX1_9 (by decide) (wsh hW rfl) (fun _ => rfl) (wrf hW 16 rfl) ?_
        refine V_callV 7 0 (as := []) (rest := []) rfl mlX1_62 yvX6_advance rfl rfl clX6 (wsh hW rfl) (by decide) (by decide) (Nat.le_of_ble_eq_true rfl) (by decide) (by decide) (fun B9 => ceX6_advance hl B9 hW h) (fun X9 τ9 h9 => VX_out rfl h9) ?_
        rintro v9 σ1 ⟨hW, rfl, h⟩
        refine V_aload_n 8 0 rfl rfl rfl ?_
        refine V_getR 9 0 rfl clX1 flX1_9 (by decide) (wsh hW rfl) (fun _ => rfl) (wrf hW 16 rfl) ?_
        refine V_get (v := .int (σ1.2.1 3 6)) 10 6 rfl clX6 flX1_33 (by decide) (wsh hW rfl) (fun _ => rfl) ?_
        refine V_iconst 11 (v := (2 : Int32)) rfl (by decide) ?_
        refine V_icmp_ne 12 (tgt := 59) rfl (by decide) (fun hc => ?_) (fun hc => ?_)
        · replace h := h.1 hc
          refine V_iconst 29 (v := (0 : Int32)) rfl (by decide) ?_
          exact V_zret 30 rfl rfl rfl ⟨hW, _, rfl, h⟩
        · replace h := h.2 hc
          refine V_pc 26 rfl ?_
          refine V_aload_n 13 0 rfl rfl rfl ?_
          obtain ⟨q2, eq2, hq2, h⟩ := h
          refine V_getR 14 1 rfl clX1 flX1_15 (by decide) (wsh hW rfl) (fun _ => rfl) eq2 ?_
          refine V_getR 15 2 rfl clX0 flX1_69 (by decide) (wG hW hq2) (fun _ => rfl) (wG_f2 hW hq2) ?_
          refine V_iload_n 16 1 rfl rfl rfl ?_
          obtain ⟨hin, h⟩ := h
          refine V_iald 17 rfl (wG_a2 hW hq2) hin ?_
          refine V_bipush 18 (v := (8 : Int32)) rfl (by decide) ?_
          refine V_pc 37 rfl ?_
          refine V_icmp_eq 19 (tgt := 59) rfl (by decide) (fun hc => ?_) (fun hc => ?_)
          · replace h := h.1 hc
            refine V_iconst 29 (v := (0 : Int32)) rfl (by decide) ?_
            exact V_zret 30 rfl rfl rfl ⟨hW, _, rfl, h⟩
          · replace h := h.2 hc
            refine V_pc 40 rfl ?_
            refine V_aload_n 20 0 rfl rfl rfl ?_
            obtain ⟨q3, eq3, hq3, h⟩ := h
            refine V_getR 21 1 rfl clX1 flX1_15 (by decide) (wsh hW rfl) (fun _ => rfl) eq3 ?_
            refine V_iload_n 22 1 rfl rfl rfl ?_
            refine V_aload_n 23 0 rfl rfl rfl ?_
            refine V_getR 24 0 rfl clX1 flX1_9 (by decide) (wsh hW rfl) (fun _ => rfl) (wrf hW 16 rfl) ?_
            refine V_get (v := .long (σ1.2.2.1 3 9)) 25 9 rfl clX6 flX1_47 (by decide) (wsh hW rfl) (fun _ => rfl) ?_
            refine V_pc 52 rfl ?_
            refine V_callV 26 2 (as := [.int a0, .long (σ1.2.2.1 3 9)]) (rest := []) rfl mlX1_73 yvX0_findAttribute rfl rfl clX0 (wG hW hq3) (by decide) (by decide) (Nat.le_of_ble_eq_true rfl) (by decide) (by decide) (fun B9 => ceX0_findAttribute hl B9 hq3 hW h) (fun X9 τ9 h9 => VX_out rfl h9) ?_
            rintro v9 σ4 ⟨hW, u5, rfl, h⟩
            refine V_iconst 27 (v := (-1 : Int32)) rfl (by decide) ?_
            refine V_icmp_eq 28 (tgt := 61) rfl (by decide) (fun hc => ?_) (fun hc => ?_)
            · replace h := h.1 hc
              refine V_aload_n 31 0 rfl rfl rfl ?_
              obtain ⟨q6, eq6, hq6, h⟩ := h
              refine V_getR 32 1 rfl clX1 flX1_15 (by decide) (wsh hW rfl) (fun _ => rfl) eq6 ?_
              refine V_iload_n 33 1 rfl rfl rfl ?_
              refine V_aload_n 34 0 rfl rfl rfl ?_
              refine V_getR 35 0 rfl clX1 flX1_9 (by decide) (wsh hW rfl) (fun _ => rfl) (wrf hW 16 rfl) ?_
              refine V_get (v := .long (σ4.2.2.1 3 9)) 36 9 rfl clX6 flX1_47 (by decide) (wsh hW rfl) (fun _ => rfl) ?_
              refine V_pc 73 rfl ?_
              refine V_iload_n 37 2 rfl rfl rfl ?_
              refine V_callV 38 3 (as := [.int a0, .long (σ4.2.2.1 3 9), .int a1]) (rest := []) rfl mlX1_77 yvX0_addAttribute rfl rfl clX0 (wG hW hq6) (by decide) (by decide) (Nat.le_of_ble_eq_true rfl) (by decide) (by decide) (fun B9 => ceX0_addAttribute hl B9 hq6 hW h) (fun X9 τ9 h9 => VX_out rfl h9) ?_
              rintro v9 σ7 ⟨hW, rfl, h⟩
              refine V_aload_n 39 0 rfl rfl rfl ?_
              refine V_getR 40 0 rfl clX1 flX1_9 (by decide) (wsh hW rfl) (fun _ => rfl) (wrf hW 16 rfl) ?_
              refine V_callV 41 0 (as := []) (rest := []) rfl mlX1_62 yvX6_advance rfl rfl clX6 (wsh hW rfl) (by decide) (by decide) (Nat.le_of_ble_eq_true rfl) (by decide) (by decide) (fun B9 => ceX6_advance hl B9 hW h) (fun X9 τ9 h9 => VX_out rfl h9) ?_
              rintro v9 σ8 ⟨hW, rfl, h⟩
              refine V_aload_n 42 0 rfl rfl rfl ?_
              refine V_getR 43 0 rfl clX1 flX1_9 (by decide) (wsh hW rfl) (fun _ => rfl) (wrf hW 16 rfl) ?_
              refine V_get (v := .int (σ8.2.1 3 6)) 44 6 rfl clX6 flX1_33 (by decide) (wsh hW rfl) (fun _ => rfl) ?_
              refine V_bipush 45 (v := (44 : Int32)) rfl (by decide) ?_
              refine V_icmp_eq 46 (tgt := 98) rfl (by decide) (fun hc => ?_) (fun hc => ?_)
              · replace h := h.1 hc
                obtain ⟨v9, ev9⟩ : ∃ z : Int32, z = (x3 + 1) := ⟨_, rfl⟩
                replace h := h v9 ev9
                refine V_iinc 49 3 (v := v9) (lv' := [(3, .int v9), (0, .ref 7), (1, .int a0), (2, .int a1)]) rfl rfl ((in_1 _).trans ev9.symm) (by decide) rfl ?_
                refine V_goto 50 (tgt := 2) rfl (by decide) ?_
                refine V_sub [1, 2, 3, 0] (lv' := [(0, .ref 7), (1, .int a0), (2, .int a1), (3, .int v9)]) rfl ?_
                exact k_Bk v9  σ8 hW h
              · replace h := h.2 hc
                refine V_pc 96 rfl ?_
                refine V_iconst 47 (v := (1 : Int32)) rfl (by decide) ?_
                exact V_zret 48 rfl rfl rfl ⟨hW, _, rfl, h⟩
            · replace h := h.2 hc
              refine V_pc 59 rfl ?_
              refine V_iconst 29 (v := (0 : Int32)) rfl (by decide) ?_
              exact V_zret 30 rfl rfl rfl ⟨hW, _, rfl, h⟩
    intro n
    induction n with
    | zero => intro x3  σ hW h; exact absurd h id
    | succ n ih => exact step  _ ih
  intro σ hW h
  refine V_iconst 0 (v := (0 : Int32)) rfl (by decide) ?_
  refine V_istore_n 1 (lv' := [(3, .int (0 : Int32)), (0, .ref 7), (1, .int a0), (2, .int a1)]) rfl rfl (by decide) rfl ?_
  refine V_sub [1, 2, 3, 0] (lv' := [(0, .ref 7), (1, .int a0), (2, .int a1), (3, .int (0 : Int32))]) rfl ?_
  obtain ⟨n, h⟩ := h
  exact k_l2 n (0 : Int32) σ hW h

def wX1_readSymbol_j120 (Q : Int32 → ab_S → Prop) (E : String → ab_S → Prop)  (σ : ab_S) : Prop := wX6_take (59 : Int32) (fun u2 σ1 => (u2 = 0 ∨ u2 = 1) ∧ Q u2 σ1) E σ
def wX1_readSymbol_j97 (Q : Int32 → ab_S → Prop) (E : String → ab_S → Prop) (x1 : Int32) (σ : ab_S) : Prop := ((¬ (σ.2.1 3 6) = (6 : Int32)) → wX1_readSymbol_j120 Q E σ) ∧ (¬ (¬ (σ.2.1 3 6) = (6 : Int32)) → wX1_readAttributes x1 (0 : Int32) (fun u4 σ3 => ((¬ u4 = 0) → wX1_readSymbol_j120 Q E σ3) ∧ (¬ (¬ u4 = 0) → Q (0 : Int32) σ3)) E σ)
def wX1_readSymbol  (Q : Int32 → ab_S → Prop) (E : String → ab_S → Prop) (σ : ab_S) : Prop := wX6_take (4 : Int32) (fun u6 σ5 => ((u6 = 0) → Q (0 : Int32) σ5) ∧ (¬ (u6 = 0) → ((¬ (σ5.2.1 3 6) = (2 : Int32)) → Q (0 : Int32) σ5) ∧ (¬ (¬ (σ5.2.1 3 6) = (2 : Int32)) → ∃ q7, σ5.2.2.2 7 1 = some q7 ∧ isG q7 ∧ (wX0_findSymbol q7 (σ5.2.2.1 3 9) (fun u9 σ8 => ((u9 = (-1 : Int32)) → ∃ q10, σ8.2.2.2 7 1 = some q10 ∧ isG q10 ∧ (∀ v11 : Int32, v11 = (σ8.2.1 q10 0) → ∃ q12, σ8.2.2.2 7 1 = some q12 ∧ isG q12 ∧ (wX0_addSymbol q12 (σ8.2.2.1 3 9) (fun σ13 => wX6_advance (fun σ14 => ((¬ (σ14.2.1 3 6) = (5 : Int32)) → wX1_readSymbol_j97 Q E v11 σ14) ∧ (¬ (¬ (σ14.2.1 3 6) = (5 : Int32)) → ((v11 = 0) → Q (0 : Int32) σ14) ∧ (¬ (v11 = 0) → wX1_readAttributes v11 (1 : Int32) (fun u16 σ15 => ((¬ u16 = 0) → wX1_readSymbol_j97 Q E v11 σ15) ∧ (¬ (¬ u16 = 0) → Q (0 : Int32) σ15)) E σ14))) E σ13) E σ8))) ∧ (¬ (u9 = (-1 : Int32)) → Q (0 : Int32) σ8)) E σ5)))) E σ
set_option maxHeartbeats 4000000 in
set_option maxRecDepth 100000 in
theorem ceX1_readSymbol {l : Launch} (hl : l.stackTraces = false) (B : Nat)   {Q : Int32 → ab_S → Prop} {E : String → ab_S → Prop} {σ : ab_S} (hW : Wire σ) (h : wX1_readSymbol  Q E σ) : ab_Mt l yX1_readSymbol mdX1_readSymbol B 2 48 0 0 [.ref 7] σ (fun v σ' => Wire σ' ∧ ∃ r : Int32, v = some (.int r) ∧ Q r σ') (fun X σ' => Wire σ' ∧ E X σ') := by
  refine V_met hl ⟨rfl, rfl, by decide⟩ rfl dkX1_readSymbol (Nat.le_of_ble_eq_true rfl) ?_
  show V l mdX1_readSymbol B 2 48 0 0 (ab_End _ _) 0 [(0, .ref 7)] [] σ
  revert h hW
  revert σ
  have k_j120 : ∀   (σ : ab_S), Wire σ → wX1_readSymbol_j120 Q E  σ → V l mdX1_readSymbol B 2 48 0 0 (ab_End (fun v σ' => Wire σ' ∧ ∃ r : Int32, v = some (.int r) ∧ Q r σ') (fun X σ' => Wire σ' ∧ E X σ')) 120 [(0, .ref 7)] [] σ := by
    intro   σ hW h
    refine V_aload_n 59 0 rfl rfl rfl ?_
    refine V_getR 60 0 rfl clX1 flX1_9 (by decide) (wsh hW rfl) (fun _ => rfl) (wrf hW 16 rfl) ?_
    refine V_bipush 61 (v := (59 : Int32)) rfl (by decide) ?_
    refine V_callV 62 1 (as := [.int (59 : Int32)]) (rest := []) rfl mlX1_43 yvX6_take rfl rfl clX6 (wsh hW rfl) (by decide) (by decide) (Nat.le_of_ble_eq_true rfl) (by decide) (by decide) (fun B9 => ceX6_take hl B9 hW h) (fun X9 τ9 h9 => VX_out rfl h9) ?_
    rintro v9 σ1 ⟨hW, u2, rfl, h⟩
    exact V_zret 63 rfl rfl (nb1 h.1) ⟨hW, _, rfl, h.2⟩
  have k_j97 : ∀ (x1 : Int32)  (σ : ab_S), Wire σ → wX1_readSymbol_j97 Q E x1 σ → V l mdX1_readSymbol B 2 48 0 0 (ab_End (fun v σ' => Wire σ' ∧ ∃ r : Int32, v = some (.int r) ∧ Q r σ') (fun X σ' => Wire σ' ∧ E X σ')) 97 [(0, .ref 7), (1, .int x1)] [] σ := by
    intro x1  σ hW h
    refine V_aload_n 47 0 rfl rfl rfl ?_
    refine V_getR 48 0 rfl clX1 flX1_9 (by decide) (wsh hW rfl) (fun _ => rfl) (wrf hW 16 rfl) ?_
    refine V_get (v := .int (σ.2.1 3 6)) 49 6 rfl clX6 flX1_33 (by decide) (wsh hW rfl) (fun _ => rfl) ?_
    refine V_bipush 50 (v := (6 : Int32)) rfl (by decide) ?_
    refine V_icmp_ne 51 (tgt := 120) rfl (by decide) (fun hc => ?_) (fun hc => ?_)
    · replace h := h.1 hc
      refine V_sub [0] (lv' := [(0, .ref 7)]) rfl ?_
      exact k_j120 σ hW h
    · replace h := h.2 hc
      refine V_pc 109 rfl ?_
      refine V_aload_n 52 0 rfl rfl rfl ?_
      refine V_iload_n 53 1 rfl rfl rfl ?_
      refine V_iconst 54 (v := (0 : Int32)) rfl (by decide) ?_
      refine V_callV 55 2 (as := [.int x1, .int (0 : Int32)]) (rest := []) rfl mlX1_65 yvX1_readAttributes rfl rfl clX1 (wsh hW rfl) (by decide) (by decide) (Nat.le_of_ble_eq_true rfl) (by decide) (by decide) (fun B9 => ceX1_readAttributes hl B9 hW h) (fun X9 τ9 h9 => VX_out rfl h9) ?_
      rintro v9 σ3 ⟨hW, u4, rfl, h⟩
      refine V_if_ne 56 (tgt := 120) rfl (by decide) (fun hc => ?_) (fun hc => ?_)
      · replace h := h.1 hc
        refine V_sub [0] (lv' := [(0, .ref 7)]) rfl ?_
        exact k_j120 σ3 hW h
      · replace h := h.2 hc
        refine V_pc 118 rfl ?_
        refine V_iconst 57 (v := (0 : Int32)) rfl (by decide) ?_
        exact V_zret 58 rfl rfl rfl ⟨hW, _, rfl, h⟩
  intro σ hW h
  refine V_aload_n 0 0 rfl rfl rfl ?_
  refine V_getR 1 0 rfl clX1 flX1_9 (by decide) (wsh hW rfl) (fun _ => rfl) (wrf hW 16 rfl) ?_
  refine V_iconst 2 (v := (4 : Int32)) rfl (by decide) ?_
  refine V_callV 3 1 (as := [.int (4 : Int32)]) (rest := []) rfl mlX1_43 yvX6_take rfl rfl clX6 (wsh hW rfl) (by decide) (by decide) (Nat.le_of_ble_eq_true rfl) (by decide) (by decide) (fun B9 => ceX6_take hl B9 hW h) (fun X9 τ9 h9 => VX_out rfl h9) ?_
  rintro v9 σ5 ⟨hW, u6, rfl, h⟩
  refine V_if_eq 4 (tgt := 40) rfl (by decide) (fun hc => ?_) (fun hc => ?_)
  · replace h := h.1 hc
    refine V_iconst 18 (v := (0 : Int32)) rfl (by decide) ?_
    exact V_zret 19 rfl rfl rfl ⟨hW, _, rfl, h⟩
  · replace h := h.2 hc
    refine V_pc 11 rfl ?_
    refine V_aload_n 5 0 rfl rfl rfl ?_
    refine V_getR 6 0 rfl clX1 flX1_9 (by decide) (wsh hW rfl) (fun _ => rfl) (wrf hW 16 rfl) ?_
    refine V_get (v := .int (σ5.2.1 3 6)) 7 6 rfl clX6 flX1_33 (by decide) (wsh hW rfl) (fun _ => rfl) ?_
    refine V_iconst 8 (v := (2 : Int32)) rfl (by decide) ?_
    refine V_icmp_ne 9 (tgt := 40) rfl (by decide) (fun hc => ?_) (fun hc => ?_)
    · replace h := h.1 hc
      refine V_iconst 18 (v := (0 : Int32)) rfl (by decide) ?_
      exact V_zret 19 rfl rfl rfl ⟨hW, _, rfl, h⟩
    · replace h := h.2 hc
      refine V_pc 22 rfl ?_
      refine V_aload_n 10 0 rfl rfl rfl ?_
      obtain ⟨q7, eq7, hq7, h⟩ := h
      refine V_getR 11 1 rfl clX1 flX1_15 (by decide) (wsh hW rfl) (fun _ => rfl) eq7 ?_
      refine V_aload_n 12 0 rfl rfl rfl ?_
      refine V_getR 13 0 rfl clX1 flX1_9 (by decide) (wsh hW rfl) (fun _ => rfl) (wrf hW 16 rfl) ?_
      refine V_get (v := .long (σ5.2.2.1 3 9)) 14 9 rfl clX6 flX1_47 (by decide) (wsh hW rfl) (fun _ => rfl) ?_
      refine V_callV 15 1 (as := [.long (σ5.2.2.1 3 9)]) (rest := []) rfl mlX1_51 yvX0_findSymbol rfl rfl clX0 (wG hW hq7) (by decide) (by decide) (Nat.le_of_ble_eq_true rfl) (by decide) (by decide) (fun B9 => ceX0_findSymbol hl B9 hq7 hW h) (fun X9 τ9 h9 => VX_out rfl h9) ?_
      rintro v9 σ8 ⟨hW, u9, rfl, h⟩
      refine V_iconst 16 (v := (-1 : Int32)) rfl (by decide) ?_
      refine V_icmp_eq 17 (tgt := 42) rfl (by decide) (fun hc => ?_) (fun hc => ?_)
      · replace h := h.1 hc
        refine V_aload_n 20 0 rfl rfl rfl ?_
        obtain ⟨q10, eq10, hq10, h⟩ := h
        refine V_getR 21 1 rfl clX1 flX1_15 (by decide) (wsh hW rfl) (fun _ => rfl) eq10 ?_
        refine V_get (v := .int (σ8.2.1 q10 0)) 22 0 rfl clX0 flX1_55 (by decide) (wG hW hq10) (fun _ => rfl) ?_
        refine V_topi (fun v11 ev11 => ?_)
        replace h := h v11 ev11
        refine V_istore_n 23 (lv' := [(1, .int v11), (0, .ref 7)]) rfl rfl (by decide) rfl ?_
        refine V_aload_n 24 1 rfl rfl rfl ?_
        obtain ⟨q12, eq12, hq12, h⟩ := h
        refine V_getR 25 1 rfl clX1 flX1_15 (by decide) (wsh hW rfl) (fun _ => rfl) eq12 ?_
        refine V_pc 54 rfl ?_
        refine V_aload_n 26 1 rfl rfl rfl ?_
        refine V_getR 27 0 rfl clX1 flX1_9 (by decide) (wsh hW rfl) (fun _ => rfl) (wrf hW 16 rfl) ?_
        refine V_get (v := .long (σ8.2.2.1 3 9)) 28 9 rfl clX6 flX1_47 (by decide) (wsh hW rfl) (fun _ => rfl) ?_
        refine V_callV 29 1 (as := [.long (σ8.2.2.1 3 9)]) (rest := []) rfl mlX1_58 yvX0_addSymbol rfl rfl clX0 (wG hW hq12) (by decide) (by decide) (Nat.le_of_ble_eq_true rfl) (by decide) (by decide) (fun B9 => ceX0_addSymbol hl B9 hq12 hW h) (fun X9 τ9 h9 => VX_out rfl h9) ?_
        rintro v9 σ13 ⟨hW, rfl, h⟩
        refine V_aload_n 30 1 rfl rfl rfl ?_
        refine V_getR 31 0 rfl clX1 flX1_9 (by decide) (wsh hW rfl) (fun _ => rfl) (wrf hW 16 rfl) ?_
        refine V_callV 32 0 (as := []) (rest := []) rfl mlX1_62 yvX6_advance rfl rfl clX6 (wsh hW rfl) (by decide) (by decide) (Nat.le_of_ble_eq_true rfl) (by decide) (by decide) (fun B9 => ceX6_advance hl B9 hW h) (fun X9 τ9 h9 => VX_out rfl h9) ?_
        rintro v9 σ14 ⟨hW, rfl, h⟩
        refine V_aload_n 33 1 rfl rfl rfl ?_
        refine V_getR 34 0 rfl clX1 flX1_9 (by decide) (wsh hW rfl) (fun _ => rfl) (wrf hW 16 rfl) ?_
        refine V_get (v := .int (σ14.2.1 3 6)) 35 6 rfl clX6 flX1_33 (by decide) (wsh hW rfl) (fun _ => rfl) ?_
        refine V_iconst 36 (v := (5 : Int32)) rfl (by decide) ?_
        refine V_icmp_ne 37 (tgt := 97) rfl (by decide) (fun hc => ?_) (fun hc => ?_)
        · replace h := h.1 hc
          refine V_sub [1, 0] (lv' := [(0, .ref 7), (1, .int v11)]) rfl ?_
          exact k_j97 v11 σ14 hW h
        · replace h := h.2 hc
          refine V_pc 82 rfl ?_
          refine V_iload_n 38 0 rfl rfl rfl ?_
          refine V_if_eq 39 (tgt := 95) rfl (by decide) (fun hc => ?_) (fun hc => ?_)
          · replace h := h.1 hc
            refine V_iconst 45 (v := (0 : Int32)) rfl (by decide) ?_
            exact V_zret 46 rfl rfl rfl ⟨hW, _, rfl, h⟩
          · replace h := h.2 hc
            refine V_pc 86 rfl ?_
            refine V_aload_n 40 1 rfl rfl rfl ?_
            refine V_iload_n 41 0 rfl rfl rfl ?_
            refine V_iconst 42 (v := (1 : Int32)) rfl (by decide) ?_
            refine V_callV 43 2 (as := [.int v11, .int (1 : Int32)]) (rest := []) rfl mlX1_65 yvX1_readAttributes rfl rfl clX1 (wsh hW rfl) (by decide) (by decide) (Nat.le_of_ble_eq_true rfl) (by decide) (by decide) (fun B9 => ceX1_readAttributes hl B9 hW h) (fun X9 τ9 h9 => VX_out rfl h9) ?_
            rintro v9 σ15 ⟨hW, u16, rfl, h⟩
            refine V_if_ne 44 (tgt := 97) rfl (by decide) (fun hc => ?_) (fun hc => ?_)
            · replace h := h.1 hc
              refine V_sub [1, 0] (lv' := [(0, .ref 7), (1, .int v11)]) rfl ?_
              exact k_j97 v11 σ15 hW h
            · replace h := h.2 hc
              refine V_pc 95 rfl ?_
              refine V_iconst 45 (v := (0 : Int32)) rfl (by decide) ?_
              exact V_zret 46 rfl rfl rfl ⟨hW, _, rfl, h⟩
      · replace h := h.2 hc
        refine V_pc 40 rfl ?_
        refine V_iconst 18 (v := (0 : Int32)) rfl (by decide) ?_
        exact V_zret 19 rfl rfl rfl ⟨hW, _, rfl, h⟩

def wX1_readOccurrence_j29 (a0 : Int32) (Q : Int32 → ab_S → Prop) (E : String → ab_S → Prop) (y0 : Int32) (σ : ab_S) : Prop := ((¬ y0 = (-1 : Int32)) → ∃ q1, σ.2.2.2 7 1 = some q1 ∧ isG q1 ∧ (vp_in (((σ.2.1 7 2) * (4 : Int32)) + a0) 120 ∧ (∀ σ2 : ab_S, σ2 = ab_I σ (q1 + 7) (((σ.2.1 7 2) * (4 : Int32)) + a0).toNatClampNeg y0 → wX6_advance (fun σ3 => Q (1 : Int32) σ3) E σ2))) ∧ (¬ (¬ y0 = (-1 : Int32)) → Q (0 : Int32) σ)
def wX1_readOccurrence (a0 : Int32) (Q : Int32 → ab_S → Prop) (E : String → ab_S → Prop) (σ : ab_S) : Prop := ((¬ (σ.2.1 3 6) = (2 : Int32)) → wX1_readOccurrence_j29 a0 Q E (-1 : Int32) σ) ∧ (¬ (¬ (σ.2.1 3 6) = (2 : Int32)) → ∃ q4, σ.2.2.2 7 1 = some q4 ∧ isG q4 ∧ (wX0_findSymbol q4 (σ.2.2.1 3 9) (fun u6 σ5 => wX1_readOccurrence_j29 a0 Q E u6 σ5) E σ))
set_option maxHeartbeats 4000000 in
set_option maxRecDepth 100000 in
theorem ceX1_readOccurrence {l : Launch} (hl : l.stackTraces = false) (B : Nat) {a0 : Int32}  {Q : Int32 → ab_S → Prop} {E : String → ab_S → Prop} {σ : ab_S} (hW : Wire σ) (h : wX1_readOccurrence a0 Q E σ) : ab_Mt l yX1_readOccurrence mdX1_readOccurrence B 1 23 0 0 [.ref 7, .int a0] σ (fun v σ' => Wire σ' ∧ ∃ r : Int32, v = some (.int r) ∧ Q r σ') (fun X σ' => Wire σ' ∧ E X σ') := by
  refine V_met hl ⟨rfl, rfl, by decide⟩ rfl dkX1_readOccurrence (Nat.le_of_ble_eq_true rfl) ?_
  show V l mdX1_readOccurrence B 1 23 0 0 (ab_End _ _) 0 [(0, .ref 7), (1, .int a0)] [] σ
  revert h hW
  revert σ
  have k_j29 : ∀ (y0 : Int32)  (σ : ab_S), Wire σ → wX1_readOccurrence_j29 a0 Q E y0 σ → V l mdX1_readOccurrence B 1 23 0 0 (ab_End (fun v σ' => Wire σ' ∧ ∃ r : Int32, v = some (.int r) ∧ Q r σ') (fun X σ' => Wire σ' ∧ E X σ')) 29 [(0, .ref 7), (1, .int a0)] [.int y0] σ := by
    intro y0  σ hW h
    refine V_istore_n 13 (lv' := [(2, .int y0), (0, .ref 7), (1, .int a0)]) rfl rfl (by decide) rfl ?_
    refine V_iload_n 14 0 rfl rfl rfl ?_
    refine V_iconst 15 (v := (-1 : Int32)) rfl (by decide) ?_
    refine V_icmp_ne 16 (tgt := 37) rfl (by decide) (fun hc => ?_) (fun hc => ?_)
    · replace h := h.1 hc
      refine V_aload_n 19 1 rfl rfl rfl ?_
      obtain ⟨q1, eq1, hq1, h⟩ := h
      refine V_getR 20 1 rfl clX1 flX1_15 (by decide) (wsh hW rfl) (fun _ => rfl) eq1 ?_
      refine V_getR 21 8 rfl clX0 flX1_109 (by decide) (wG hW hq1) (fun _ => rfl) (wG_f8 hW hq1) ?_
      refine V_aload_n 22 1 rfl rfl rfl ?_
      refine V_get (v := .int (σ.2.1 7 2)) 23 2 rfl clX1 flX1_87 (by decide) (wsh hW rfl) (fun _ => rfl) ?_
      refine V_iconst 24 (v := (4 : Int32)) rfl (by decide) ?_
      refine V_pc 49 rfl ?_
      refine V_imul 25 rfl ?_
      refine V_iload_n 26 2 rfl rfl rfl ?_
      refine V_iadd 27 rfl ?_
      refine V_iload_n 28 0 rfl rfl rfl ?_
      obtain ⟨hin, h⟩ := h
      refine V_iast 29 rfl (wG_a7 hW hq1) hin ?_
      refine V_nm (fun σ2 eσ2 => ?_)
      replace h := h σ2 eσ2
      have hW := wire_I eσ2 hW
      refine V_aload_n 30 1 rfl rfl rfl ?_
      refine V_pc 55 rfl ?_
      refine V_getR 31 0 rfl clX1 flX1_9 (by decide) (wsh hW rfl) (fun _ => rfl) (wrf hW 16 rfl) ?_
      refine V_callV 32 0 (as := []) (rest := []) rfl mlX1_62 yvX6_advance rfl rfl clX6 (wsh hW rfl) (by decide) (by decide) (Nat.le_of_ble_eq_true rfl) (by decide) (by decide) (fun B9 => ceX6_advance hl B9 hW h) (fun X9 τ9 h9 => VX_out rfl h9) ?_
      rintro v9 σ3 ⟨hW, rfl, h⟩
      refine V_iconst 33 (v := (1 : Int32)) rfl (by decide) ?_
      exact V_zret 34 rfl rfl rfl ⟨hW, _, rfl, h⟩
    · replace h := h.2 hc
      refine V_pc 35 rfl ?_
      refine V_iconst 17 (v := (0 : Int32)) rfl (by decide) ?_
      exact V_zret 18 rfl rfl rfl ⟨hW, _, rfl, h⟩
  intro σ hW h
  refine V_aload_n 0 0 rfl rfl rfl ?_
  refine V_getR 1 0 rfl clX1 flX1_9 (by decide) (wsh hW rfl) (fun _ => rfl) (wrf hW 16 rfl) ?_
  refine V_get (v := .int (σ.2.1 3 6)) 2 6 rfl clX6 flX1_33 (by decide) (wsh hW rfl) (fun _ => rfl) ?_
  refine V_iconst 3 (v := (2 : Int32)) rfl (by decide) ?_
  refine V_icmp_ne 4 (tgt := 28) rfl (by decide) (fun hc => ?_) (fun hc => ?_)
  · replace h := h.1 hc
    refine V_iconst 12 (v := (-1 : Int32)) rfl (by decide) ?_
    exact k_j29 (-1 : Int32) σ hW h
  · replace h := h.2 hc
    refine V_pc 11 rfl ?_
    refine V_aload_n 5 0 rfl rfl rfl ?_
    obtain ⟨q4, eq4, hq4, h⟩ := h
    refine V_getR 6 1 rfl clX1 flX1_15 (by decide) (wsh hW rfl) (fun _ => rfl) eq4 ?_
    refine V_aload_n 7 0 rfl rfl rfl ?_
    refine V_getR 8 0 rfl clX1 flX1_9 (by decide) (wsh hW rfl) (fun _ => rfl) (wrf hW 16 rfl) ?_
    refine V_get (v := .long (σ.2.2.1 3 9)) 9 9 rfl clX6 flX1_47 (by decide) (wsh hW rfl) (fun _ => rfl) ?_
    refine V_callV 10 1 (as := [.long (σ.2.2.1 3 9)]) (rest := []) rfl mlX1_51 yvX0_findSymbol rfl rfl clX0 (wG hW hq4) (by decide) (by decide) (Nat.le_of_ble_eq_true rfl) (by decide) (by decide) (fun B9 => ceX0_findSymbol hl B9 hq4 hW h) (fun X9 τ9 h9 => VX_out rfl h9) ?_
    rintro v9 σ5 ⟨hW, u6, rfl, h⟩
    refine V_goto 11 (tgt := 29) rfl (by decide) ?_
    exact k_j29 u6 σ5 hW h

def wX1_readRight_l23_b (Q : Int32 → ab_S → Prop) (E : String → ab_S → Prop) (Bk : Int32 → ab_S → Prop) (x1 : Int32) (σ : ab_S) : Prop := (((3 : Int32) < x1) → Q (1 : Int32) σ) ∧ (¬ ((3 : Int32) < x1) → ((¬ (σ.2.1 3 6) = (2 : Int32)) → Q (1 : Int32) σ) ∧ (¬ (¬ (σ.2.1 3 6) = (2 : Int32)) → wX1_readOccurrence x1 (fun u2 σ1 => ((¬ u2 = 0) → ∃ q3, σ1.2.2.2 7 1 = some q3 ∧ isG q3 ∧ (vp_in (σ1.2.1 7 2) 30 ∧ (∀ σ4 : ab_S, σ4 = ab_I σ1 (q3 + 6) (σ1.2.1 7 2).toNatClampNeg x1 → ∀ v5 : Int32, v5 = (x1 + 1) → Bk v5 σ4))) ∧ (¬ (¬ u2 = 0) → Q (0 : Int32) σ1)) E σ))
def wX1_readRight_l23 (Q : Int32 → ab_S → Prop) (E : String → ab_S → Prop) : Nat → Int32 → ab_S → Prop
  | 0, _, _ => False
  | n + 1, x1, σ => wX1_readRight_l23_b Q E (wX1_readRight_l23 Q E n) x1 σ
def wX1_readRight  (Q : Int32 → ab_S → Prop) (E : String → ab_S → Prop) (σ : ab_S) : Prop := ∃ q6, σ.2.2.2 7 1 = some q6 ∧ isG q6 ∧ (wX6_take (35 : Int32) (fun u8 σ7 => vp_in (σ.2.1 7 2) 30 ∧ (∀ σ9 : ab_S, σ9 = ab_I σ7 (q6 + 8) (σ.2.1 7 2).toNatClampNeg (vp_nar .boolean u8) → ∃ n, wX1_readRight_l23 Q E n (1 : Int32) σ9)) E σ)
set_option maxHeartbeats 4000000 in
set_option maxRecDepth 100000 in
theorem ceX1_readRight {l : Launch} (hl : l.stackTraces = false) (B : Nat)   {Q : Int32 → ab_S → Prop} {E : String → ab_S → Prop} {σ : ab_S} (hW : Wire σ) (h : wX1_readRight  Q E σ) : ab_Mt l yX1_readRight mdX1_readRight B 2 45 0 0 [.ref 7] σ (fun v σ' => Wire σ' ∧ ∃ r : Int32, v = some (.int r) ∧ Q r σ') (fun X σ' => Wire σ' ∧ E X σ') := by
  refine V_met hl ⟨rfl, rfl, by decide⟩ rfl dkX1_readRight (Nat.le_of_ble_eq_true rfl) ?_
  show V l mdX1_readRight B 2 45 0 0 (ab_End _ _) 0 [(0, .ref 7)] [] σ
  revert h hW
  revert σ
  have k_l23 : ∀ (n : Nat) (x1 : Int32)  (σ : ab_S), Wire σ → wX1_readRight_l23 Q E n x1 σ → V l mdX1_readRight B 2 45 0 0 (ab_End (fun v σ' => Wire σ' ∧ ∃ r : Int32, v = some (.int r) ∧ Q r σ') (fun X σ' => Wire σ' ∧ E X σ')) 23 [(0, .ref 7), (1, .int x1)] [] σ := by
    have step : ∀ (Bk : Int32 → ab_S → Prop) (k_Bk : ∀ (x1 : Int32)  (σ : ab_S), Wire σ → Bk x1 σ → V l mdX1_readRight B 2 45 0 0 (ab_End (fun v σ' => Wire σ' ∧ ∃ r : Int32, v = some (.int r) ∧ Q r σ') (fun X σ' => Wire σ' ∧ E X σ')) 23 [(0, .ref 7), (1, .int x1)] [] σ), ∀ (x1 : Int32)  (σ : ab_S), Wire σ → wX1_readRight_l23_b Q E Bk x1 σ → V l mdX1_readRight B 2 45 0 0 (ab_End (fun v σ' => Wire σ' ∧ ∃ r : Int32, v = some (.int r) ∧ Q r σ') (fun X σ' => Wire σ' ∧ E X σ')) 23 [(0, .ref 7), (1, .int x1)] [] σ := by
      intro Bk k_Bk
      intro x1  σ hW h
      refine V_iload_n 12 1 rfl rfl rfl ?_
      refine V_iconst 13 (v := (3 : Int32)) rfl (by decide) ?_
      refine V_icmp_gt 14 (tgt := 68) rfl (by decide) (fun hc => ?_) (fun hc => ?_)
      · replace h := h.1 hc
        refine V_iconst 35 (v := (1 : Int32)) rfl (by decide) ?_
        exact V_zret 36 rfl rfl rfl ⟨hW, _, rfl, h⟩
      · replace h := h.2 hc
        refine V_pc 28 rfl ?_
        refine V_aload_n 15 0 rfl rfl rfl ?_
        refine V_getR 16 0 rfl clX1 flX1_9 (by decide) (wsh hW rfl) (fun _ => rfl) (wrf hW 16 rfl) ?_
        refine V_get (v := .int (σ.2.1 3 6)) 17 6 rfl clX6 flX1_33 (by decide) (wsh hW rfl) (fun _ => rfl) ?_
        refine V_iconst 18 (v := (2 : Int32)) rfl (by decide) ?_
        refine V_icmp_ne 19 (tgt := 68) rfl (by decide) (fun hc => ?_) (fun hc => ?_)
        · replace h := h.1 hc
          refine V_iconst 35 (v := (1 : Int32)) rfl (by decide) ?_
          exact V_zret 36 rfl rfl rfl ⟨hW, _, rfl, h⟩
        · replace h := h.2 hc
          refine V_pc 39 rfl ?_
          refine V_aload_n 20 0 rfl rfl rfl ?_
          refine V_iload_n 21 1 rfl rfl rfl ?_
          refine V_callV 22 1 (as := [.int x1]) (rest := []) rfl mlX1_93 yvX1_readOccurrence rfl rfl clX1 (wsh hW rfl) (by decide) (by decide) (Nat.le_of_ble_eq_true rfl) (by decide) (by decide) (fun B9 => ceX1_readOccurrence hl B9 hW h) (fun X9 τ9 h9 => VX_out rfl h9) ?_
          rintro v9 σ1 ⟨hW, u2, rfl, h⟩
          refine V_if_ne 23 (tgt := 49) rfl (by decide) (fun hc => ?_) (fun hc => ?_)
          · replace h := h.1 hc
            refine V_aload_n 26 0 rfl rfl rfl ?_
            obtain ⟨q3, eq3, hq3, h⟩ := h
            refine V_getR 27 1 rfl clX1 flX1_15 (by decide) (wsh hW rfl) (fun _ => rfl) eq3 ?_
            refine V_getR 28 7 rfl clX0 flX1_116 (by decide) (wG hW hq3) (fun _ => rfl) (wG_f7 hW hq3) ?_
            refine V_aload_n 29 0 rfl rfl rfl ?_
            refine V_get (v := .int (σ1.2.1 7 2)) 30 2 rfl clX1 flX1_87 (by decide) (wsh hW rfl) (fun _ => rfl) ?_
            refine V_iload_n 31 1 rfl rfl rfl ?_
            refine V_pc 61 rfl ?_
            obtain ⟨hin, h⟩ := h
            refine V_iast 32 rfl (wG_a6 hW hq3) hin ?_
            refine V_nm (fun σ4 eσ4 => ?_)
            replace h := h σ4 eσ4
            have hW := wire_I eσ4 hW
            obtain ⟨v5, ev5⟩ : ∃ z : Int32, z = (x1 + 1) := ⟨_, rfl⟩
            replace h := h v5 ev5
            refine V_iinc 33 1 (v := v5) (lv' := [(1, .int v5), (0, .ref 7)]) rfl rfl ((in_1 _).trans ev5.symm) (by decide) rfl ?_
            refine V_goto 34 (tgt := 23) rfl (by decide) ?_
            refine V_sub [1, 0] (lv' := [(0, .ref 7), (1, .int v5)]) rfl ?_
            exact k_Bk v5  σ4 hW h
          · replace h := h.2 hc
            refine V_pc 47 rfl ?_
            refine V_iconst 24 (v := (0 : Int32)) rfl (by decide) ?_
            exact V_zret 25 rfl rfl rfl ⟨hW, _, rfl, h⟩
    intro n
    induction n with
    | zero => intro x1  σ hW h; exact absurd h id
    | succ n ih => exact step  _ ih
  intro σ hW h
  refine V_aload_n 0 0 rfl rfl rfl ?_
  obtain ⟨q6, eq6, hq6, h⟩ := h
  refine V_getR 1 1 rfl clX1 flX1_15 (by decide) (wsh hW rfl) (fun _ => rfl) eq6 ?_
  refine V_getR 2 9 rfl clX0 flX1_112 (by decide) (wG hW hq6) (fun _ => rfl) (wG_f9 hW hq6) ?_
  refine V_aload_n 3 0 rfl rfl rfl ?_
  refine V_get (v := .int (σ.2.1 7 2)) 4 2 rfl clX1 flX1_87 (by decide) (wsh hW rfl) (fun _ => rfl) ?_
  refine V_aload_n 5 0 rfl rfl rfl ?_
  refine V_pc 12 rfl ?_
  refine V_getR 6 0 rfl clX1 flX1_9 (by decide) (wsh hW rfl) (fun _ => rfl) (wrf hW 16 rfl) ?_
  refine V_bipush 7 (v := (35 : Int32)) rfl (by decide) ?_
  refine V_callV 8 1 (as := [.int (35 : Int32)]) (rest := [.int (σ.2.1 7 2), .ref (q6 + 8)]) rfl mlX1_43 yvX6_take rfl rfl clX6 (wsh hW rfl) (by decide) (by decide) (Nat.le_of_ble_eq_true rfl) (by decide) (by decide) (fun B9 => ceX6_take hl B9 hW h) (fun X9 τ9 h9 => VX_out rfl h9) ?_
  rintro v9 σ7 ⟨hW, u8, rfl, h⟩
  obtain ⟨hin, h⟩ := h
  refine V_zast 9 rfl (wG_a8 hW hq6) hin ?_
  refine V_nm (fun σ9 eσ9 => ?_)
  replace h := h σ9 eσ9
  have hW := wire_I eσ9 hW
  refine V_iconst 10 (v := (1 : Int32)) rfl (by decide) ?_
  refine V_istore_n 11 (lv' := [(1, .int (1 : Int32)), (0, .ref 7)]) rfl rfl (by decide) rfl ?_
  refine V_sub [1, 0] (lv' := [(0, .ref 7), (1, .int (1 : Int32))]) rfl ?_
  obtain ⟨n, h⟩ := h
  exact k_l23 n (1 : Int32) σ9 hW h

def wX1_readSlot_j173 (a0 : Int32) (Q : Int32 → ab_S → Prop) (E : String → ab_S → Prop) (x5 : Int32) (σ : ab_S) : Prop := wX6_advance (fun σ1 => Q x5 σ1) E σ
def wX1_readSlot_j133 (a0 : Int32) (Q : Int32 → ab_S → Prop) (E : String → ab_S → Prop) (x2 : Int32) (x4 : Int32) (y0 : Int32) (y1 : Int32) (σ : ab_S) : Prop := ((y1 = y0) → ∀ v2 : Int32, v2 = ((x2 * (8 : Int32)) + x4) → ((a0 = 0) → wX1_readSlot_j173 a0 Q E v2 σ) ∧ (¬ (a0 = 0) → ∃ q3, σ.2.2.2 7 1 = some q3 ∧ isG q3 ∧ (vp_in (σ.2.1 7 2) 30 ∧ (((((((σ.2.1 (q3 + 9) (σ.2.1 7 2).toNatClampNeg).toUInt32 >>> (v2.toUInt32 &&& Int32.toUInt32 31)).toInt32) &&& (1 : Int32)) = 0) → wX1_readSlot_j173 a0 Q E v2 σ) ∧ (¬ (((((σ.2.1 (q3 + 9) (σ.2.1 7 2).toNatClampNeg).toUInt32 >>> (v2.toUInt32 &&& Int32.toUInt32 31)).toInt32) &&& (1 : Int32)) = 0) → Q (-1 : Int32) σ))))) ∧ (¬ (y1 = y0) → Q (-1 : Int32) σ)
def wX1_readSlot_j125 (a0 : Int32) (Q : Int32 → ab_S → Prop) (E : String → ab_S → Prop) (x2 : Int32) (x4 : Int32) (y0 : Int32) (y2 : Int32) (σ : ab_S) : Prop := ((¬ a0 = y0) → wX1_readSlot_j133 a0 Q E x2 x4 (0 : Int32) y2 σ) ∧ (¬ (¬ a0 = y0) → wX1_readSlot_j133 a0 Q E x2 x4 (1 : Int32) y2 σ)
def wX1_readSlot (a0 : Int32) (Q : Int32 → ab_S → Prop) (E : String → ab_S → Prop) (σ : ab_S) : Prop := ∀ v4 : Int32, v4 = (σ.2.1 3 8) → ((¬ (σ.2.1 3 6) = (3 : Int32)) → Q (-1 : Int32) σ) ∧ (¬ (¬ (σ.2.1 3 6) = (3 : Int32)) → ∃ q5, σ.2.2.2 7 1 = some q5 ∧ isG q5 ∧ (vp_in (σ.2.1 7 2) 30 ∧ (((v4 ≤ (σ.2.1 (q5 + 6) (σ.2.1 7 2).toNatClampNeg)) → wX6_advance (fun σ6 => wX6_take (46 : Int32) (fun u8 σ7 => ((u8 = 0) → Q (-1 : Int32) σ7) ∧ (¬ (u8 = 0) → (((σ7.2.1 3 6) = (2 : Int32)) → ∃ q9, σ7.2.2.2 7 1 = some q9 ∧ isG q9 ∧ (wX0_symbolAt q9 (σ7.2.1 7 2) v4 (fun u11 σ10 => ∃ q12, σ10.2.2.2 7 1 = some q12 ∧ isG q12 ∧ (wX0_findAttribute q12 u11 (σ10.2.2.1 3 9) (fun u14 σ13 => ((u14 = (-1 : Int32)) → Q (-1 : Int32) σ13) ∧ (¬ (u14 = (-1 : Int32)) → ∃ q15, σ13.2.2.2 7 1 = some q15 ∧ isG q15 ∧ (wX0_isDown q15 u11 u14 (fun u17 σ16 => ((v4 ≤ 0) → wX1_readSlot_j125 a0 Q E v4 u14 (0 : Int32) u17 σ16) ∧ (¬ (v4 ≤ 0) → wX1_readSlot_j125 a0 Q E v4 u14 (1 : Int32) u17 σ16)) E σ13))) E σ10)) E σ7)) ∧ (¬ ((σ7.2.1 3 6) = (2 : Int32)) → Q (-1 : Int32) σ7))) E σ6) E σ) ∧ (¬ (v4 ≤ (σ.2.1 (q5 + 6) (σ.2.1 7 2).toNatClampNeg)) → Q (-1 : Int32) σ))))
set_option maxHeartbeats 4000000 in
set_option maxRecDepth 100000 in
theorem ceX1_readSlot {l : Launch} (hl : l.stackTraces = false) (B : Nat) {a0 : Int32}  {Q : Int32 → ab_S → Prop} {E : String → ab_S → Prop} {σ : ab_S} (hW : Wire σ) (h : wX1_readSlot a0 Q E σ) : ab_Mt l yX1_readSlot mdX1_readSlot B 2 41 0 0 [.ref 7, .int a0] σ (fun v σ' => Wire σ' ∧ ∃ r : Int32, v = some (.int r) ∧ Q r σ') (fun X σ' => Wire σ' ∧ E X σ') := by
  refine V_met hl ⟨rfl, rfl, by decide⟩ rfl dkX1_readSlot (Nat.le_of_ble_eq_true rfl) ?_
  show V l mdX1_readSlot B 2 41 0 0 (ab_End _ _) 0 [(0, .ref 7), (1, .int a0)] [] σ
  revert h hW
  revert σ
  have k_j173 : ∀ (x5 : Int32)  (σ : ab_S), Wire σ → wX1_readSlot_j173 a0 Q E x5 σ → V l mdX1_readSlot B 2 41 0 0 (ab_End (fun v σ' => Wire σ' ∧ ∃ r : Int32, v = some (.int r) ∧ Q r σ') (fun X σ' => Wire σ' ∧ E X σ')) 173 [(0, .ref 7), (5, .int x5)] [] σ := by
    intro x5  σ hW h
    refine V_aload_n 91 0 rfl rfl rfl ?_
    refine V_getR 92 0 rfl clX1 flX1_9 (by decide) (wsh hW rfl) (fun _ => rfl) (wrf hW 16 rfl) ?_
    refine V_callV 93 0 (as := []) (rest := []) rfl mlX1_62 yvX6_advance rfl rfl clX6 (wsh hW rfl) (by decide) (by decide) (Nat.le_of_ble_eq_true rfl) (by decide) (by decide) (fun B9 => ceX6_advance hl B9 hW h) (fun X9 τ9 h9 => VX_out rfl h9) ?_
    rintro v9 σ1 ⟨hW, rfl, h⟩
    refine V_iload 94 1 rfl rfl ?_
    exact V_iret 95 rfl rfl ⟨hW, _, rfl, h⟩
  have k_j133 : ∀ (x2 : Int32) (x4 : Int32) (y0 : Int32) (y1 : Int32)  (σ : ab_S), Wire σ → wX1_readSlot_j133 a0 Q E x2 x4 y0 y1 σ → V l mdX1_readSlot B 2 41 0 0 (ab_End (fun v σ' => Wire σ' ∧ ∃ r : Int32, v = some (.int r) ∧ Q r σ') (fun X σ' => Wire σ' ∧ E X σ')) 133 [(0, .ref 7), (1, .int a0), (2, .int x2), (4, .int x4)] [.int y0, .int y1] σ := by
    intro x2 x4 y0 y1  σ hW h
    refine V_icmp_eq 67 (tgt := 138) rfl (by decide) (fun hc => ?_) (fun hc => ?_)
    · replace h := h.1 hc
      refine V_iload_n 70 2 rfl rfl rfl ?_
      refine V_bipush 71 (v := (8 : Int32)) rfl (by decide) ?_
      refine V_imul 72 rfl ?_
      refine V_iload 73 3 rfl rfl ?_
      refine V_iadd 74 rfl ?_
      refine V_topi (fun v2 ev2 => ?_)
      replace h := h v2 ev2
      refine V_istore 75 (lv' := [(5, .int v2), (0, .ref 7), (1, .int a0), (2, .int x2), (4, .int x4)]) rfl (by decide) rfl ?_
      refine V_pc 147 rfl ?_
      refine V_iload_n 76 2 rfl rfl rfl ?_
      refine V_if_eq 77 (tgt := 173) rfl (by decide) (fun hc => ?_) (fun hc => ?_)
      · replace h := h.1 hc
        refine V_sub [1, 0] (lv' := [(0, .ref 7), (5, .int v2)]) rfl ?_
        exact k_j173 v2 σ hW h
      · replace h := h.2 hc
        refine V_pc 151 rfl ?_
        refine V_aload_n 78 1 rfl rfl rfl ?_
        obtain ⟨q3, eq3, hq3, h⟩ := h
        refine V_getR 79 1 rfl clX1 flX1_15 (by decide) (wsh hW rfl) (fun _ => rfl) eq3 ?_
        refine V_getR 80 10 rfl clX0 flX1_102 (by decide) (wG hW hq3) (fun _ => rfl) (wG_f10 hW hq3) ?_
        refine V_aload_n 81 1 rfl rfl rfl ?_
        refine V_get (v := .int (σ.2.1 7 2)) 82 2 rfl clX1 flX1_87 (by decide) (wsh hW rfl) (fun _ => rfl) ?_
        obtain ⟨hin, h⟩ := h
        refine V_iald 83 rfl (wG_a9 hW hq3) hin ?_
        refine V_pc 163 rfl ?_
        refine V_iload 84 0 rfl rfl ?_
        refine V_iushr 85 rfl ?_
        refine V_iconst 86 (v := (1 : Int32)) rfl (by decide) ?_
        refine V_iand 87 rfl ?_
        refine V_if_eq 88 (tgt := 173) rfl (by decide) (fun hc => ?_) (fun hc => ?_)
        · replace h := h.1 hc
          refine V_sub [1, 0] (lv' := [(0, .ref 7), (5, .int v2)]) rfl ?_
          exact k_j173 v2 σ hW h
        · replace h := h.2 hc
          refine V_pc 171 rfl ?_
          refine V_iconst 89 (v := (-1 : Int32)) rfl (by decide) ?_
          exact V_iret 90 rfl rfl ⟨hW, _, rfl, h⟩
    · replace h := h.2 hc
      refine V_pc 136 rfl ?_
      refine V_iconst 68 (v := (-1 : Int32)) rfl (by decide) ?_
      exact V_iret 69 rfl rfl ⟨hW, _, rfl, h⟩
  have k_j125 : ∀ (x2 : Int32) (x4 : Int32) (y0 : Int32) (y2 : Int32)  (σ : ab_S), Wire σ → wX1_readSlot_j125 a0 Q E x2 x4 y0 y2 σ → V l mdX1_readSlot B 2 41 0 0 (ab_End (fun v σ' => Wire σ' ∧ ∃ r : Int32, v = some (.int r) ∧ Q r σ') (fun X σ' => Wire σ' ∧ E X σ')) 125 [(0, .ref 7), (1, .int a0), (2, .int x2), (4, .int x4)] [.int y0, .int a0, .int y2] σ := by
    intro x2 x4 y0 y2  σ hW h
    refine V_icmp_ne 63 (tgt := 132) rfl (by decide) (fun hc => ?_) (fun hc => ?_)
    · replace h := h.1 hc
      refine V_iconst 66 (v := (0 : Int32)) rfl (by decide) ?_
      exact k_j133 x2 x4 (0 : Int32) y2 σ hW h
    · replace h := h.2 hc
      refine V_pc 128 rfl ?_
      refine V_iconst 64 (v := (1 : Int32)) rfl (by decide) ?_
      refine V_goto 65 (tgt := 133) rfl (by decide) ?_
      exact k_j133 x2 x4 (1 : Int32) y2 σ hW h
  intro σ hW h
  refine V_aload_n 0 0 rfl rfl rfl ?_
  refine V_getR 1 0 rfl clX1 flX1_9 (by decide) (wsh hW rfl) (fun _ => rfl) (wrf hW 16 rfl) ?_
  refine V_get (v := .int (σ.2.1 3 8)) 2 8 rfl clX6 flX1_141 (by decide) (wsh hW rfl) (fun _ => rfl) ?_
  refine V_topi (fun v4 ev4 => ?_)
  replace h := h v4 ev4
  refine V_istore_n 3 (lv' := [(2, .int v4), (0, .ref 7), (1, .int a0)]) rfl rfl (by decide) rfl ?_
  refine V_aload_n 4 1 rfl rfl rfl ?_
  refine V_getR 5 0 rfl clX1 flX1_9 (by decide) (wsh hW rfl) (fun _ => rfl) (wrf hW 16 rfl) ?_
  refine V_pc 12 rfl ?_
  refine V_get (v := .int (σ.2.1 3 6)) 6 6 rfl clX6 flX1_33 (by decide) (wsh hW rfl) (fun _ => rfl) ?_
  refine V_iconst 7 (v := (3 : Int32)) rfl (by decide) ?_
  refine V_icmp_ne 8 (tgt := 35) rfl (by decide) (fun hc => ?_) (fun hc => ?_)
  · replace h := h.1 hc
    refine V_iconst 17 (v := (-1 : Int32)) rfl (by decide) ?_
    exact V_iret 18 rfl rfl ⟨hW, _, rfl, h⟩
  · replace h := h.2 hc
    refine V_pc 19 rfl ?_
    refine V_iload_n 9 0 rfl rfl rfl ?_
    refine V_aload_n 10 1 rfl rfl rfl ?_
    obtain ⟨q5, eq5, hq5, h⟩ := h
    refine V_getR 11 1 rfl clX1 flX1_15 (by decide) (wsh hW rfl) (fun _ => rfl) eq5 ?_
    refine V_getR 12 7 rfl clX0 flX1_116 (by decide) (wG hW hq5) (fun _ => rfl) (wG_f7 hW hq5) ?_
    refine V_aload_n 13 1 rfl rfl rfl ?_
    refine V_get (v := .int (σ.2.1 7 2)) 14 2 rfl clX1 flX1_87 (by decide) (wsh hW rfl) (fun _ => rfl) ?_
    refine V_pc 31 rfl ?_
    obtain ⟨hin, h⟩ := h
    refine V_iald 15 rfl (wG_a6 hW hq5) hin ?_
    refine V_icmp_le 16 (tgt := 37) rfl (by decide) (fun hc => ?_) (fun hc => ?_)
    · replace h := h.1 hc
      refine V_aload_n 19 1 rfl rfl rfl ?_
      refine V_getR 20 0 rfl clX1 flX1_9 (by decide) (wsh hW rfl) (fun _ => rfl) (wrf hW 16 rfl) ?_
      refine V_callV 21 0 (as := []) (rest := []) rfl mlX1_62 yvX6_advance rfl rfl clX6 (wsh hW rfl) (by decide) (by decide) (Nat.le_of_ble_eq_true rfl) (by decide) (by decide) (fun B9 => ceX6_advance hl B9 hW h) (fun X9 τ9 h9 => VX_out rfl h9) ?_
      rintro v9 σ6 ⟨hW, rfl, h⟩
      refine V_aload_n 22 1 rfl rfl rfl ?_
      refine V_getR 23 0 rfl clX1 flX1_9 (by decide) (wsh hW rfl) (fun _ => rfl) (wrf hW 16 rfl) ?_
      refine V_bipush 24 (v := (46 : Int32)) rfl (by decide) ?_
      refine V_callV 25 1 (as := [.int (46 : Int32)]) (rest := []) rfl mlX1_43 yvX6_take rfl rfl clX6 (wsh hW rfl) (by decide) (by decide) (Nat.le_of_ble_eq_true rfl) (by decide) (by decide) (fun B9 => ceX6_take hl B9 hW h) (fun X9 τ9 h9 => VX_out rfl h9) ?_
      rintro v9 σ7 ⟨hW, u8, rfl, h⟩
      refine V_if_eq 26 (tgt := 67) rfl (by decide) (fun hc => ?_) (fun hc => ?_)
      · replace h := h.1 hc
        refine V_iconst 32 (v := (-1 : Int32)) rfl (by decide) ?_
        exact V_iret 33 rfl rfl ⟨hW, _, rfl, h⟩
      · replace h := h.2 hc
        refine V_pc 56 rfl ?_
        refine V_aload_n 27 1 rfl rfl rfl ?_
        refine V_getR 28 0 rfl clX1 flX1_9 (by decide) (wsh hW rfl) (fun _ => rfl) (wrf hW 16 rfl) ?_
        refine V_get (v := .int (σ7.2.1 3 6)) 29 6 rfl clX6 flX1_33 (by decide) (wsh hW rfl) (fun _ => rfl) ?_
        refine V_iconst 30 (v := (2 : Int32)) rfl (by decide) ?_
        refine V_icmp_eq 31 (tgt := 69) rfl (by decide) (fun hc => ?_) (fun hc => ?_)
        · replace h := h.1 hc
          refine V_aload_n 34 1 rfl rfl rfl ?_
          obtain ⟨q9, eq9, hq9, h⟩ := h
          refine V_getR 35 1 rfl clX1 flX1_15 (by decide) (wsh hW rfl) (fun _ => rfl) eq9 ?_
          refine V_aload_n 36 1 rfl rfl rfl ?_
          refine V_get (v := .int (σ7.2.1 7 2)) 37 2 rfl clX1 flX1_87 (by decide) (wsh hW rfl) (fun _ => rfl) ?_
          refine V_iload_n 38 0 rfl rfl rfl ?_
          refine V_callV 39 2 (as := [.int (σ7.2.1 7 2), .int v4]) (rest := []) rfl mlX1_144 yvX0_symbolAt rfl rfl clX0 (wG hW hq9) (by decide) (by decide) (Nat.le_of_ble_eq_true rfl) (by decide) (by decide) (fun B9 => ceX0_symbolAt hl B9 hq9 hW h) (fun X9 τ9 h9 => VX_out rfl h9) ?_
          rintro v9 σ10 ⟨hW, u11, rfl, h⟩
          refine V_istore_n 40 (lv' := [(3, .int u11), (2, .int v4), (0, .ref 7), (1, .int a0)]) rfl rfl (by decide) rfl ?_
          refine V_aload_n 41 2 rfl rfl rfl ?_
          obtain ⟨q12, eq12, hq12, h⟩ := h
          refine V_getR 42 1 rfl clX1 flX1_15 (by decide) (wsh hW rfl) (fun _ => rfl) eq12 ?_
          refine V_iload_n 43 0 rfl rfl rfl ?_
          refine V_aload_n 44 2 rfl rfl rfl ?_
          refine V_pc 88 rfl ?_
          refine V_getR 45 0 rfl clX1 flX1_9 (by decide) (wsh hW rfl) (fun _ => rfl) (wrf hW 16 rfl) ?_
          refine V_get (v := .long (σ10.2.2.1 3 9)) 46 9 rfl clX6 flX1_47 (by decide) (wsh hW rfl) (fun _ => rfl) ?_
          refine V_callV 47 2 (as := [.int u11, .long (σ10.2.2.1 3 9)]) (rest := []) rfl mlX1_73 yvX0_findAttribute rfl rfl clX0 (wG hW hq12) (by decide) (by decide) (Nat.le_of_ble_eq_true rfl) (by decide) (by decide) (fun B9 => ceX0_findAttribute hl B9 hq12 hW h) (fun X9 τ9 h9 => VX_out rfl h9) ?_
          rintro v9 σ13 ⟨hW, u14, rfl, h⟩
          refine V_istore 48 (lv' := [(4, .int u14), (3, .int u11), (2, .int v4), (0, .ref 7), (1, .int a0)]) rfl (by decide) rfl ?_
          refine V_iload 49 0 rfl rfl ?_
          refine V_iconst 50 (v := (-1 : Int32)) rfl (by decide) ?_
          refine V_icmp_eq 51 (tgt := 136) rfl (by decide) (fun hc => ?_) (fun hc => ?_)
          · replace h := h.1 hc
            refine V_iconst 68 (v := (-1 : Int32)) rfl (by decide) ?_
            exact V_iret 69 rfl rfl ⟨hW, _, rfl, h⟩
          · replace h := h.2 hc
            refine V_pc 105 rfl ?_
            refine V_aload_n 52 3 rfl rfl rfl ?_
            obtain ⟨q15, eq15, hq15, h⟩ := h
            refine V_getR 53 1 rfl clX1 flX1_15 (by decide) (wsh hW rfl) (fun _ => rfl) eq15 ?_
            refine V_iload_n 54 1 rfl rfl rfl ?_
            refine V_iload 55 0 rfl rfl ?_
            refine V_callV 56 2 (as := [.int u11, .int u14]) (rest := []) rfl mlX1_148 yvX0_isDown rfl rfl clX0 (wG hW hq15) (by decide) (by decide) (Nat.le_of_ble_eq_true rfl) (by decide) (by decide) (fun B9 => ceX0_isDown hl B9 hq15 hW h) (fun X9 τ9 h9 => VX_out rfl h9) ?_
            rintro v9 σ16 ⟨hW, u17, rfl, h⟩
            refine V_iload_n 57 4 rfl rfl rfl ?_
            refine V_iload_n 58 2 rfl rfl rfl ?_
            refine V_if_le 59 (tgt := 124) rfl (by decide) (fun hc => ?_) (fun hc => ?_)
            · replace h := h.1 hc
              refine V_iconst 62 (v := (0 : Int32)) rfl (by decide) ?_
              refine V_sub [3, 4, 2, 0] (lv' := [(0, .ref 7), (1, .int a0), (2, .int v4), (4, .int u14)]) rfl ?_
              exact k_j125 v4 u14 (0 : Int32) u17 σ16 hW h
            · replace h := h.2 hc
              refine V_pc 120 rfl ?_
              refine V_iconst 60 (v := (1 : Int32)) rfl (by decide) ?_
              refine V_goto 61 (tgt := 125) rfl (by decide) ?_
              refine V_sub [3, 4, 2, 0] (lv' := [(0, .ref 7), (1, .int a0), (2, .int v4), (4, .int u14)]) rfl ?_
              exact k_j125 v4 u14 (1 : Int32) u17 σ16 hW h
        · replace h := h.2 hc
          refine V_pc 67 rfl ?_
          refine V_iconst 32 (v := (-1 : Int32)) rfl (by decide) ?_
          exact V_iret 33 rfl rfl ⟨hW, _, rfl, h⟩
    · replace h := h.2 hc
      refine V_pc 35 rfl ?_
      refine V_iconst 17 (v := (-1 : Int32)) rfl (by decide) ?_
      exact V_iret 18 rfl rfl ⟨hW, _, rfl, h⟩

def wX6_isAheadOfDot  (Q : Int32 → ab_S → Prop) (E : String → ab_S → Prop) (σ : ab_S) : Prop := (((σ.2.1 3 4) ≤ ((σ.2.1 3 5) + (1 : Int32))) → Q (0 : Int32) σ) ∧ (¬ ((σ.2.1 3 4) ≤ ((σ.2.1 3 5) + (1 : Int32))) → vp_in ((σ.2.1 3 5) + (1 : Int32)) 2401 ∧ (((¬ (σ.2.1 4 ((σ.2.1 3 5) + (1 : Int32)).toNatClampNeg) = (46 : Int32)) → Q (0 : Int32) σ) ∧ (¬ (¬ (σ.2.1 4 ((σ.2.1 3 5) + (1 : Int32)).toNatClampNeg) = (46 : Int32)) → Q (1 : Int32) σ)))
set_option maxHeartbeats 4000000 in
set_option maxRecDepth 100000 in
theorem ceX6_isAheadOfDot {l : Launch} (hl : l.stackTraces = false) (B : Nat)   {Q : Int32 → ab_S → Prop} {E : String → ab_S → Prop} {σ : ab_S} (hW : Wire σ) (h : wX6_isAheadOfDot  Q E σ) : ab_Mt l yX6_isAheadOfDot mdX6_isAheadOfDot B 0 0 0 0 [.ref 3] σ (fun v σ' => Wire σ' ∧ ∃ r : Int32, v = some (.int r) ∧ Q r σ') (fun X σ' => Wire σ' ∧ E X σ') := by
  refine V_met hl ⟨rfl, rfl, by decide⟩ rfl dkX6_isAheadOfDot (Nat.le_of_ble_eq_true rfl) ?_
  show V l mdX6_isAheadOfDot B 0 0 0 0 (ab_End _ _) 0 [(0, .ref 3)] [] σ
  refine V_aload_n 0 0 rfl rfl rfl ?_
  refine V_get (v := .int (σ.2.1 3 5)) 1 5 rfl clX6 flX6_37 (by decide) (wsh hW rfl) (fun _ => rfl) ?_
  refine V_iconst 2 (v := (1 : Int32)) rfl (by decide) ?_
  refine V_iadd 3 rfl ?_
  refine V_aload_n 4 0 rfl rfl rfl ?_
  refine V_get (v := .int (σ.2.1 3 4)) 5 4 rfl clX6 flX6_26 (by decide) (wsh hW rfl) (fun _ => rfl) ?_
  refine V_pc 10 rfl ?_
  refine V_icmp_ge 6 (tgt := 33) rfl (by decide) (fun hc => ?_) (fun hc => ?_)
  · replace h := h.1 hc
    refine V_iconst 18 (v := (0 : Int32)) rfl (by decide) ?_
    exact V_zret 19 rfl rfl rfl ⟨hW, _, rfl, h⟩
  · replace h := h.2 hc
    refine V_pc 13 rfl ?_
    refine V_aload_n 7 0 rfl rfl rfl ?_
    refine V_getR 8 1 rfl clX6 flX6_9 (by decide) (wsh hW rfl) (fun _ => rfl) (wrf hW 13 rfl) ?_
    refine V_aload_n 9 0 rfl rfl rfl ?_
    refine V_get (v := .int (σ.2.1 3 5)) 10 5 rfl clX6 flX6_37 (by decide) (wsh hW rfl) (fun _ => rfl) ?_
    refine V_iconst 11 (v := (1 : Int32)) rfl (by decide) ?_
    refine V_iadd 12 rfl ?_
    refine V_pc 23 rfl ?_
    obtain ⟨hin, h⟩ := h
    refine V_iald 13 rfl (wsh hW rfl) hin ?_
    refine V_bipush 14 (v := (46 : Int32)) rfl (by decide) ?_
    refine V_icmp_ne 15 (tgt := 33) rfl (by decide) (fun hc => ?_) (fun hc => ?_)
    · replace h := h.1 hc
      refine V_iconst 18 (v := (0 : Int32)) rfl (by decide) ?_
      exact V_zret 19 rfl rfl rfl ⟨hW, _, rfl, h⟩
    · replace h := h.2 hc
      refine V_pc 29 rfl ?_
      refine V_iconst 16 (v := (1 : Int32)) rfl (by decide) ?_
      refine V_goto 17 (tgt := 34) rfl (by decide) ?_
      exact V_zret 19 rfl rfl rfl ⟨hW, _, rfl, h⟩

def wX1_readLeaf (a0 : Int32) (a1 : Int32) (Q : Int32 → ab_S → Prop) (E : String → ab_S → Prop) (σ : ab_S) : Prop := ∃ q1, σ.2.2.2 7 1 = some q1 ∧ isG q1 ∧ (wX0_emit q1 a0 a1 (fun u3 σ2 => wX6_advance (fun σ4 => Q (1 : Int32) σ4) E σ2) E σ)
set_option maxHeartbeats 4000000 in
set_option maxRecDepth 100000 in
theorem ceX1_readLeaf {l : Launch} (hl : l.stackTraces = false) (B : Nat) {a0 : Int32} {a1 : Int32}  {Q : Int32 → ab_S → Prop} {E : String → ab_S → Prop} {σ : ab_S} (hW : Wire σ) (h : wX1_readLeaf a0 a1 Q E σ) : ab_Mt l yX1_readLeaf mdX1_readLeaf B 1 22 0 0 [.ref 7, .int a0, .int a1] σ (fun v σ' => Wire σ' ∧ ∃ r : Int32, v = some (.int r) ∧ Q r σ') (fun X σ' => Wire σ' ∧ E X σ') := by
  refine V_met hl ⟨rfl, rfl, by decide⟩ rfl dkX1_readLeaf (Nat.le_of_ble_eq_true rfl) ?_
  show V l mdX1_readLeaf B 1 22 0 0 (ab_End _ _) 0 [(0, .ref 7), (1, .int a0), (2, .int a1)] [] σ
  refine V_aload_n 0 0 rfl rfl rfl ?_
  obtain ⟨q1, eq1, hq1, h⟩ := h
  refine V_getR 1 1 rfl clX1 flX1_15 (by decide) (wsh hW rfl) (fun _ => rfl) eq1 ?_
  refine V_iload_n 2 1 rfl rfl rfl ?_
  refine V_iload_n 3 2 rfl rfl rfl ?_
  refine V_callV 4 2 (as := [.int a0, .int a1]) (rest := []) rfl mlX1_158 yvX0_emit rfl rfl clX0 (wG hW hq1) (by decide) (by decide) (Nat.le_of_ble_eq_true rfl) (by decide) (by decide) (fun B9 => ceX0_emit hl B9 hq1 hW h) (fun X9 τ9 h9 => VX_out rfl h9) ?_
  rintro v9 σ2 ⟨hW, u3, rfl, h⟩
  refine V_pop 5 rfl rfl ?_
  refine V_aload_n 6 0 rfl rfl rfl ?_
  refine V_getR 7 0 rfl clX1 flX1_9 (by decide) (wsh hW rfl) (fun _ => rfl) (wrf hW 16 rfl) ?_
  refine V_callV 8 0 (as := []) (rest := []) rfl mlX1_62 yvX6_advance rfl rfl clX6 (wsh hW rfl) (by decide) (by decide) (Nat.le_of_ble_eq_true rfl) (by decide) (by decide) (fun B9 => ceX6_advance hl B9 hW h) (fun X9 τ9 h9 => VX_out rfl h9) ?_
  rintro v9 σ4 ⟨hW, rfl, h⟩
  refine V_iconst 9 (v := (1 : Int32)) rfl (by decide) ?_
  exact V_zret 10 rfl rfl rfl ⟨hW, _, rfl, h⟩

def wX1_readExpression_j84 (F : Nat → Int32 → (Int32 → ab_S → Prop) → (String → ab_S → Prop) → ab_S → Prop) (a0 : Int32) (Q : Int32 → ab_S → Prop) (E : String → ab_S → Prop) (y0 : Int32) (s1 : Nat) (σ : ab_S) : Prop := wX0_emit s1 y0 (0 : Int32) (fun u2 σ1 => Q (1 : Int32) σ1) E σ
def wX1_readExpression_j50 (F : Nat → Int32 → (Int32 → ab_S → Prop) → (String → ab_S → Prop) → ab_S → Prop) (a0 : Int32) (Q : Int32 → ab_S → Prop) (E : String → ab_S → Prop) (x2 : Int32) (σ : ab_S) : Prop := wX6_advance (fun σ3 => F 2 a0 (fun u5 σ4 => ((¬ u5 = 0) → ∃ q6, σ4.2.2.2 7 1 = some q6 ∧ isG q6 ∧ (((¬ x2 = (60 : Int32)) → wX1_readExpression_j84 F a0 Q E (12 : Int32) q6 σ4) ∧ (¬ (¬ x2 = (60 : Int32)) → wX1_readExpression_j84 F a0 Q E (11 : Int32) q6 σ4))) ∧ (¬ (¬ u5 = 0) → Q (0 : Int32) σ4)) E σ3) E σ
def wX1_readExpression (F : Nat → Int32 → (Int32 → ab_S → Prop) → (String → ab_S → Prop) → ab_S → Prop) (a0 : Int32) (Q : Int32 → ab_S → Prop) (E : String → ab_S → Prop) (σ : ab_S) : Prop := ((¬ (σ.2.1 3 6) = (7 : Int32)) → F 2 a0 (fun u8 σ7 => ((¬ u8 = 0) → ∀ v9 : Int32, v9 = (σ7.2.1 3 6) → ((v9 = (60 : Int32)) → wX1_readExpression_j50 F a0 Q E v9 σ7) ∧ (¬ (v9 = (60 : Int32)) → ((v9 = (61 : Int32)) → wX1_readExpression_j50 F a0 Q E v9 σ7) ∧ (¬ (v9 = (61 : Int32)) → Q (1 : Int32) σ7))) ∧ (¬ (¬ u8 = 0) → Q (0 : Int32) σ7)) E σ) ∧ (¬ (¬ (σ.2.1 3 6) = (7 : Int32)) → F 1 a0 (fun u11 σ10 => (u11 = 0 ∨ u11 = 1) ∧ Q u11 σ10) E σ)
set_option maxHeartbeats 4000000 in
set_option maxRecDepth 100000 in
theorem ceX1_readExpression {l : Launch} (hl : l.stackTraces = false) (B : Nat) {F : Nat → Int32 → (Int32 → ab_S → Prop) → (String → ab_S → Prop) → ab_S → Prop} {a0 : Int32} {FR LO : Nat} (hF1 : ∀ (B : Nat) {a0 : Int32} {Q : Int32 → ab_S → Prop} {E : String → ab_S → Prop} {σ : ab_S}, Wire σ → F 1 a0 Q E σ → ab_Mt l yX1_readChoice mdX1_readChoice B FR LO 0 0 [.ref 7, .int a0] σ (fun v σ' => Wire σ' ∧ ∃ r : Int32, v = some (.int r) ∧ Q r σ') (fun X σ' => Wire σ' ∧ E X σ')) (hF2 : ∀ (B : Nat) {a0 : Int32} {Q : Int32 → ab_S → Prop} {E : String → ab_S → Prop} {σ : ab_S}, Wire σ → F 2 a0 Q E σ → ab_Mt l yX1_readSum mdX1_readSum B FR LO 0 0 [.ref 7, .int a0] σ (fun v σ' => Wire σ' ∧ ∃ r : Int32, v = some (.int r) ∧ Q r σ') (fun X σ' => Wire σ' ∧ E X σ'))  {Q : Int32 → ab_S → Prop} {E : String → ab_S → Prop} {σ : ab_S} (hW : Wire σ) (h : wX1_readExpression F a0 Q E σ) : ab_Mt l yX1_readExpression mdX1_readExpression B (FR + 10) (LO + 200) 0 0 [.ref 7, .int a0] σ (fun v σ' => Wire σ' ∧ ∃ r : Int32, v = some (.int r) ∧ Q r σ') (fun X σ' => Wire σ' ∧ E X σ') := by
  refine V_met hl ⟨rfl, rfl, by decide⟩ rfl dkX1_readExpression (Nat.le_of_ble_eq_true rfl) ?_
  show V l mdX1_readExpression B (FR + 10) (LO + 200) 0 0 (ab_End _ _) 0 [(0, .ref 7), (1, .int a0)] [] σ
  revert h hW
  revert σ
  have k_j84 : ∀ (y0 : Int32) (s1 : Nat) (hs1 : isG s1) (σ : ab_S), Wire σ → wX1_readExpression_j84 F a0 Q E y0 s1 σ → V l mdX1_readExpression B (FR + 10) (LO + 200) 0 0 (ab_End (fun v σ' => Wire σ' ∧ ∃ r : Int32, v = some (.int r) ∧ Q r σ') (fun X σ' => Wire σ' ∧ E X σ')) 84 [] [.int y0, .ref s1] σ := by
    intro y0 s1 hs1 σ hW h
    refine V_iconst 44 (v := (0 : Int32)) rfl (by decide) ?_
    refine V_callV 45 2 (as := [.int y0, .int (0 : Int32)]) (rest := []) rfl mlX1_158 yvX0_emit rfl rfl clX0 (wG hW hs1) (by omega) (by show 8 + (3 + 11) + 0 ≤ LO + 200; omega) (Nat.le_of_ble_eq_true rfl) (by decide) (by decide) (fun B9 => ceX0_emit hl B9 hs1 hW h) (fun X9 τ9 h9 => VX_out rfl h9) ?_
    rintro v9 σ1 ⟨hW, u2, rfl, h⟩
    refine V_pop 46 rfl rfl ?_
    refine V_iconst 47 (v := (1 : Int32)) rfl (by decide) ?_
    exact V_zret 48 rfl rfl rfl ⟨hW, _, rfl, h⟩
  have k_j50 : ∀ (x2 : Int32)  (σ : ab_S), Wire σ → wX1_readExpression_j50 F a0 Q E x2 σ → V l mdX1_readExpression B (FR + 10) (LO + 200) 0 0 (ab_End (fun v σ' => Wire σ' ∧ ∃ r : Int32, v = some (.int r) ∧ Q r σ') (fun X σ' => Wire σ' ∧ E X σ')) 50 [(0, .ref 7), (1, .int a0), (2, .int x2)] [] σ := by
    intro x2  σ hW h
    refine V_aload_n 27 0 rfl rfl rfl ?_
    refine V_getR 28 0 rfl clX1 flX1_9 (by decide) (wsh hW rfl) (fun _ => rfl) (wrf hW 16 rfl) ?_
    refine V_callV 29 0 (as := []) (rest := []) rfl mlX1_62 yvX6_advance rfl rfl clX6 (wsh hW rfl) (by omega) (by show 8 + (1 + 11) + 0 ≤ LO + 200; omega) (Nat.le_of_ble_eq_true rfl) (by decide) (by decide) (fun B9 => ceX6_advance hl B9 hW h) (fun X9 τ9 h9 => VX_out rfl h9) ?_
    rintro v9 σ3 ⟨hW, rfl, h⟩
    refine V_aload_n 30 0 rfl rfl rfl ?_
    refine V_iload_n 31 1 rfl rfl rfl ?_
    refine V_callV 32 1 (as := [.int a0]) (rest := []) rfl mlX1_155 yvX1_readSum rfl rfl clX1 (wsh hW rfl) (by omega) (by show 8 + (4 + 11) + LO ≤ LO + 200; omega) (Nat.le_of_ble_eq_true rfl) (by decide) (by decide) (fun B9 => hF2 B9 hW h) (fun X9 τ9 h9 => VX_out rfl h9) ?_
    rintro v9 σ4 ⟨hW, u5, rfl, h⟩
    refine V_if_ne 33 (tgt := 67) rfl (by decide) (fun hc => ?_) (fun hc => ?_)
    · replace h := h.1 hc
      refine V_aload_n 36 0 rfl rfl rfl ?_
      obtain ⟨q6, eq6, hq6, h⟩ := h
      refine V_getR 37 1 rfl clX1 flX1_15 (by decide) (wsh hW rfl) (fun _ => rfl) eq6 ?_
      refine V_iload_n 38 2 rfl rfl rfl ?_
      refine V_bipush 39 (v := (60 : Int32)) rfl (by decide) ?_
      refine V_icmp_ne 40 (tgt := 82) rfl (by decide) (fun hc => ?_) (fun hc => ?_)
      · replace h := h.1 hc
        refine V_bipush 43 (v := (12 : Int32)) rfl (by decide) ?_
        refine V_sub [] (lv' := []) rfl ?_
        exact k_j84 (12 : Int32) q6 hq6 σ4 hW h
      · replace h := h.2 hc
        refine V_pc 77 rfl ?_
        refine V_bipush 41 (v := (11 : Int32)) rfl (by decide) ?_
        refine V_goto 42 (tgt := 84) rfl (by decide) ?_
        refine V_sub [] (lv' := []) rfl ?_
        exact k_j84 (11 : Int32) q6 hq6 σ4 hW h
    · replace h := h.2 hc
      refine V_pc 65 rfl ?_
      refine V_iconst 34 (v := (0 : Int32)) rfl (by decide) ?_
      exact V_zret 35 rfl rfl rfl ⟨hW, _, rfl, h⟩
  intro σ hW h
  refine V_aload_n 0 0 rfl rfl rfl ?_
  refine V_getR 1 0 rfl clX1 flX1_9 (by decide) (wsh hW rfl) (fun _ => rfl) (wrf hW 16 rfl) ?_
  refine V_get (v := .int (σ.2.1 3 6)) 2 6 rfl clX6 flX1_33 (by decide) (wsh hW rfl) (fun _ => rfl) ?_
  refine V_bipush 3 (v := (7 : Int32)) rfl (by decide) ?_
  refine V_icmp_ne 4 (tgt := 18) rfl (by decide) (fun hc => ?_) (fun hc => ?_)
  · replace h := h.1 hc
    refine V_aload_n 9 0 rfl rfl rfl ?_
    refine V_iload_n 10 1 rfl rfl rfl ?_
    refine V_callV 11 1 (as := [.int a0]) (rest := []) rfl mlX1_155 yvX1_readSum rfl rfl clX1 (wsh hW rfl) (by omega) (by show 8 + (4 + 11) + LO ≤ LO + 200; omega) (Nat.le_of_ble_eq_true rfl) (by decide) (by decide) (fun B9 => hF2 B9 hW h) (fun X9 τ9 h9 => VX_out rfl h9) ?_
    rintro v9 σ7 ⟨hW, u8, rfl, h⟩
    refine V_if_ne 12 (tgt := 28) rfl (by decide) (fun hc => ?_) (fun hc => ?_)
    · replace h := h.1 hc
      refine V_aload_n 15 0 rfl rfl rfl ?_
      refine V_getR 16 0 rfl clX1 flX1_9 (by decide) (wsh hW rfl) (fun _ => rfl) (wrf hW 16 rfl) ?_
      refine V_get (v := .int (σ7.2.1 3 6)) 17 6 rfl clX6 flX1_33 (by decide) (wsh hW rfl) (fun _ => rfl) ?_
      refine V_topi (fun v9 ev9 => ?_)
      replace h := h v9 ev9
      refine V_istore_n 18 (lv' := [(2, .int v9), (0, .ref 7), (1, .int a0)]) rfl rfl (by decide) rfl ?_
      refine V_iload_n 19 0 rfl rfl rfl ?_
      refine V_bipush 20 (v := (60 : Int32)) rfl (by decide) ?_
      refine V_pc 39 rfl ?_
      refine V_icmp_eq 21 (tgt := 50) rfl (by decide) (fun hc => ?_) (fun hc => ?_)
      · replace h := h.1 hc
        refine V_sub [1, 2, 0] (lv' := [(0, .ref 7), (1, .int a0), (2, .int v9)]) rfl ?_
        exact k_j50 v9 σ7 hW h
      · replace h := h.2 hc
        refine V_pc 42 rfl ?_
        refine V_iload_n 22 0 rfl rfl rfl ?_
        refine V_bipush 23 (v := (61 : Int32)) rfl (by decide) ?_
        refine V_icmp_eq 24 (tgt := 50) rfl (by decide) (fun hc => ?_) (fun hc => ?_)
        · replace h := h.1 hc
          refine V_sub [1, 2, 0] (lv' := [(0, .ref 7), (1, .int a0), (2, .int v9)]) rfl ?_
          exact k_j50 v9 σ7 hW h
        · replace h := h.2 hc
          refine V_pc 48 rfl ?_
          refine V_iconst 25 (v := (1 : Int32)) rfl (by decide) ?_
          exact V_zret 26 rfl rfl rfl ⟨hW, _, rfl, h⟩
    · replace h := h.2 hc
      refine V_pc 26 rfl ?_
      refine V_iconst 13 (v := (0 : Int32)) rfl (by decide) ?_
      exact V_zret 14 rfl rfl rfl ⟨hW, _, rfl, h⟩
  · replace h := h.2 hc
    refine V_pc 12 rfl ?_
    refine V_aload_n 5 0 rfl rfl rfl ?_
    refine V_iload_n 6 1 rfl rfl rfl ?_
    refine V_callV 7 1 (as := [.int a0]) (rest := []) rfl mlX1_152 yvX1_readChoice rfl rfl clX1 (wsh hW rfl) (by omega) (by show 8 + (4 + 11) + LO ≤ LO + 200; omega) (Nat.le_of_ble_eq_true rfl) (by decide) (by decide) (fun B9 => hF1 B9 hW h) (fun X9 τ9 h9 => VX_out rfl h9) ?_
    rintro v9 σ10 ⟨hW, u11, rfl, h⟩
    exact V_zret 8 rfl rfl (nb1 h.1) ⟨hW, _, rfl, h.2⟩

def wX1_readChoice (F : Nat → Int32 → (Int32 → ab_S → Prop) → (String → ab_S → Prop) → ab_S → Prop) (a0 : Int32) (Q : Int32 → ab_S → Prop) (E : String → ab_S → Prop) (σ : ab_S) : Prop := ((a0 < (10 : Int32)) → wX6_advance (fun σ1 => F 0 (a0 + (1 : Int32)) (fun u3 σ2 => ((u3 = 0) → Q (0 : Int32) σ2) ∧ (¬ (u3 = 0) → wX6_take (8 : Int32) (fun u5 σ4 => ((¬ u5 = 0) → ∃ q6, σ4.2.2.2 7 1 = some q6 ∧ isG q6 ∧ (wX0_emit q6 (13 : Int32) (0 : Int32) (fun u8 σ7 => F 0 (a0 + (1 : Int32)) (fun u10 σ9 => ((u10 = 0) → Q (0 : Int32) σ9) ∧ (¬ (u10 = 0) → wX6_take (9 : Int32) (fun u12 σ11 => ((¬ u12 = 0) → ∃ q13, σ11.2.2.2 7 1 = some q13 ∧ isG q13 ∧ (wX0_emit q13 (14 : Int32) (0 : Int32) (fun u15 σ14 => ∃ q16, σ14.2.2.2 7 1 = some q16 ∧ isG q16 ∧ (∃ q17, σ14.2.2.2 7 1 = some q17 ∧ isG q17 ∧ (vp_in u8 2400 ∧ (∀ σ18 : ab_S, σ18 = ab_I σ14 (q16 + 14) u8.toNatClampNeg (σ14.2.1 q17 14) → F 0 (a0 + (1 : Int32)) (fun u20 σ19 => ((¬ u20 = 0) → ∃ q21, σ19.2.2.2 7 1 = some q21 ∧ isG q21 ∧ (∃ q22, σ19.2.2.2 7 1 = some q22 ∧ isG q22 ∧ (vp_in u15 2400 ∧ (∀ σ23 : ab_S, σ23 = ab_I σ19 (q21 + 14) u15.toNatClampNeg (σ19.2.1 q22 14) → Q (1 : Int32) σ23)))) ∧ (¬ (¬ u20 = 0) → Q (0 : Int32) σ19)) E σ18)))) E σ11)) ∧ (¬ (¬ u12 = 0) → Q (0 : Int32) σ11)) E σ9)) E σ7) E σ4)) ∧ (¬ (¬ u5 = 0) → Q (0 : Int32) σ4)) E σ2)) E σ1) E σ) ∧ (¬ (a0 < (10 : Int32)) → Q (0 : Int32) σ)
set_option maxHeartbeats 4000000 in
set_option maxRecDepth 100000 in
theorem ceX1_readChoice {l : Launch} (hl : l.stackTraces = false) (B : Nat) {F : Nat → Int32 → (Int32 → ab_S → Prop) → (String → ab_S → Prop) → ab_S → Prop} {a0 : Int32} {FR LO : Nat} (hF0 : ∀ (B : Nat) {a0 : Int32} {Q : Int32 → ab_S → Prop} {E : String → ab_S → Prop} {σ : ab_S}, Wire σ → F 0 a0 Q E σ → ab_Mt l yX1_readExpression mdX1_readExpression B FR LO 0 0 [.ref 7, .int a0] σ (fun v σ' => Wire σ' ∧ ∃ r : Int32, v = some (.int r) ∧ Q r σ') (fun X σ' => Wire σ' ∧ E X σ'))  {Q : Int32 → ab_S → Prop} {E : String → ab_S → Prop} {σ : ab_S} (hW : Wire σ) (h : wX1_readChoice F a0 Q E σ) : ab_Mt l yX1_readChoice mdX1_readChoice B (FR + 10) (LO + 200) 0 0 [.ref 7, .int a0] σ (fun v σ' => Wire σ' ∧ ∃ r : Int32, v = some (.int r) ∧ Q r σ') (fun X σ' => Wire σ' ∧ E X σ') := by
  refine V_met hl ⟨rfl, rfl, by decide⟩ rfl dkX1_readChoice (Nat.le_of_ble_eq_true rfl) ?_
  show V l mdX1_readChoice B (FR + 10) (LO + 200) 0 0 (ab_End _ _) 0 [(0, .ref 7), (1, .int a0)] [] σ
  refine V_iload_n 0 1 rfl rfl rfl ?_
  refine V_bipush 1 (v := (10 : Int32)) rfl (by decide) ?_
  refine V_icmp_lt 2 (tgt := 8) rfl (by decide) (fun hc => ?_) (fun hc => ?_)
  · replace h := h.1 hc
    refine V_aload_n 5 0 rfl rfl rfl ?_
    refine V_getR 6 0 rfl clX1 flX1_9 (by decide) (wsh hW rfl) (fun _ => rfl) (wrf hW 16 rfl) ?_
    refine V_callV 7 0 (as := []) (rest := []) rfl mlX1_62 yvX6_advance rfl rfl clX6 (wsh hW rfl) (by omega) (by show 8 + (1 + 11) + 0 ≤ LO + 200; omega) (Nat.le_of_ble_eq_true rfl) (by decide) (by decide) (fun B9 => ceX6_advance hl B9 hW h) (fun X9 τ9 h9 => VX_out rfl h9) ?_
    rintro v9 σ1 ⟨hW, rfl, h⟩
    refine V_aload_n 8 0 rfl rfl rfl ?_
    refine V_iload_n 9 1 rfl rfl rfl ?_
    refine V_iconst 10 (v := (1 : Int32)) rfl (by decide) ?_
    refine V_iadd 11 rfl ?_
    refine V_callV 12 1 (as := [.int (a0 + (1 : Int32))]) (rest := []) rfl mlX1_132 yvX1_readExpression rfl rfl clX1 (wsh hW rfl) (by omega) (by show 8 + (3 + 11) + LO ≤ LO + 200; omega) (Nat.le_of_ble_eq_true rfl) (by decide) (by decide) (fun B9 => hF0 B9 hW h) (fun X9 τ9 h9 => VX_out rfl h9) ?_
    rintro v9 σ2 ⟨hW, u3, rfl, h⟩
    refine V_if_eq 13 (tgt := 37) rfl (by decide) (fun hc => ?_) (fun hc => ?_)
    · replace h := h.1 hc
      refine V_iconst 19 (v := (0 : Int32)) rfl (by decide) ?_
      exact V_zret 20 rfl rfl rfl ⟨hW, _, rfl, h⟩
    · replace h := h.2 hc
      refine V_pc 25 rfl ?_
      refine V_aload_n 14 0 rfl rfl rfl ?_
      refine V_getR 15 0 rfl clX1 flX1_9 (by decide) (wsh hW rfl) (fun _ => rfl) (wrf hW 16 rfl) ?_
      refine V_bipush 16 (v := (8 : Int32)) rfl (by decide) ?_
      refine V_callV 17 1 (as := [.int (8 : Int32)]) (rest := []) rfl mlX1_43 yvX6_take rfl rfl clX6 (wsh hW rfl) (by omega) (by show 8 + (2 + 11) + 20 ≤ LO + 200; omega) (Nat.le_of_ble_eq_true rfl) (by decide) (by decide) (fun B9 => ceX6_take hl B9 hW h) (fun X9 τ9 h9 => VX_out rfl h9) ?_
      rintro v9 σ4 ⟨hW, u5, rfl, h⟩
      refine V_if_ne 18 (tgt := 39) rfl (by decide) (fun hc => ?_) (fun hc => ?_)
      · replace h := h.1 hc
        refine V_aload_n 21 0 rfl rfl rfl ?_
        obtain ⟨q6, eq6, hq6, h⟩ := h
        refine V_getR 22 1 rfl clX1 flX1_15 (by decide) (wsh hW rfl) (fun _ => rfl) eq6 ?_
        refine V_bipush 23 (v := (13 : Int32)) rfl (by decide) ?_
        refine V_iconst 24 (v := (0 : Int32)) rfl (by decide) ?_
        refine V_callV 25 2 (as := [.int (13 : Int32), .int (0 : Int32)]) (rest := []) rfl mlX1_158 yvX0_emit rfl rfl clX0 (wG hW hq6) (by omega) (by show 8 + (3 + 11) + 0 ≤ LO + 200; omega) (Nat.le_of_ble_eq_true rfl) (by decide) (by decide) (fun B9 => ceX0_emit hl B9 hq6 hW h) (fun X9 τ9 h9 => VX_out rfl h9) ?_
        rintro v9 σ7 ⟨hW, u8, rfl, h⟩
        refine V_istore_n 26 (lv' := [(2, .int u8), (0, .ref 7), (1, .int a0)]) rfl rfl (by decide) rfl ?_
        refine V_aload_n 27 1 rfl rfl rfl ?_
        refine V_iload_n 28 2 rfl rfl rfl ?_
        refine V_iconst 29 (v := (1 : Int32)) rfl (by decide) ?_
        refine V_iadd 30 rfl ?_
        refine V_pc 54 rfl ?_
        refine V_callV 31 1 (as := [.int (a0 + (1 : Int32))]) (rest := []) rfl mlX1_132 yvX1_readExpression rfl rfl clX1 (wsh hW rfl) (by omega) (by show 8 + (3 + 11) + LO ≤ LO + 200; omega) (Nat.le_of_ble_eq_true rfl) (by decide) (by decide) (fun B9 => hF0 B9 hW h) (fun X9 τ9 h9 => VX_out rfl h9) ?_
        rintro v9 σ9 ⟨hW, u10, rfl, h⟩
        refine V_if_eq 32 (tgt := 72) rfl (by decide) (fun hc => ?_) (fun hc => ?_)
        · replace h := h.1 hc
          refine V_iconst 38 (v := (0 : Int32)) rfl (by decide) ?_
          exact V_zret 39 rfl rfl rfl ⟨hW, _, rfl, h⟩
        · replace h := h.2 hc
          refine V_pc 60 rfl ?_
          refine V_aload_n 33 1 rfl rfl rfl ?_
          refine V_getR 34 0 rfl clX1 flX1_9 (by decide) (wsh hW rfl) (fun _ => rfl) (wrf hW 16 rfl) ?_
          refine V_bipush 35 (v := (9 : Int32)) rfl (by decide) ?_
          refine V_callV 36 1 (as := [.int (9 : Int32)]) (rest := []) rfl mlX1_43 yvX6_take rfl rfl clX6 (wsh hW rfl) (by omega) (by show 8 + (2 + 11) + 20 ≤ LO + 200; omega) (Nat.le_of_ble_eq_true rfl) (by decide) (by decide) (fun B9 => ceX6_take hl B9 hW h) (fun X9 τ9 h9 => VX_out rfl h9) ?_
          rintro v9 σ11 ⟨hW, u12, rfl, h⟩
          refine V_if_ne 37 (tgt := 74) rfl (by decide) (fun hc => ?_) (fun hc => ?_)
          · replace h := h.1 hc
            refine V_aload_n 40 1 rfl rfl rfl ?_
            obtain ⟨q13, eq13, hq13, h⟩ := h
            refine V_getR 41 1 rfl clX1 flX1_15 (by decide) (wsh hW rfl) (fun _ => rfl) eq13 ?_
            refine V_bipush 42 (v := (14 : Int32)) rfl (by decide) ?_
            refine V_iconst 43 (v := (0 : Int32)) rfl (by decide) ?_
            refine V_callV 44 2 (as := [.int (14 : Int32), .int (0 : Int32)]) (rest := []) rfl mlX1_158 yvX0_emit rfl rfl clX0 (wG hW hq13) (by omega) (by show 8 + (3 + 11) + 0 ≤ LO + 200; omega) (Nat.le_of_ble_eq_true rfl) (by decide) (by decide) (fun B9 => ceX0_emit hl B9 hq13 hW h) (fun X9 τ9 h9 => VX_out rfl h9) ?_
            rintro v9 σ14 ⟨hW, u15, rfl, h⟩
            refine V_istore_n 45 (lv' := [(3, .int u15), (2, .int u8), (0, .ref 7), (1, .int a0)]) rfl rfl (by decide) rfl ?_
            refine V_aload_n 46 2 rfl rfl rfl ?_
            obtain ⟨q16, eq16, hq16, h⟩ := h
            refine V_getR 47 1 rfl clX1 flX1_15 (by decide) (wsh hW rfl) (fun _ => rfl) eq16 ?_
            refine V_getR 48 16 rfl clX0 flX1_161 (by decide) (wG hW hq16) (fun _ => rfl) (wG_f16 hW hq16) ?_
            refine V_iload_n 49 1 rfl rfl rfl ?_
            refine V_pc 93 rfl ?_
            refine V_aload_n 50 2 rfl rfl rfl ?_
            obtain ⟨q17, eq17, hq17, h⟩ := h
            refine V_getR 51 1 rfl clX1 flX1_15 (by decide) (wsh hW rfl) (fun _ => rfl) eq17 ?_
            refine V_get (v := .int (σ14.2.1 q17 14)) 52 14 rfl clX0 flX1_126 (by decide) (wG hW hq17) (fun _ => rfl) ?_
            obtain ⟨hin, h⟩ := h
            refine V_iast 53 rfl (wG_a14 hW hq16) hin ?_
            refine V_nm (fun σ18 eσ18 => ?_)
            replace h := h σ18 eσ18
            have hW := wire_I eσ18 hW
            refine V_aload_n 54 2 rfl rfl rfl ?_
            refine V_iload_n 55 3 rfl rfl rfl ?_
            refine V_pc 103 rfl ?_
            refine V_iconst 56 (v := (1 : Int32)) rfl (by decide) ?_
            refine V_iadd 57 rfl ?_
            refine V_callV 58 1 (as := [.int (a0 + (1 : Int32))]) (rest := []) rfl mlX1_132 yvX1_readExpression rfl rfl clX1 (wsh hW rfl) (by omega) (by show 8 + (3 + 11) + LO ≤ LO + 200; omega) (Nat.le_of_ble_eq_true rfl) (by decide) (by decide) (fun B9 => hF0 B9 hW h) (fun X9 τ9 h9 => VX_out rfl h9) ?_
            rintro v9 σ19 ⟨hW, u20, rfl, h⟩
            refine V_if_ne 59 (tgt := 113) rfl (by decide) (fun hc => ?_) (fun hc => ?_)
            · replace h := h.1 hc
              refine V_aload_n 62 2 rfl rfl rfl ?_
              obtain ⟨q21, eq21, hq21, h⟩ := h
              refine V_getR 63 1 rfl clX1 flX1_15 (by decide) (wsh hW rfl) (fun _ => rfl) eq21 ?_
              refine V_getR 64 16 rfl clX0 flX1_161 (by decide) (wG hW hq21) (fun _ => rfl) (wG_f16 hW hq21) ?_
              refine V_iload_n 65 0 rfl rfl rfl ?_
              refine V_aload_n 66 2 rfl rfl rfl ?_
              obtain ⟨q22, eq22, hq22, h⟩ := h
              refine V_getR 67 1 rfl clX1 flX1_15 (by decide) (wsh hW rfl) (fun _ => rfl) eq22 ?_
              refine V_pc 125 rfl ?_
              refine V_get (v := .int (σ19.2.1 q22 14)) 68 14 rfl clX0 flX1_126 (by decide) (wG hW hq22) (fun _ => rfl) ?_
              obtain ⟨hin, h⟩ := h
              refine V_iast 69 rfl (wG_a14 hW hq21) hin ?_
              refine V_nm (fun σ23 eσ23 => ?_)
              replace h := h σ23 eσ23
              have hW := wire_I eσ23 hW
              refine V_iconst 70 (v := (1 : Int32)) rfl (by decide) ?_
              exact V_zret 71 rfl rfl rfl ⟨hW, _, rfl, h⟩
            · replace h := h.2 hc
              refine V_pc 111 rfl ?_
              refine V_iconst 60 (v := (0 : Int32)) rfl (by decide) ?_
              exact V_zret 61 rfl rfl rfl ⟨hW, _, rfl, h⟩
          · replace h := h.2 hc
            refine V_pc 72 rfl ?_
            refine V_iconst 38 (v := (0 : Int32)) rfl (by decide) ?_
            exact V_zret 39 rfl rfl rfl ⟨hW, _, rfl, h⟩
      · replace h := h.2 hc
        refine V_pc 37 rfl ?_
        refine V_iconst 19 (v := (0 : Int32)) rfl (by decide) ?_
        exact V_zret 20 rfl rfl rfl ⟨hW, _, rfl, h⟩
  · replace h := h.2 hc
    refine V_pc 6 rfl ?_
    refine V_iconst 3 (v := (0 : Int32)) rfl (by decide) ?_
    exact V_zret 4 rfl rfl rfl ⟨hW, _, rfl, h⟩

def wX1_readSum_j85 (F : Nat → Int32 → (Int32 → ab_S → Prop) → (String → ab_S → Prop) → ab_S → Prop) (a0 : Int32) (Q : Int32 → ab_S → Prop) (E : String → ab_S → Prop) (Bk : Int32 → ab_S → Prop) (x2 : Int32) (y0 : Int32) (s1 : Nat) (σ : ab_S) : Prop := wX0_emit s1 y0 (0 : Int32) (fun u2 σ1 => ∀ v3 : Int32, v3 = (x2 + 1) → Bk v3 σ1) E σ
def wX1_readSum_j43 (F : Nat → Int32 → (Int32 → ab_S → Prop) → (String → ab_S → Prop) → ab_S → Prop) (a0 : Int32) (Q : Int32 → ab_S → Prop) (E : String → ab_S → Prop) (Bk : Int32 → ab_S → Prop) (x2 : Int32) (σ : ab_S) : Prop := ∀ v4 : Int32, v4 = (σ.2.1 3 6) → wX6_advance (fun σ5 => F 3 a0 (fun u7 σ6 => ((¬ u7 = 0) → ∃ q8, σ6.2.2.2 7 1 = some q8 ∧ isG q8 ∧ (((¬ v4 = (43 : Int32)) → wX1_readSum_j85 F a0 Q E Bk x2 (8 : Int32) q8 σ6) ∧ (¬ (¬ v4 = (43 : Int32)) → wX1_readSum_j85 F a0 Q E Bk x2 (7 : Int32) q8 σ6))) ∧ (¬ (¬ u7 = 0) → Q (0 : Int32) σ6)) E σ5) E σ
def wX1_readSum_l12_b (F : Nat → Int32 → (Int32 → ab_S → Prop) → (String → ab_S → Prop) → ab_S → Prop) (a0 : Int32) (Q : Int32 → ab_S → Prop) (E : String → ab_S → Prop) (Bk : Int32 → ab_S → Prop) (x2 : Int32) (σ : ab_S) : Prop := (((2400 : Int32) ≤ x2) → Q (1 : Int32) σ) ∧ (¬ ((2400 : Int32) ≤ x2) → (((σ.2.1 3 6) = (43 : Int32)) → wX1_readSum_j43 F a0 Q E Bk x2 σ) ∧ (¬ ((σ.2.1 3 6) = (43 : Int32)) → ((¬ (σ.2.1 3 6) = (45 : Int32)) → Q (1 : Int32) σ) ∧ (¬ (¬ (σ.2.1 3 6) = (45 : Int32)) → wX1_readSum_j43 F a0 Q E Bk x2 σ)))
def wX1_readSum_l12 (F : Nat → Int32 → (Int32 → ab_S → Prop) → (String → ab_S → Prop) → ab_S → Prop) (a0 : Int32) (Q : Int32 → ab_S → Prop) (E : String → ab_S → Prop) : Nat → Int32 → ab_S → Prop
  | 0, _, _ => False
  | n + 1, x2, σ => wX1_readSum_l12_b F a0 Q E (wX1_readSum_l12 F a0 Q E n) x2 σ
def wX1_readSum (F : Nat → Int32 → (Int32 → ab_S → Prop) → (String → ab_S → Prop) → ab_S → Prop) (a0 : Int32) (Q : Int32 → ab_S → Prop) (E : String → ab_S → Prop) (σ : ab_S) : Prop := F 3 a0 (fun u10 σ9 => ((¬ u10 = 0) → ∃ n, wX1_readSum_l12 F a0 Q E n (0 : Int32) σ9) ∧ (¬ (¬ u10 = 0) → Q (0 : Int32) σ9)) E σ
set_option maxHeartbeats 4000000 in
set_option maxRecDepth 100000 in
theorem ceX1_readSum {l : Launch} (hl : l.stackTraces = false) (B : Nat) {F : Nat → Int32 → (Int32 → ab_S → Prop) → (String → ab_S → Prop) → ab_S → Prop} {a0 : Int32} {FR LO : Nat} (hF3 : ∀ (B : Nat) {a0 : Int32} {Q : Int32 → ab_S → Prop} {E : String → ab_S → Prop} {σ : ab_S}, Wire σ → F 3 a0 Q E σ → ab_Mt l yX1_readProduct mdX1_readProduct B FR LO 0 0 [.ref 7, .int a0] σ (fun v σ' => Wire σ' ∧ ∃ r : Int32, v = some (.int r) ∧ Q r σ') (fun X σ' => Wire σ' ∧ E X σ'))  {Q : Int32 → ab_S → Prop} {E : String → ab_S → Prop} {σ : ab_S} (hW : Wire σ) (h : wX1_readSum F a0 Q E σ) : ab_Mt l yX1_readSum mdX1_readSum B (FR + 10) (LO + 200) 0 0 [.ref 7, .int a0] σ (fun v σ' => Wire σ' ∧ ∃ r : Int32, v = some (.int r) ∧ Q r σ') (fun X σ' => Wire σ' ∧ E X σ') := by
  refine V_met hl ⟨rfl, rfl, by decide⟩ rfl dkX1_readSum (Nat.le_of_ble_eq_true rfl) ?_
  show V l mdX1_readSum B (FR + 10) (LO + 200) 0 0 (ab_End _ _) 0 [(0, .ref 7), (1, .int a0)] [] σ
  revert h hW
  revert σ
  have k_l12 : ∀ (n : Nat) (x2 : Int32)  (σ : ab_S), Wire σ → wX1_readSum_l12 F a0 Q E n x2 σ → V l mdX1_readSum B (FR + 10) (LO + 200) 0 0 (ab_End (fun v σ' => Wire σ' ∧ ∃ r : Int32, v = some (.int r) ∧ Q r σ') (fun X σ' => Wire σ' ∧ E X σ')) 12 [(0, .ref 7), (1, .int a0), (2, .int x2)] [] σ := by
    have step : ∀ (Bk : Int32 → ab_S → Prop) (k_Bk : ∀ (x2 : Int32)  (σ : ab_S), Wire σ → Bk x2 σ → V l mdX1_readSum B (FR + 10) (LO + 200) 0 0 (ab_End (fun v σ' => Wire σ' ∧ ∃ r : Int32, v = some (.int r) ∧ Q r σ') (fun X σ' => Wire σ' ∧ E X σ')) 12 [(0, .ref 7), (1, .int a0), (2, .int x2)] [] σ), ∀ (x2 : Int32)  (σ : ab_S), Wire σ → wX1_readSum_l12_b F a0 Q E Bk x2 σ → V l mdX1_readSum B (FR + 10) (LO + 200) 0 0 (ab_End (fun v σ' => Wire σ' ∧ ∃ r : Int32, v = some (.int r) ∧ Q r σ') (fun X σ' => Wire σ' ∧ E X σ')) 12 [(0, .ref 7), (1, .int a0), (2, .int x2)] [] σ := by
      intro Bk k_Bk
      have k_j85 : ∀ (x2 : Int32) (y0 : Int32) (s1 : Nat) (hs1 : isG s1) (σ : ab_S), Wire σ → wX1_readSum_j85 F a0 Q E Bk x2 y0 s1 σ → V l mdX1_readSum B (FR + 10) (LO + 200) 0 0 (ab_End (fun v σ' => Wire σ' ∧ ∃ r : Int32, v = some (.int r) ∧ Q r σ') (fun X σ' => Wire σ' ∧ E X σ')) 85 [(0, .ref 7), (1, .int a0), (2, .int x2)] [.int y0, .ref s1] σ := by
        intro x2 y0 s1 hs1 σ hW h
        refine V_iconst 42 (v := (0 : Int32)) rfl (by decide) ?_
        refine V_callV 43 2 (as := [.int y0, .int (0 : Int32)]) (rest := []) rfl mlX1_158 yvX0_emit rfl rfl clX0 (wG hW hs1) (by omega) (by show 8 + (3 + 11) + 0 ≤ LO + 200; omega) (Nat.le_of_ble_eq_true rfl) (by decide) (by decide) (fun B9 => ceX0_emit hl B9 hs1 hW h) (fun X9 τ9 h9 => VX_out rfl h9) ?_
        rintro v9 σ1 ⟨hW, u2, rfl, h⟩
        refine V_pop 44 rfl rfl ?_
        obtain ⟨v3, ev3⟩ : ∃ z : Int32, z = (x2 + 1) := ⟨_, rfl⟩
        replace h := h v3 ev3
        refine V_iinc 45 2 (v := v3) (lv' := [(2, .int v3), (0, .ref 7), (1, .int a0)]) rfl rfl ((in_1 _).trans ev3.symm) (by decide) rfl ?_
        refine V_goto 46 (tgt := 12) rfl (by decide) ?_
        refine V_sub [1, 2, 0] (lv' := [(0, .ref 7), (1, .int a0), (2, .int v3)]) rfl ?_
        exact k_Bk v3  σ1 hW h
      have k_j43 : ∀ (x2 : Int32)  (σ : ab_S), Wire σ → wX1_readSum_j43 F a0 Q E Bk x2 σ → V l mdX1_readSum B (FR + 10) (LO + 200) 0 0 (ab_End (fun v σ' => Wire σ' ∧ ∃ r : Int32, v = some (.int r) ∧ Q r σ') (fun X σ' => Wire σ' ∧ E X σ')) 43 [(0, .ref 7), (1, .int a0), (2, .int x2)] [] σ := by
        intro x2  σ hW h
        refine V_aload_n 21 0 rfl rfl rfl ?_
        refine V_getR 22 0 rfl clX1 flX1_9 (by decide) (wsh hW rfl) (fun _ => rfl) (wrf hW 16 rfl) ?_
        refine V_get (v := .int (σ.2.1 3 6)) 23 6 rfl clX6 flX1_33 (by decide) (wsh hW rfl) (fun _ => rfl) ?_
        refine V_topi (fun v4 ev4 => ?_)
        replace h := h v4 ev4
        refine V_istore_n 24 (lv' := [(3, .int v4), (0, .ref 7), (1, .int a0), (2, .int x2)]) rfl rfl (by decide) rfl ?_
        refine V_aload_n 25 1 rfl rfl rfl ?_
        refine V_getR 26 0 rfl clX1 flX1_9 (by decide) (wsh hW rfl) (fun _ => rfl) (wrf hW 16 rfl) ?_
        refine V_pc 55 rfl ?_
        refine V_callV 27 0 (as := []) (rest := []) rfl mlX1_62 yvX6_advance rfl rfl clX6 (wsh hW rfl) (by omega) (by show 8 + (1 + 11) + 0 ≤ LO + 200; omega) (Nat.le_of_ble_eq_true rfl) (by decide) (by decide) (fun B9 => ceX6_advance hl B9 hW h) (fun X9 τ9 h9 => VX_out rfl h9) ?_
        rintro v9 σ5 ⟨hW, rfl, h⟩
        refine V_aload_n 28 1 rfl rfl rfl ?_
        refine V_iload_n 29 2 rfl rfl rfl ?_
        refine V_callV 30 1 (as := [.int a0]) (rest := []) rfl mlX1_164 yvX1_readProduct rfl rfl clX1 (wsh hW rfl) (by omega) (by show 8 + (4 + 11) + LO ≤ LO + 200; omega) (Nat.le_of_ble_eq_true rfl) (by decide) (by decide) (fun B9 => hF3 B9 hW h) (fun X9 τ9 h9 => VX_out rfl h9) ?_
        rintro v9 σ6 ⟨hW, u7, rfl, h⟩
        refine V_if_ne 31 (tgt := 68) rfl (by decide) (fun hc => ?_) (fun hc => ?_)
        · replace h := h.1 hc
          refine V_aload_n 34 1 rfl rfl rfl ?_
          obtain ⟨q8, eq8, hq8, h⟩ := h
          refine V_getR 35 1 rfl clX1 flX1_15 (by decide) (wsh hW rfl) (fun _ => rfl) eq8 ?_
          refine V_iload_n 36 0 rfl rfl rfl ?_
          refine V_bipush 37 (v := (43 : Int32)) rfl (by decide) ?_
          refine V_icmp_ne 38 (tgt := 83) rfl (by decide) (fun hc => ?_) (fun hc => ?_)
          · replace h := h.1 hc
            refine V_bipush 41 (v := (8 : Int32)) rfl (by decide) ?_
            refine V_sub [1, 2, 3] (lv' := [(0, .ref 7), (1, .int a0), (2, .int x2)]) rfl ?_
            exact k_j85 x2 (8 : Int32) q8 hq8 σ6 hW h
          · replace h := h.2 hc
            refine V_pc 78 rfl ?_
            refine V_bipush 39 (v := (7 : Int32)) rfl (by decide) ?_
            refine V_goto 40 (tgt := 85) rfl (by decide) ?_
            refine V_sub [1, 2, 3] (lv' := [(0, .ref 7), (1, .int a0), (2, .int x2)]) rfl ?_
            exact k_j85 x2 (7 : Int32) q8 hq8 σ6 hW h
        · replace h := h.2 hc
          refine V_pc 66 rfl ?_
          refine V_iconst 32 (v := (0 : Int32)) rfl (by decide) ?_
          exact V_zret 33 rfl rfl rfl ⟨hW, _, rfl, h⟩
      intro x2  σ hW h
      refine V_iload_n 8 2 rfl rfl rfl ?_
      refine V_sipush 9 (v := (2400 : Int32)) rfl (by decide) ?_
      refine V_icmp_ge 10 (tgt := 96) rfl (by decide) (fun hc => ?_) (fun hc => ?_)
      · replace h := h.1 hc
        refine V_iconst 47 (v := (1 : Int32)) rfl (by decide) ?_
        exact V_zret 48 rfl rfl rfl ⟨hW, _, rfl, h⟩
      · replace h := h.2 hc
        refine V_pc 19 rfl ?_
        refine V_aload_n 11 0 rfl rfl rfl ?_
        refine V_getR 12 0 rfl clX1 flX1_9 (by decide) (wsh hW rfl) (fun _ => rfl) (wrf hW 16 rfl) ?_
        refine V_get (v := .int (σ.2.1 3 6)) 13 6 rfl clX6 flX1_33 (by decide) (wsh hW rfl) (fun _ => rfl) ?_
        refine V_bipush 14 (v := (43 : Int32)) rfl (by decide) ?_
        refine V_icmp_eq 15 (tgt := 43) rfl (by decide) (fun hc => ?_) (fun hc => ?_)
        · replace h := h.1 hc
          exact k_j43 x2 σ hW h
        · replace h := h.2 hc
          refine V_pc 31 rfl ?_
          refine V_aload_n 16 0 rfl rfl rfl ?_
          refine V_getR 17 0 rfl clX1 flX1_9 (by decide) (wsh hW rfl) (fun _ => rfl) (wrf hW 16 rfl) ?_
          refine V_get (v := .int (σ.2.1 3 6)) 18 6 rfl clX6 flX1_33 (by decide) (wsh hW rfl) (fun _ => rfl) ?_
          refine V_bipush 19 (v := (45 : Int32)) rfl (by decide) ?_
          refine V_icmp_ne 20 (tgt := 96) rfl (by decide) (fun hc => ?_) (fun hc => ?_)
          · replace h := h.1 hc
            refine V_iconst 47 (v := (1 : Int32)) rfl (by decide) ?_
            exact V_zret 48 rfl rfl rfl ⟨hW, _, rfl, h⟩
          · replace h := h.2 hc
            refine V_pc 43 rfl ?_
            exact k_j43 x2 σ hW h
    intro n
    induction n with
    | zero => intro x2  σ hW h; exact absurd h id
    | succ n ih => exact step  _ ih
  intro σ hW h
  refine V_aload_n 0 0 rfl rfl rfl ?_
  refine V_iload_n 1 1 rfl rfl rfl ?_
  refine V_callV 2 1 (as := [.int a0]) (rest := []) rfl mlX1_164 yvX1_readProduct rfl rfl clX1 (wsh hW rfl) (by omega) (by show 8 + (4 + 11) + LO ≤ LO + 200; omega) (Nat.le_of_ble_eq_true rfl) (by decide) (by decide) (fun B9 => hF3 B9 hW h) (fun X9 τ9 h9 => VX_out rfl h9) ?_
  rintro v9 σ9 ⟨hW, u10, rfl, h⟩
  refine V_if_ne 3 (tgt := 10) rfl (by decide) (fun hc => ?_) (fun hc => ?_)
  · replace h := h.1 hc
    refine V_iconst 6 (v := (0 : Int32)) rfl (by decide) ?_
    refine V_istore_n 7 (lv' := [(2, .int (0 : Int32)), (0, .ref 7), (1, .int a0)]) rfl rfl (by decide) rfl ?_
    refine V_sub [1, 2, 0] (lv' := [(0, .ref 7), (1, .int a0), (2, .int (0 : Int32))]) rfl ?_
    obtain ⟨n, h⟩ := h
    exact k_l12 n (0 : Int32) σ9 hW h
  · replace h := h.2 hc
    refine V_pc 8 rfl ?_
    refine V_iconst 4 (v := (0 : Int32)) rfl (by decide) ?_
    exact V_zret 5 rfl rfl rfl ⟨hW, _, rfl, h⟩

def wX1_readProduct_j85 (F : Nat → Int32 → (Int32 → ab_S → Prop) → (String → ab_S → Prop) → ab_S → Prop) (a0 : Int32) (Q : Int32 → ab_S → Prop) (E : String → ab_S → Prop) (Bk : Int32 → ab_S → Prop) (x2 : Int32) (y0 : Int32) (s1 : Nat) (σ : ab_S) : Prop := wX0_emit s1 y0 (0 : Int32) (fun u2 σ1 => ∀ v3 : Int32, v3 = (x2 + 1) → Bk v3 σ1) E σ
def wX1_readProduct_j43 (F : Nat → Int32 → (Int32 → ab_S → Prop) → (String → ab_S → Prop) → ab_S → Prop) (a0 : Int32) (Q : Int32 → ab_S → Prop) (E : String → ab_S → Prop) (Bk : Int32 → ab_S → Prop) (x2 : Int32) (σ : ab_S) : Prop := ∀ v4 : Int32, v4 = (σ.2.1 3 6) → wX6_advance (fun σ5 => F 4 a0 (fun u7 σ6 => ((¬ u7 = 0) → ∃ q8, σ6.2.2.2 7 1 = some q8 ∧ isG q8 ∧ (((¬ v4 = (42 : Int32)) → wX1_readProduct_j85 F a0 Q E Bk x2 (10 : Int32) q8 σ6) ∧ (¬ (¬ v4 = (42 : Int32)) → wX1_readProduct_j85 F a0 Q E Bk x2 (9 : Int32) q8 σ6))) ∧ (¬ (¬ u7 = 0) → Q (0 : Int32) σ6)) E σ5) E σ
def wX1_readProduct_l12_b (F : Nat → Int32 → (Int32 → ab_S → Prop) → (String → ab_S → Prop) → ab_S → Prop) (a0 : Int32) (Q : Int32 → ab_S → Prop) (E : String → ab_S → Prop) (Bk : Int32 → ab_S → Prop) (x2 : Int32) (σ : ab_S) : Prop := (((2400 : Int32) ≤ x2) → Q (1 : Int32) σ) ∧ (¬ ((2400 : Int32) ≤ x2) → (((σ.2.1 3 6) = (42 : Int32)) → wX1_readProduct_j43 F a0 Q E Bk x2 σ) ∧ (¬ ((σ.2.1 3 6) = (42 : Int32)) → ((¬ (σ.2.1 3 6) = (47 : Int32)) → Q (1 : Int32) σ) ∧ (¬ (¬ (σ.2.1 3 6) = (47 : Int32)) → wX1_readProduct_j43 F a0 Q E Bk x2 σ)))
def wX1_readProduct_l12 (F : Nat → Int32 → (Int32 → ab_S → Prop) → (String → ab_S → Prop) → ab_S → Prop) (a0 : Int32) (Q : Int32 → ab_S → Prop) (E : String → ab_S → Prop) : Nat → Int32 → ab_S → Prop
  | 0, _, _ => False
  | n + 1, x2, σ => wX1_readProduct_l12_b F a0 Q E (wX1_readProduct_l12 F a0 Q E n) x2 σ
def wX1_readProduct (F : Nat → Int32 → (Int32 → ab_S → Prop) → (String → ab_S → Prop) → ab_S → Prop) (a0 : Int32) (Q : Int32 → ab_S → Prop) (E : String → ab_S → Prop) (σ : ab_S) : Prop := F 4 a0 (fun u10 σ9 => ((¬ u10 = 0) → ∃ n, wX1_readProduct_l12 F a0 Q E n (0 : Int32) σ9) ∧ (¬ (¬ u10 = 0) → Q (0 : Int32) σ9)) E σ
set_option maxHeartbeats 4000000 in
set_option maxRecDepth 100000 in
theorem ceX1_readProduct {l : Launch} (hl : l.stackTraces = false) (B : Nat) {F : Nat → Int32 → (Int32 → ab_S → Prop) → (String → ab_S → Prop) → ab_S → Prop} {a0 : Int32} {FR LO : Nat} (hF4 : ∀ (B : Nat) {a0 : Int32} {Q : Int32 → ab_S → Prop} {E : String → ab_S → Prop} {σ : ab_S}, Wire σ → F 4 a0 Q E σ → ab_Mt l yX1_readFactor mdX1_readFactor B FR LO 0 0 [.ref 7, .int a0] σ (fun v σ' => Wire σ' ∧ ∃ r : Int32, v = some (.int r) ∧ Q r σ') (fun X σ' => Wire σ' ∧ E X σ'))  {Q : Int32 → ab_S → Prop} {E : String → ab_S → Prop} {σ : ab_S} (hW : Wire σ) (h : wX1_readProduct F a0 Q E σ) : ab_Mt l yX1_readProduct mdX1_readProduct B (FR + 10) (LO + 200) 0 0 [.ref 7, .int a0] σ (fun v σ' => Wire σ' ∧ ∃ r : Int32, v = some (.int r) ∧ Q r σ') (fun X σ' => Wire σ' ∧ E X σ') := by
  refine V_met hl ⟨rfl, rfl, by decide⟩ rfl dkX1_readProduct (Nat.le_of_ble_eq_true rfl) ?_
  show V l mdX1_readProduct B (FR + 10) (LO + 200) 0 0 (ab_End _ _) 0 [(0, .ref 7), (1, .int a0)] [] σ
  revert h hW
  revert σ
  have k_l12 : ∀ (n : Nat) (x2 : Int32)  (σ : ab_S), Wire σ → wX1_readProduct_l12 F a0 Q E n x2 σ → V l mdX1_readProduct B (FR + 10) (LO + 200) 0 0 (ab_End (fun v σ' => Wire σ' ∧ ∃ r : Int32, v = some (.int r) ∧ Q r σ') (fun X σ' => Wire σ' ∧ E X σ')) 12 [(0, .ref 7), (1, .int a0), (2, .int x2)] [] σ := by
    have step : ∀ (Bk : Int32 → ab_S → Prop) (k_Bk : ∀ (x2 : Int32)  (σ : ab_S), Wire σ → Bk x2 σ → V l mdX1_readProduct B (FR + 10) (LO + 200) 0 0 (ab_End (fun v σ' => Wire σ' ∧ ∃ r : Int32, v = some (.int r) ∧ Q r σ') (fun X σ' => Wire σ' ∧ E X σ')) 12 [(0, .ref 7), (1, .int a0), (2, .int x2)] [] σ), ∀ (x2 : Int32)  (σ : ab_S), Wire σ → wX1_readProduct_l12_b F a0 Q E Bk x2 σ → V l mdX1_readProduct B (FR + 10) (LO + 200) 0 0 (ab_End (fun v σ' => Wire σ' ∧ ∃ r : Int32, v = some (.int r) ∧ Q r σ') (fun X σ' => Wire σ' ∧ E X σ')) 12 [(0, .ref 7), (1, .int a0), (2, .int x2)] [] σ := by
      intro Bk k_Bk
      have k_j85 : ∀ (x2 : Int32) (y0 : Int32) (s1 : Nat) (hs1 : isG s1) (σ : ab_S), Wire σ → wX1_readProduct_j85 F a0 Q E Bk x2 y0 s1 σ → V l mdX1_readProduct B (FR + 10) (LO + 200) 0 0 (ab_End (fun v σ' => Wire σ' ∧ ∃ r : Int32, v = some (.int r) ∧ Q r σ') (fun X σ' => Wire σ' ∧ E X σ')) 85 [(0, .ref 7), (1, .int a0), (2, .int x2)] [.int y0, .ref s1] σ := by
        intro x2 y0 s1 hs1 σ hW h
        refine V_iconst 42 (v := (0 : Int32)) rfl (by decide) ?_
        refine V_callV 43 2 (as := [.int y0, .int (0 : Int32)]) (rest := []) rfl mlX1_158 yvX0_emit rfl rfl clX0 (wG hW hs1) (by omega) (by show 8 + (3 + 11) + 0 ≤ LO + 200; omega) (Nat.le_of_ble_eq_true rfl) (by decide) (by decide) (fun B9 => ceX0_emit hl B9 hs1 hW h) (fun X9 τ9 h9 => VX_out rfl h9) ?_
        rintro v9 σ1 ⟨hW, u2, rfl, h⟩
        refine V_pop 44 rfl rfl ?_
        obtain ⟨v3, ev3⟩ : ∃ z : Int32, z = (x2 + 1) := ⟨_, rfl⟩
        replace h := h v3 ev3
        refine V_iinc 45 2 (v := v3) (lv' := [(2, .int v3), (0, .ref 7), (1, .int a0)]) rfl rfl ((in_1 _).trans ev3.symm) (by decide) rfl ?_
        refine V_goto 46 (tgt := 12) rfl (by decide) ?_
        refine V_sub [1, 2, 0] (lv' := [(0, .ref 7), (1, .int a0), (2, .int v3)]) rfl ?_
        exact k_Bk v3  σ1 hW h
      have k_j43 : ∀ (x2 : Int32)  (σ : ab_S), Wire σ → wX1_readProduct_j43 F a0 Q E Bk x2 σ → V l mdX1_readProduct B (FR + 10) (LO + 200) 0 0 (ab_End (fun v σ' => Wire σ' ∧ ∃ r : Int32, v = some (.int r) ∧ Q r σ') (fun X σ' => Wire σ' ∧ E X σ')) 43 [(0, .ref 7), (1, .int a0), (2, .int x2)] [] σ := by
        intro x2  σ hW h
        refine V_aload_n 21 0 rfl rfl rfl ?_
        refine V_getR 22 0 rfl clX1 flX1_9 (by decide) (wsh hW rfl) (fun _ => rfl) (wrf hW 16 rfl) ?_
        refine V_get (v := .int (σ.2.1 3 6)) 23 6 rfl clX6 flX1_33 (by decide) (wsh hW rfl) (fun _ => rfl) ?_
        refine V_topi (fun v4 ev4 => ?_)
        replace h := h v4 ev4
        refine V_istore_n 24 (lv' := [(3, .int v4), (0, .ref 7), (1, .int a0), (2, .int x2)]) rfl rfl (by decide) rfl ?_
        refine V_aload_n 25 1 rfl rfl rfl ?_
        refine V_getR 26 0 rfl clX1 flX1_9 (by decide) (wsh hW rfl) (fun _ => rfl) (wrf hW 16 rfl) ?_
        refine V_pc 55 rfl ?_
        refine V_callV 27 0 (as := []) (rest := []) rfl mlX1_62 yvX6_advance rfl rfl clX6 (wsh hW rfl) (by omega) (by show 8 + (1 + 11) + 0 ≤ LO + 200; omega) (Nat.le_of_ble_eq_true rfl) (by decide) (by decide) (fun B9 => ceX6_advance hl B9 hW h) (fun X9 τ9 h9 => VX_out rfl h9) ?_
        rintro v9 σ5 ⟨hW, rfl, h⟩
        refine V_aload_n 28 1 rfl rfl rfl ?_
        refine V_iload_n 29 2 rfl rfl rfl ?_
        refine V_callV 30 1 (as := [.int a0]) (rest := []) rfl mlX1_167 yvX1_readFactor rfl rfl clX1 (wsh hW rfl) (by omega) (by show 8 + (3 + 11) + LO ≤ LO + 200; omega) (Nat.le_of_ble_eq_true rfl) (by decide) (by decide) (fun B9 => hF4 B9 hW h) (fun X9 τ9 h9 => VX_out rfl h9) ?_
        rintro v9 σ6 ⟨hW, u7, rfl, h⟩
        refine V_if_ne 31 (tgt := 68) rfl (by decide) (fun hc => ?_) (fun hc => ?_)
        · replace h := h.1 hc
          refine V_aload_n 34 1 rfl rfl rfl ?_
          obtain ⟨q8, eq8, hq8, h⟩ := h
          refine V_getR 35 1 rfl clX1 flX1_15 (by decide) (wsh hW rfl) (fun _ => rfl) eq8 ?_
          refine V_iload_n 36 0 rfl rfl rfl ?_
          refine V_bipush 37 (v := (42 : Int32)) rfl (by decide) ?_
          refine V_icmp_ne 38 (tgt := 83) rfl (by decide) (fun hc => ?_) (fun hc => ?_)
          · replace h := h.1 hc
            refine V_bipush 41 (v := (10 : Int32)) rfl (by decide) ?_
            refine V_sub [1, 2, 3] (lv' := [(0, .ref 7), (1, .int a0), (2, .int x2)]) rfl ?_
            exact k_j85 x2 (10 : Int32) q8 hq8 σ6 hW h
          · replace h := h.2 hc
            refine V_pc 78 rfl ?_
            refine V_bipush 39 (v := (9 : Int32)) rfl (by decide) ?_
            refine V_goto 40 (tgt := 85) rfl (by decide) ?_
            refine V_sub [1, 2, 3] (lv' := [(0, .ref 7), (1, .int a0), (2, .int x2)]) rfl ?_
            exact k_j85 x2 (9 : Int32) q8 hq8 σ6 hW h
        · replace h := h.2 hc
          refine V_pc 66 rfl ?_
          refine V_iconst 32 (v := (0 : Int32)) rfl (by decide) ?_
          exact V_zret 33 rfl rfl rfl ⟨hW, _, rfl, h⟩
      intro x2  σ hW h
      refine V_iload_n 8 2 rfl rfl rfl ?_
      refine V_sipush 9 (v := (2400 : Int32)) rfl (by decide) ?_
      refine V_icmp_ge 10 (tgt := 96) rfl (by decide) (fun hc => ?_) (fun hc => ?_)
      · replace h := h.1 hc
        refine V_iconst 47 (v := (1 : Int32)) rfl (by decide) ?_
        exact V_zret 48 rfl rfl rfl ⟨hW, _, rfl, h⟩
      · replace h := h.2 hc
        refine V_pc 19 rfl ?_
        refine V_aload_n 11 0 rfl rfl rfl ?_
        refine V_getR 12 0 rfl clX1 flX1_9 (by decide) (wsh hW rfl) (fun _ => rfl) (wrf hW 16 rfl) ?_
        refine V_get (v := .int (σ.2.1 3 6)) 13 6 rfl clX6 flX1_33 (by decide) (wsh hW rfl) (fun _ => rfl) ?_
        refine V_bipush 14 (v := (42 : Int32)) rfl (by decide) ?_
        refine V_icmp_eq 15 (tgt := 43) rfl (by decide) (fun hc => ?_) (fun hc => ?_)
        · replace h := h.1 hc
          exact k_j43 x2 σ hW h
        · replace h := h.2 hc
          refine V_pc 31 rfl ?_
          refine V_aload_n 16 0 rfl rfl rfl ?_
          refine V_getR 17 0 rfl clX1 flX1_9 (by decide) (wsh hW rfl) (fun _ => rfl) (wrf hW 16 rfl) ?_
          refine V_get (v := .int (σ.2.1 3 6)) 18 6 rfl clX6 flX1_33 (by decide) (wsh hW rfl) (fun _ => rfl) ?_
          refine V_bipush 19 (v := (47 : Int32)) rfl (by decide) ?_
          refine V_icmp_ne 20 (tgt := 96) rfl (by decide) (fun hc => ?_) (fun hc => ?_)
          · replace h := h.1 hc
            refine V_iconst 47 (v := (1 : Int32)) rfl (by decide) ?_
            exact V_zret 48 rfl rfl rfl ⟨hW, _, rfl, h⟩
          · replace h := h.2 hc
            refine V_pc 43 rfl ?_
            exact k_j43 x2 σ hW h
    intro n
    induction n with
    | zero => intro x2  σ hW h; exact absurd h id
    | succ n ih => exact step  _ ih
  intro σ hW h
  refine V_aload_n 0 0 rfl rfl rfl ?_
  refine V_iload_n 1 1 rfl rfl rfl ?_
  refine V_callV 2 1 (as := [.int a0]) (rest := []) rfl mlX1_167 yvX1_readFactor rfl rfl clX1 (wsh hW rfl) (by omega) (by show 8 + (3 + 11) + LO ≤ LO + 200; omega) (Nat.le_of_ble_eq_true rfl) (by decide) (by decide) (fun B9 => hF4 B9 hW h) (fun X9 τ9 h9 => VX_out rfl h9) ?_
  rintro v9 σ9 ⟨hW, u10, rfl, h⟩
  refine V_if_ne 3 (tgt := 10) rfl (by decide) (fun hc => ?_) (fun hc => ?_)
  · replace h := h.1 hc
    refine V_iconst 6 (v := (0 : Int32)) rfl (by decide) ?_
    refine V_istore_n 7 (lv' := [(2, .int (0 : Int32)), (0, .ref 7), (1, .int a0)]) rfl rfl (by decide) rfl ?_
    refine V_sub [1, 2, 0] (lv' := [(0, .ref 7), (1, .int a0), (2, .int (0 : Int32))]) rfl ?_
    obtain ⟨n, h⟩ := h
    exact k_l12 n (0 : Int32) σ9 hW h
  · replace h := h.2 hc
    refine V_pc 8 rfl ?_
    refine V_iconst 4 (v := (0 : Int32)) rfl (by decide) ?_
    exact V_zret 5 rfl rfl rfl ⟨hW, _, rfl, h⟩

def wX1_readFactor_j58 (F : Nat → Int32 → (Int32 → ab_S → Prop) → (String → ab_S → Prop) → ab_S → Prop) (a0 : Int32) (Q : Int32 → ab_S → Prop) (E : String → ab_S → Prop)  (σ : ab_S) : Prop := ((σ.2.1 3 6) = 3 → wX1_readLeaf (0 : Int32) (σ.2.1 3 8) (fun u2 σ1 => (u2 = 0 ∨ u2 = 1) ∧ Q u2 σ1) E σ) ∧ (¬ (σ.2.1 3 6) = 3 → ((σ.2.1 3 6) = 35 → ∃ q3, σ.2.2.2 7 1 = some q3 ∧ isG q3 ∧ (vp_in (σ.2.1 7 2) 30 ∧ ((((σ.2.1 (q3 + 8) (σ.2.1 7 2).toNatClampNeg) = 0) → Q (0 : Int32) σ) ∧ (¬ ((σ.2.1 (q3 + 8) (σ.2.1 7 2).toNatClampNeg) = 0) → wX1_readLeaf (1 : Int32) (0 : Int32) (fun u5 σ4 => ((u5 = 0) → Q (0 : Int32) σ4) ∧ (¬ (u5 = 0) → Q (1 : Int32) σ4)) E σ)))) ∧ (¬ (σ.2.1 3 6) = 35 → ((σ.2.1 3 6) = 40 → (((10 : Int32) ≤ a0) → Q (0 : Int32) σ) ∧ (¬ ((10 : Int32) ≤ a0) → F 6 (a0 + (1 : Int32)) (fun u7 σ6 => ((u7 = 0) → Q (0 : Int32) σ6) ∧ (¬ (u7 = 0) → Q (1 : Int32) σ6)) E σ)) ∧ (¬ (σ.2.1 3 6) = 40 → ((σ.2.1 3 6) = 45 → (((10 : Int32) ≤ a0) → Q (0 : Int32) σ) ∧ (¬ ((10 : Int32) ≤ a0) → F 5 (a0 + (1 : Int32)) (fun u9 σ8 => ((u9 = 0) → Q (0 : Int32) σ8) ∧ (¬ (u9 = 0) → Q (1 : Int32) σ8)) E σ)) ∧ (¬ (σ.2.1 3 6) = 45 → Q (0 : Int32) σ))))
def wX1_readFactor (F : Nat → Int32 → (Int32 → ab_S → Prop) → (String → ab_S → Prop) → ab_S → Prop) (a0 : Int32) (Q : Int32 → ab_S → Prop) (E : String → ab_S → Prop) (σ : ab_S) : Prop := ((¬ (σ.2.1 3 6) = (3 : Int32)) → wX1_readFactor_j58 F a0 Q E σ) ∧ (¬ (¬ (σ.2.1 3 6) = (3 : Int32)) → wX6_isAheadOfDot (fun u11 σ10 => ((u11 = 0) → wX1_readFactor_j58 F a0 Q E σ10) ∧ (¬ (u11 = 0) → wX1_readSlot (0 : Int32) (fun u13 σ12 => ((¬ u13 = (-1 : Int32)) → (∀ σ14 : ab_S, σ14 = ab_I σ12 7 3 ((σ12.2.1 7 3) ||| ((1 : Int32) <<< (u13 &&& 31))) → ∃ q15, σ14.2.2.2 7 1 = some q15 ∧ isG q15 ∧ (wX0_emit q15 (2 : Int32) u13 (fun u17 σ16 => Q (1 : Int32) σ16) E σ14))) ∧ (¬ (¬ u13 = (-1 : Int32)) → Q (0 : Int32) σ12)) E σ10)) E σ)
set_option maxHeartbeats 4000000 in
set_option maxRecDepth 100000 in
theorem ceX1_readFactor {l : Launch} (hl : l.stackTraces = false) (B : Nat) {F : Nat → Int32 → (Int32 → ab_S → Prop) → (String → ab_S → Prop) → ab_S → Prop} {a0 : Int32} {FR LO : Nat} (hF5 : ∀ (B : Nat) {a0 : Int32} {Q : Int32 → ab_S → Prop} {E : String → ab_S → Prop} {σ : ab_S}, Wire σ → F 5 a0 Q E σ → ab_Mt l yX1_readNegated mdX1_readNegated B FR LO 0 0 [.ref 7, .int a0] σ (fun v σ' => Wire σ' ∧ ∃ r : Int32, v = some (.int r) ∧ Q r σ') (fun X σ' => Wire σ' ∧ E X σ')) (hF6 : ∀ (B : Nat) {a0 : Int32} {Q : Int32 → ab_S → Prop} {E : String → ab_S → Prop} {σ : ab_S}, Wire σ → F 6 a0 Q E σ → ab_Mt l yX1_readBracket mdX1_readBracket B FR LO 0 0 [.ref 7, .int a0] σ (fun v σ' => Wire σ' ∧ ∃ r : Int32, v = some (.int r) ∧ Q r σ') (fun X σ' => Wire σ' ∧ E X σ'))  {Q : Int32 → ab_S → Prop} {E : String → ab_S → Prop} {σ : ab_S} (hW : Wire σ) (h : wX1_readFactor F a0 Q E σ) : ab_Mt l yX1_readFactor mdX1_readFactor B (FR + 10) (LO + 200) 0 0 [.ref 7, .int a0] σ (fun v σ' => Wire σ' ∧ ∃ r : Int32, v = some (.int r) ∧ Q r σ') (fun X σ' => Wire σ' ∧ E X σ') := by
  refine V_met hl ⟨rfl, rfl, by decide⟩ rfl dkX1_readFactor (Nat.le_of_ble_eq_true rfl) ?_
  show V l mdX1_readFactor B (FR + 10) (LO + 200) 0 0 (ab_End _ _) 0 [(0, .ref 7), (1, .int a0)] [] σ
  revert h hW
  revert σ
  have k_j58 : ∀   (σ : ab_S), Wire σ → wX1_readFactor_j58 F a0 Q E  σ → V l mdX1_readFactor B (FR + 10) (LO + 200) 0 0 (ab_End (fun v σ' => Wire σ' ∧ ∃ r : Int32, v = some (.int r) ∧ Q r σ') (fun X σ' => Wire σ' ∧ E X σ')) 58 [(0, .ref 7), (1, .int a0)] [] σ := by
    intro   σ hW h
    refine V_aload_n 34 0 rfl rfl rfl ?_
    refine V_getR 35 0 rfl clX1 flX1_9 (by decide) (wsh hW rfl) (fun _ => rfl) (wrf hW 16 rfl) ?_
    refine V_get (v := .int (σ.2.1 3 6)) 36 6 rfl clX6 flX1_33 (by decide) (wsh hW rfl) (fun _ => rfl) ?_
    by_cases hs0 : (σ.2.1 3 6) = 3
    · replace h := h.1 hs0
      refine V_look 37 (off := 43) (tgt := 108) rfl (by decide) (by rw [hs0]; rfl) (by decide) ?_
      refine V_aload_n 38 0 rfl rfl rfl ?_
      refine V_iconst 39 (v := (0 : Int32)) rfl (by decide) ?_
      refine V_aload_n 40 0 rfl rfl rfl ?_
      refine V_getR 41 0 rfl clX1 flX1_9 (by decide) (wsh hW rfl) (fun _ => rfl) (wrf hW 16 rfl) ?_
      refine V_get (v := .int (σ.2.1 3 8)) 42 8 rfl clX6 flX1_141 (by decide) (wsh hW rfl) (fun _ => rfl) ?_
      refine V_callV 43 2 (as := [.int (0 : Int32), .int (σ.2.1 3 8)]) (rest := []) rfl mlX1_173 yvX1_readLeaf rfl rfl clX1 (wsh hW rfl) (by omega) (by show 8 + (3 + 11) + 22 ≤ LO + 200; omega) (Nat.le_of_ble_eq_true rfl) (by decide) (by decide) (fun B9 => ceX1_readLeaf hl B9 hW h) (fun X9 τ9 h9 => VX_out rfl h9) ?_
      rintro v9 σ1 ⟨hW, u2, rfl, h⟩
      exact V_zret 44 rfl rfl (nb1 h.1) ⟨hW, _, rfl, h.2⟩
    · replace h := h.2 hs0
      by_cases hs1 : (σ.2.1 3 6) = 35
      · replace h := h.1 hs1
        refine V_look 37 (off := 56) (tgt := 121) rfl (by decide) (by rw [hs1]; rfl) (by decide) ?_
        refine V_aload_n 45 0 rfl rfl rfl ?_
        obtain ⟨q3, eq3, hq3, h⟩ := h
        refine V_getR 46 1 rfl clX1 flX1_15 (by decide) (wsh hW rfl) (fun _ => rfl) eq3 ?_
        refine V_getR 47 9 rfl clX0 flX1_112 (by decide) (wG hW hq3) (fun _ => rfl) (wG_f9 hW hq3) ?_
        refine V_aload_n 48 0 rfl rfl rfl ?_
        refine V_get (v := .int (σ.2.1 7 2)) 49 2 rfl clX1 flX1_87 (by decide) (wsh hW rfl) (fun _ => rfl) ?_
        obtain ⟨hin, h⟩ := h
        refine V_zald 50 rfl (wG_a8 hW hq3) hin ?_
        refine V_pc 133 rfl ?_
        refine V_if_eq 51 (tgt := 149) rfl (by decide) (fun hc => ?_) (fun hc => ?_)
        · replace h := h.1 hc
          refine V_iconst 59 (v := (0 : Int32)) rfl (by decide) ?_
          exact V_zret 60 rfl rfl rfl ⟨hW, _, rfl, h⟩
        · replace h := h.2 hc
          refine V_pc 136 rfl ?_
          refine V_aload_n 52 0 rfl rfl rfl ?_
          refine V_iconst 53 (v := (1 : Int32)) rfl (by decide) ?_
          refine V_iconst 54 (v := (0 : Int32)) rfl (by decide) ?_
          refine V_callV 55 2 (as := [.int (1 : Int32), .int (0 : Int32)]) (rest := []) rfl mlX1_173 yvX1_readLeaf rfl rfl clX1 (wsh hW rfl) (by omega) (by show 8 + (3 + 11) + 22 ≤ LO + 200; omega) (Nat.le_of_ble_eq_true rfl) (by decide) (by decide) (fun B9 => ceX1_readLeaf hl B9 hW h) (fun X9 τ9 h9 => VX_out rfl h9) ?_
          rintro v9 σ4 ⟨hW, u5, rfl, h⟩
          refine V_if_eq 56 (tgt := 149) rfl (by decide) (fun hc => ?_) (fun hc => ?_)
          · replace h := h.1 hc
            refine V_iconst 59 (v := (0 : Int32)) rfl (by decide) ?_
            exact V_zret 60 rfl rfl rfl ⟨hW, _, rfl, h⟩
          · replace h := h.2 hc
            refine V_pc 145 rfl ?_
            refine V_iconst 57 (v := (1 : Int32)) rfl (by decide) ?_
            refine V_goto 58 (tgt := 150) rfl (by decide) ?_
            exact V_zret 60 rfl rfl rfl ⟨hW, _, rfl, h⟩
      · replace h := h.2 hs1
        by_cases hs2 : (σ.2.1 3 6) = 40
        · replace h := h.1 hs2
          refine V_look 37 (off := 108) (tgt := 173) rfl (by decide) (by rw [hs2]; rfl) (by decide) ?_
          refine V_iload_n 74 1 rfl rfl rfl ?_
          refine V_bipush 75 (v := (10 : Int32)) rfl (by decide) ?_
          refine V_icmp_ge 76 (tgt := 193) rfl (by decide) (fun hc => ?_) (fun hc => ?_)
          · replace h := h.1 hc
            refine V_iconst 85 (v := (0 : Int32)) rfl (by decide) ?_
            exact V_zret 86 rfl rfl rfl ⟨hW, _, rfl, h⟩
          · replace h := h.2 hc
            refine V_pc 179 rfl ?_
            refine V_aload_n 77 0 rfl rfl rfl ?_
            refine V_iload_n 78 1 rfl rfl rfl ?_
            refine V_iconst 79 (v := (1 : Int32)) rfl (by decide) ?_
            refine V_iadd 80 rfl ?_
            refine V_callV 81 1 (as := [.int (a0 + (1 : Int32))]) (rest := []) rfl mlX1_179 yvX1_readBracket rfl rfl clX1 (wsh hW rfl) (by omega) (by show 8 + (2 + 11) + LO ≤ LO + 200; omega) (Nat.le_of_ble_eq_true rfl) (by decide) (by decide) (fun B9 => hF6 B9 hW h) (fun X9 τ9 h9 => VX_out rfl h9) ?_
            rintro v9 σ6 ⟨hW, u7, rfl, h⟩
            refine V_if_eq 82 (tgt := 193) rfl (by decide) (fun hc => ?_) (fun hc => ?_)
            · replace h := h.1 hc
              refine V_iconst 85 (v := (0 : Int32)) rfl (by decide) ?_
              exact V_zret 86 rfl rfl rfl ⟨hW, _, rfl, h⟩
            · replace h := h.2 hc
              refine V_pc 189 rfl ?_
              refine V_iconst 83 (v := (1 : Int32)) rfl (by decide) ?_
              refine V_goto 84 (tgt := 194) rfl (by decide) ?_
              exact V_zret 86 rfl rfl rfl ⟨hW, _, rfl, h⟩
        · replace h := h.2 hs2
          by_cases hs3 : (σ.2.1 3 6) = 45
          · replace h := h.1 hs3
            refine V_look 37 (off := 86) (tgt := 151) rfl (by decide) (by rw [hs3]; rfl) (by decide) ?_
            refine V_iload_n 61 1 rfl rfl rfl ?_
            refine V_bipush 62 (v := (10 : Int32)) rfl (by decide) ?_
            refine V_icmp_ge 63 (tgt := 171) rfl (by decide) (fun hc => ?_) (fun hc => ?_)
            · replace h := h.1 hc
              refine V_iconst 72 (v := (0 : Int32)) rfl (by decide) ?_
              exact V_zret 73 rfl rfl rfl ⟨hW, _, rfl, h⟩
            · replace h := h.2 hc
              refine V_pc 157 rfl ?_
              refine V_aload_n 64 0 rfl rfl rfl ?_
              refine V_iload_n 65 1 rfl rfl rfl ?_
              refine V_iconst 66 (v := (1 : Int32)) rfl (by decide) ?_
              refine V_iadd 67 rfl ?_
              refine V_callV 68 1 (as := [.int (a0 + (1 : Int32))]) (rest := []) rfl mlX1_176 yvX1_readNegated rfl rfl clX1 (wsh hW rfl) (by omega) (by show 8 + (2 + 11) + LO ≤ LO + 200; omega) (Nat.le_of_ble_eq_true rfl) (by decide) (by decide) (fun B9 => hF5 B9 hW h) (fun X9 τ9 h9 => VX_out rfl h9) ?_
              rintro v9 σ8 ⟨hW, u9, rfl, h⟩
              refine V_if_eq 69 (tgt := 171) rfl (by decide) (fun hc => ?_) (fun hc => ?_)
              · replace h := h.1 hc
                refine V_iconst 72 (v := (0 : Int32)) rfl (by decide) ?_
                exact V_zret 73 rfl rfl rfl ⟨hW, _, rfl, h⟩
              · replace h := h.2 hc
                refine V_pc 167 rfl ?_
                refine V_iconst 70 (v := (1 : Int32)) rfl (by decide) ?_
                refine V_goto 71 (tgt := 172) rfl (by decide) ?_
                exact V_zret 73 rfl rfl rfl ⟨hW, _, rfl, h⟩
          · replace h := h.2 hs3
            refine V_look 37 (off := 130) (tgt := 195) rfl (by decide) (by refine (lv_osw hs0 (by decide)).trans ?_; refine (lv_osw hs1 (by decide)).trans ?_; refine (lv_osw hs2 (by decide)).trans ?_; refine (lv_osw hs3 (by decide)).trans ?_; rfl) (by decide) ?_
            refine V_iconst 87 (v := (0 : Int32)) rfl (by decide) ?_
            exact V_zret 88 rfl rfl rfl ⟨hW, _, rfl, h⟩
  intro σ hW h
  refine V_aload_n 0 0 rfl rfl rfl ?_
  refine V_getR 1 0 rfl clX1 flX1_9 (by decide) (wsh hW rfl) (fun _ => rfl) (wrf hW 16 rfl) ?_
  refine V_get (v := .int (σ.2.1 3 6)) 2 6 rfl clX6 flX1_33 (by decide) (wsh hW rfl) (fun _ => rfl) ?_
  refine V_iconst 3 (v := (3 : Int32)) rfl (by decide) ?_
  refine V_icmp_ne 4 (tgt := 58) rfl (by decide) (fun hc => ?_) (fun hc => ?_)
  · replace h := h.1 hc
    exact k_j58 σ hW h
  · replace h := h.2 hc
    refine V_pc 11 rfl ?_
    refine V_aload_n 5 0 rfl rfl rfl ?_
    refine V_getR 6 0 rfl clX1 flX1_9 (by decide) (wsh hW rfl) (fun _ => rfl) (wrf hW 16 rfl) ?_
    refine V_callV 7 0 (as := []) (rest := []) rfl mlX1_170 yvX6_isAheadOfDot rfl rfl clX6 (wsh hW rfl) (by omega) (by show 8 + (1 + 11) + 0 ≤ LO + 200; omega) (Nat.le_of_ble_eq_true rfl) (by decide) (by decide) (fun B9 => ceX6_isAheadOfDot hl B9 hW h) (fun X9 τ9 h9 => VX_out rfl h9) ?_
    rintro v9 σ10 ⟨hW, u11, rfl, h⟩
    refine V_if_eq 8 (tgt := 58) rfl (by decide) (fun hc => ?_) (fun hc => ?_)
    · replace h := h.1 hc
      exact k_j58 σ10 hW h
    · replace h := h.2 hc
      refine V_pc 21 rfl ?_
      refine V_aload_n 9 0 rfl rfl rfl ?_
      refine V_iconst 10 (v := (0 : Int32)) rfl (by decide) ?_
      refine V_callV 11 1 (as := [.int (0 : Int32)]) (rest := []) rfl mlX1_119 yvX1_readSlot rfl rfl clX1 (wsh hW rfl) (by omega) (by show 8 + (6 + 11) + 41 ≤ LO + 200; omega) (Nat.le_of_ble_eq_true rfl) (by decide) (by decide) (fun B9 => ceX1_readSlot hl B9 hW h) (fun X9 τ9 h9 => VX_out rfl h9) ?_
      rintro v9 σ12 ⟨hW, u13, rfl, h⟩
      refine V_istore_n 12 (lv' := [(2, .int u13), (0, .ref 7), (1, .int a0)]) rfl rfl (by decide) rfl ?_
      refine V_iload_n 13 0 rfl rfl rfl ?_
      refine V_iconst 14 (v := (-1 : Int32)) rfl (by decide) ?_
      refine V_icmp_ne 15 (tgt := 34) rfl (by decide) (fun hc => ?_) (fun hc => ?_)
      · replace h := h.1 hc
        refine V_aload_n 18 1 rfl rfl rfl ?_
        refine V_dup 19 rfl rfl ?_
        refine V_get (v := .int (σ12.2.1 7 3)) 20 3 rfl clX1 flX1_129 (by decide) (wsh hW rfl) (fun _ => rfl) ?_
        refine V_iconst 21 (v := (1 : Int32)) rfl (by decide) ?_
        refine V_iload_n 22 0 rfl rfl rfl ?_
        refine V_ishl 23 rfl ?_
        refine V_pc 42 rfl ?_
        refine V_ior 24 rfl ?_
        refine V_putI 25 3 rfl clX1 flX1_129 (by decide) (wsh hW rfl) rfl (fun _ _ => rfl) rfl rfl ?_
        refine V_nm (fun σ14 eσ14 => ?_)
        replace h := h σ14 eσ14
        have hW := wire_I eσ14 hW
        refine V_aload_n 26 1 rfl rfl rfl ?_
        obtain ⟨q15, eq15, hq15, h⟩ := h
        refine V_getR 27 1 rfl clX1 flX1_15 (by decide) (wsh hW rfl) (fun _ => rfl) eq15 ?_
        refine V_iconst 28 (v := (2 : Int32)) rfl (by decide) ?_
        refine V_iload_n 29 0 rfl rfl rfl ?_
        refine V_callV 30 2 (as := [.int (2 : Int32), .int u13]) (rest := []) rfl mlX1_158 yvX0_emit rfl rfl clX0 (wG hW hq15) (by omega) (by show 8 + (3 + 11) + 0 ≤ LO + 200; omega) (Nat.le_of_ble_eq_true rfl) (by decide) (by decide) (fun B9 => ceX0_emit hl B9 hq15 hW h) (fun X9 τ9 h9 => VX_out rfl h9) ?_
        rintro v9 σ16 ⟨hW, u17, rfl, h⟩
        refine V_pop 31 rfl rfl ?_
        refine V_iconst 32 (v := (1 : Int32)) rfl (by decide) ?_
        exact V_zret 33 rfl rfl rfl ⟨hW, _, rfl, h⟩
      · replace h := h.2 hc
        refine V_pc 32 rfl ?_
        refine V_iconst 16 (v := (0 : Int32)) rfl (by decide) ?_
        exact V_zret 17 rfl rfl rfl ⟨hW, _, rfl, h⟩

def wX1_readNegated (F : Nat → Int32 → (Int32 → ab_S → Prop) → (String → ab_S → Prop) → ab_S → Prop) (a0 : Int32) (Q : Int32 → ab_S → Prop) (E : String → ab_S → Prop) (σ : ab_S) : Prop := wX6_advance (fun σ1 => F 4 a0 (fun u3 σ2 => ((¬ u3 = 0) → ∃ q4, σ2.2.2.2 7 1 = some q4 ∧ isG q4 ∧ (wX0_emit q4 (6 : Int32) (0 : Int32) (fun u6 σ5 => Q (1 : Int32) σ5) E σ2)) ∧ (¬ (¬ u3 = 0) → Q (0 : Int32) σ2)) E σ1) E σ
set_option maxHeartbeats 4000000 in
set_option maxRecDepth 100000 in
theorem ceX1_readNegated {l : Launch} (hl : l.stackTraces = false) (B : Nat) {F : Nat → Int32 → (Int32 → ab_S → Prop) → (String → ab_S → Prop) → ab_S → Prop} {a0 : Int32} {FR LO : Nat} (hF4 : ∀ (B : Nat) {a0 : Int32} {Q : Int32 → ab_S → Prop} {E : String → ab_S → Prop} {σ : ab_S}, Wire σ → F 4 a0 Q E σ → ab_Mt l yX1_readFactor mdX1_readFactor B FR LO 0 0 [.ref 7, .int a0] σ (fun v σ' => Wire σ' ∧ ∃ r : Int32, v = some (.int r) ∧ Q r σ') (fun X σ' => Wire σ' ∧ E X σ'))  {Q : Int32 → ab_S → Prop} {E : String → ab_S → Prop} {σ : ab_S} (hW : Wire σ) (h : wX1_readNegated F a0 Q E σ) : ab_Mt l yX1_readNegated mdX1_readNegated B (FR + 10) (LO + 200) 0 0 [.ref 7, .int a0] σ (fun v σ' => Wire σ' ∧ ∃ r : Int32, v = some (.int r) ∧ Q r σ') (fun X σ' => Wire σ' ∧ E X σ') := by
  refine V_met hl ⟨rfl, rfl, by decide⟩ rfl dkX1_readNegated (Nat.le_of_ble_eq_true rfl) ?_
  show V l mdX1_readNegated B (FR + 10) (LO + 200) 0 0 (ab_End _ _) 0 [(0, .ref 7), (1, .int a0)] [] σ
  refine V_aload_n 0 0 rfl rfl rfl ?_
  refine V_getR 1 0 rfl clX1 flX1_9 (by decide) (wsh hW rfl) (fun _ => rfl) (wrf hW 16 rfl) ?_
  refine V_callV 2 0 (as := []) (rest := []) rfl mlX1_62 yvX6_advance rfl rfl clX6 (wsh hW rfl) (by omega) (by show 8 + (1 + 11) + 0 ≤ LO + 200; omega) (Nat.le_of_ble_eq_true rfl) (by decide) (by decide) (fun B9 => ceX6_advance hl B9 hW h) (fun X9 τ9 h9 => VX_out rfl h9) ?_
  rintro v9 σ1 ⟨hW, rfl, h⟩
  refine V_aload_n 3 0 rfl rfl rfl ?_
  refine V_iload_n 4 1 rfl rfl rfl ?_
  refine V_callV 5 1 (as := [.int a0]) (rest := []) rfl mlX1_167 yvX1_readFactor rfl rfl clX1 (wsh hW rfl) (by omega) (by show 8 + (3 + 11) + LO ≤ LO + 200; omega) (Nat.le_of_ble_eq_true rfl) (by decide) (by decide) (fun B9 => hF4 B9 hW h) (fun X9 τ9 h9 => VX_out rfl h9) ?_
  rintro v9 σ2 ⟨hW, u3, rfl, h⟩
  refine V_if_ne 6 (tgt := 17) rfl (by decide) (fun hc => ?_) (fun hc => ?_)
  · replace h := h.1 hc
    refine V_aload_n 9 0 rfl rfl rfl ?_
    obtain ⟨q4, eq4, hq4, h⟩ := h
    refine V_getR 10 1 rfl clX1 flX1_15 (by decide) (wsh hW rfl) (fun _ => rfl) eq4 ?_
    refine V_bipush 11 (v := (6 : Int32)) rfl (by decide) ?_
    refine V_iconst 12 (v := (0 : Int32)) rfl (by decide) ?_
    refine V_callV 13 2 (as := [.int (6 : Int32), .int (0 : Int32)]) (rest := []) rfl mlX1_158 yvX0_emit rfl rfl clX0 (wG hW hq4) (by omega) (by show 8 + (3 + 11) + 0 ≤ LO + 200; omega) (Nat.le_of_ble_eq_true rfl) (by decide) (by decide) (fun B9 => ceX0_emit hl B9 hq4 hW h) (fun X9 τ9 h9 => VX_out rfl h9) ?_
    rintro v9 σ5 ⟨hW, u6, rfl, h⟩
    refine V_pop 14 rfl rfl ?_
    refine V_iconst 15 (v := (1 : Int32)) rfl (by decide) ?_
    exact V_zret 16 rfl rfl rfl ⟨hW, _, rfl, h⟩
  · replace h := h.2 hc
    refine V_pc 15 rfl ?_
    refine V_iconst 7 (v := (0 : Int32)) rfl (by decide) ?_
    exact V_zret 8 rfl rfl rfl ⟨hW, _, rfl, h⟩

def wX1_readBracket (F : Nat → Int32 → (Int32 → ab_S → Prop) → (String → ab_S → Prop) → ab_S → Prop) (a0 : Int32) (Q : Int32 → ab_S → Prop) (E : String → ab_S → Prop) (σ : ab_S) : Prop := wX6_advance (fun σ1 => F 0 a0 (fun u3 σ2 => ((u3 = 0) → Q (0 : Int32) σ2) ∧ (¬ (u3 = 0) → wX6_take (41 : Int32) (fun u5 σ4 => ((u5 = 0) → Q (0 : Int32) σ4) ∧ (¬ (u5 = 0) → Q (1 : Int32) σ4)) E σ2)) E σ1) E σ
set_option maxHeartbeats 4000000 in
set_option maxRecDepth 100000 in
theorem ceX1_readBracket {l : Launch} (hl : l.stackTraces = false) (B : Nat) {F : Nat → Int32 → (Int32 → ab_S → Prop) → (String → ab_S → Prop) → ab_S → Prop} {a0 : Int32} {FR LO : Nat} (hF0 : ∀ (B : Nat) {a0 : Int32} {Q : Int32 → ab_S → Prop} {E : String → ab_S → Prop} {σ : ab_S}, Wire σ → F 0 a0 Q E σ → ab_Mt l yX1_readExpression mdX1_readExpression B FR LO 0 0 [.ref 7, .int a0] σ (fun v σ' => Wire σ' ∧ ∃ r : Int32, v = some (.int r) ∧ Q r σ') (fun X σ' => Wire σ' ∧ E X σ'))  {Q : Int32 → ab_S → Prop} {E : String → ab_S → Prop} {σ : ab_S} (hW : Wire σ) (h : wX1_readBracket F a0 Q E σ) : ab_Mt l yX1_readBracket mdX1_readBracket B (FR + 10) (LO + 200) 0 0 [.ref 7, .int a0] σ (fun v σ' => Wire σ' ∧ ∃ r : Int32, v = some (.int r) ∧ Q r σ') (fun X σ' => Wire σ' ∧ E X σ') := by
  refine V_met hl ⟨rfl, rfl, by decide⟩ rfl dkX1_readBracket (Nat.le_of_ble_eq_true rfl) ?_
  show V l mdX1_readBracket B (FR + 10) (LO + 200) 0 0 (ab_End _ _) 0 [(0, .ref 7), (1, .int a0)] [] σ
  refine V_aload_n 0 0 rfl rfl rfl ?_
  refine V_getR 1 0 rfl clX1 flX1_9 (by decide) (wsh hW rfl) (fun _ => rfl) (wrf hW 16 rfl) ?_
  refine V_callV 2 0 (as := []) (rest := []) rfl mlX1_62 yvX6_advance rfl rfl clX6 (wsh hW rfl) (by omega) (by show 8 + (1 + 11) + 0 ≤ LO + 200; omega) (Nat.le_of_ble_eq_true rfl) (by decide) (by decide) (fun B9 => ceX6_advance hl B9 hW h) (fun X9 τ9 h9 => VX_out rfl h9) ?_
  rintro v9 σ1 ⟨hW, rfl, h⟩
  refine V_aload_n 3 0 rfl rfl rfl ?_
  refine V_iload_n 4 1 rfl rfl rfl ?_
  refine V_callV 5 1 (as := [.int a0]) (rest := []) rfl mlX1_132 yvX1_readExpression rfl rfl clX1 (wsh hW rfl) (by omega) (by show 8 + (3 + 11) + LO ≤ LO + 200; omega) (Nat.le_of_ble_eq_true rfl) (by decide) (by decide) (fun B9 => hF0 B9 hW h) (fun X9 τ9 h9 => VX_out rfl h9) ?_
  rintro v9 σ2 ⟨hW, u3, rfl, h⟩
  refine V_if_eq 6 (tgt := 31) rfl (by decide) (fun hc => ?_) (fun hc => ?_)
  · replace h := h.1 hc
    refine V_iconst 14 (v := (0 : Int32)) rfl (by decide) ?_
    exact V_zret 15 rfl rfl rfl ⟨hW, _, rfl, h⟩
  · replace h := h.2 hc
    refine V_pc 15 rfl ?_
    refine V_aload_n 7 0 rfl rfl rfl ?_
    refine V_getR 8 0 rfl clX1 flX1_9 (by decide) (wsh hW rfl) (fun _ => rfl) (wrf hW 16 rfl) ?_
    refine V_bipush 9 (v := (41 : Int32)) rfl (by decide) ?_
    refine V_callV 10 1 (as := [.int (41 : Int32)]) (rest := []) rfl mlX1_43 yvX6_take rfl rfl clX6 (wsh hW rfl) (by omega) (by show 8 + (2 + 11) + 20 ≤ LO + 200; omega) (Nat.le_of_ble_eq_true rfl) (by decide) (by decide) (fun B9 => ceX6_take hl B9 hW h) (fun X9 τ9 h9 => VX_out rfl h9) ?_
    rintro v9 σ4 ⟨hW, u5, rfl, h⟩
    refine V_if_eq 11 (tgt := 31) rfl (by decide) (fun hc => ?_) (fun hc => ?_)
    · replace h := h.1 hc
      refine V_iconst 14 (v := (0 : Int32)) rfl (by decide) ?_
      exact V_zret 15 rfl rfl rfl ⟨hW, _, rfl, h⟩
    · replace h := h.2 hc
      refine V_pc 27 rfl ?_
      refine V_iconst 12 (v := (1 : Int32)) rfl (by decide) ?_
      refine V_goto 13 (tgt := 32) rfl (by decide) ?_
      exact V_zret 15 rfl rfl rfl ⟨hW, _, rfl, h⟩

def wRec : Nat → Nat → Int32 → (Int32 → ab_S → Prop) → (String → ab_S → Prop) → ab_S → Prop
  | 0, _ => fun _ _ _ _ => False
  | d + 1, 0 => wX1_readExpression (wRec d)
  | d + 1, 1 => wX1_readChoice (wRec d)
  | d + 1, 2 => wX1_readSum (wRec d)
  | d + 1, 3 => wX1_readProduct (wRec d)
  | d + 1, 4 => wX1_readFactor (wRec d)
  | d + 1, 5 => wX1_readNegated (wRec d)
  | d + 1, 6 => wX1_readBracket (wRec d)
  | _ + 1, _ => fun _ _ _ _ => False
theorem ceRec {l : Launch} (hl : l.stackTraces = false) : ∀ d : Nat, (∀ (B : Nat) {a0 : Int32} {Q : Int32 → ab_S → Prop} {E : String → ab_S → Prop} {σ : ab_S}, Wire σ → wRec d 0 a0 Q E σ → ab_Mt l yX1_readExpression mdX1_readExpression B (10 * d) (200 * d) 0 0 [.ref 7, .int a0] σ (fun v σ' => Wire σ' ∧ ∃ r : Int32, v = some (.int r) ∧ Q r σ') (fun X σ' => Wire σ' ∧ E X σ')) ∧ (∀ (B : Nat) {a0 : Int32} {Q : Int32 → ab_S → Prop} {E : String → ab_S → Prop} {σ : ab_S}, Wire σ → wRec d 1 a0 Q E σ → ab_Mt l yX1_readChoice mdX1_readChoice B (10 * d) (200 * d) 0 0 [.ref 7, .int a0] σ (fun v σ' => Wire σ' ∧ ∃ r : Int32, v = some (.int r) ∧ Q r σ') (fun X σ' => Wire σ' ∧ E X σ')) ∧ (∀ (B : Nat) {a0 : Int32} {Q : Int32 → ab_S → Prop} {E : String → ab_S → Prop} {σ : ab_S}, Wire σ → wRec d 2 a0 Q E σ → ab_Mt l yX1_readSum mdX1_readSum B (10 * d) (200 * d) 0 0 [.ref 7, .int a0] σ (fun v σ' => Wire σ' ∧ ∃ r : Int32, v = some (.int r) ∧ Q r σ') (fun X σ' => Wire σ' ∧ E X σ')) ∧ (∀ (B : Nat) {a0 : Int32} {Q : Int32 → ab_S → Prop} {E : String → ab_S → Prop} {σ : ab_S}, Wire σ → wRec d 3 a0 Q E σ → ab_Mt l yX1_readProduct mdX1_readProduct B (10 * d) (200 * d) 0 0 [.ref 7, .int a0] σ (fun v σ' => Wire σ' ∧ ∃ r : Int32, v = some (.int r) ∧ Q r σ') (fun X σ' => Wire σ' ∧ E X σ')) ∧ (∀ (B : Nat) {a0 : Int32} {Q : Int32 → ab_S → Prop} {E : String → ab_S → Prop} {σ : ab_S}, Wire σ → wRec d 4 a0 Q E σ → ab_Mt l yX1_readFactor mdX1_readFactor B (10 * d) (200 * d) 0 0 [.ref 7, .int a0] σ (fun v σ' => Wire σ' ∧ ∃ r : Int32, v = some (.int r) ∧ Q r σ') (fun X σ' => Wire σ' ∧ E X σ')) ∧ (∀ (B : Nat) {a0 : Int32} {Q : Int32 → ab_S → Prop} {E : String → ab_S → Prop} {σ : ab_S}, Wire σ → wRec d 5 a0 Q E σ → ab_Mt l yX1_readNegated mdX1_readNegated B (10 * d) (200 * d) 0 0 [.ref 7, .int a0] σ (fun v σ' => Wire σ' ∧ ∃ r : Int32, v = some (.int r) ∧ Q r σ') (fun X σ' => Wire σ' ∧ E X σ')) ∧ (∀ (B : Nat) {a0 : Int32} {Q : Int32 → ab_S → Prop} {E : String → ab_S → Prop} {σ : ab_S}, Wire σ → wRec d 6 a0 Q E σ → ab_Mt l yX1_readBracket mdX1_readBracket B (10 * d) (200 * d) 0 0 [.ref 7, .int a0] σ (fun v σ' => Wire σ' ∧ ∃ r : Int32, v = some (.int r) ∧ Q r σ') (fun X σ' => Wire σ' ∧ E X σ'))
  | 0 => by
    refine ⟨?_, ?_, ?_, ?_, ?_, ?_, ?_⟩ <;> (intro B a0 Q E σ hW h; exact absurd h id)
  | d + 1 => by
    obtain ⟨i0, i1, i2, i3, i4, i5, i6⟩ := ceRec hl d
    refine ⟨?_, ?_, ?_, ?_, ?_, ?_, ?_⟩
    · intro B a0 Q E σ hW h
      exact ceX1_readExpression hl B (fun B {a0} {Q} {E} {σ} => i1 B) (fun B {a0} {Q} {E} {σ} => i2 B) hW h
    · intro B a0 Q E σ hW h
      exact ceX1_readChoice hl B (fun B {a0} {Q} {E} {σ} => i0 B) hW h
    · intro B a0 Q E σ hW h
      exact ceX1_readSum hl B (fun B {a0} {Q} {E} {σ} => i3 B) hW h
    · intro B a0 Q E σ hW h
      exact ceX1_readProduct hl B (fun B {a0} {Q} {E} {σ} => i4 B) hW h
    · intro B a0 Q E σ hW h
      exact ceX1_readFactor hl B (fun B {a0} {Q} {E} {σ} => i5 B) (fun B {a0} {Q} {E} {σ} => i6 B) hW h
    · intro B a0 Q E σ hW h
      exact ceX1_readNegated hl B (fun B {a0} {Q} {E} {σ} => i4 B) hW h
    · intro B a0 Q E σ hW h
      exact ceX1_readBracket hl B (fun B {a0} {Q} {E} {σ} => i0 B) hW h
