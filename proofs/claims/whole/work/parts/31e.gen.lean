def wX12_good  (Q : Int32 → ab_S → Prop) (E : String → ab_S → Prop) (σ : ab_S) : Prop := ((0 ≤ (σ.2.1 92 44)) → Q (0 : Int32) σ) ∧ (¬ (0 ≤ (σ.2.1 92 44)) → Q (1 : Int32) σ)
set_option maxHeartbeats 4000000 in
set_option maxRecDepth 100000 in
theorem ceX12_good {l : Launch} (hl : l.stackTraces = false) (B : Nat)   {Q : Int32 → ab_S → Prop} {E : String → ab_S → Prop} {σ : ab_S} (hW : Wire σ) (h : wX12_good  Q E σ) : ab_Mt l yX12_good mdX12_good B 0 0 0 0 [.ref 92] σ (fun v σ' => Wire σ' ∧ ∃ r : Int32, v = some (.int r) ∧ Q r σ') (fun X σ' => Wire σ' ∧ E X σ') := by
  refine V_met hl ⟨rfl, rfl, by decide⟩ rfl dkX12_good (Nat.le_of_ble_eq_true rfl) ?_
  show V l mdX12_good B 0 0 0 0 (ab_End _ _) 0 [(0, .ref 92)] [] σ
  refine V_aload_n 0 0 rfl rfl rfl ?_
  refine V_get (v := .int (σ.2.1 92 44)) 1 44 rfl clX12 flX12_284 (by decide) (wsh hW rfl) (fun _ => rfl) ?_
  refine V_if_ge 2 (tgt := 11) rfl (by decide) (fun hc => ?_) (fun hc => ?_)
  · replace h := h.1 hc
    refine V_iconst 5 (v := (0 : Int32)) rfl (by decide) ?_
    exact V_zret 6 rfl rfl rfl ⟨hW, _, rfl, h⟩
  · replace h := h.2 hc
    refine V_pc 7 rfl ?_
    refine V_iconst 3 (v := (1 : Int32)) rfl (by decide) ?_
    refine V_goto 4 (tgt := 12) rfl (by decide) ?_
    exact V_zret 6 rfl rfl rfl ⟨hW, _, rfl, h⟩

def wX12_fail_j16 (a0 : Int32) (Q : ab_S → Prop) (E : String → ab_S → Prop) (y0 : Int32) (σ : ab_S) : Prop := (∀ σ1 : ab_S, σ1 = ab_I σ 92 44 y0 → Q σ1)
def wX12_fail (a0 : Int32) (Q : ab_S → Prop) (E : String → ab_S → Prop) (σ : ab_S) : Prop := ((0 ≤ (σ.2.1 92 44)) → wX12_fail_j16 a0 Q E (σ.2.1 92 44) σ) ∧ (¬ (0 ≤ (σ.2.1 92 44)) → wX12_fail_j16 a0 Q E a0 σ)
set_option maxHeartbeats 4000000 in
set_option maxRecDepth 100000 in
theorem ceX12_fail {l : Launch} (hl : l.stackTraces = false) (B : Nat) {a0 : Int32}  {Q : ab_S → Prop} {E : String → ab_S → Prop} {σ : ab_S} (hW : Wire σ) (h : wX12_fail a0 Q E σ) : ab_Mt l yX12_fail mdX12_fail B 0 0 0 0 [.ref 92, .int a0] σ (fun v σ' => Wire σ' ∧ v = none ∧ Q σ') (fun X σ' => Wire σ' ∧ E X σ') := by
  refine V_met hl ⟨rfl, rfl, by decide⟩ rfl dkX12_fail (Nat.le_of_ble_eq_true rfl) ?_
  show V l mdX12_fail B 0 0 0 0 (ab_End _ _) 0 [(0, .ref 92), (1, .int a0)] [] σ
  revert h hW
  revert σ
  have k_j16 : ∀ (y0 : Int32)  (σ : ab_S), Wire σ → wX12_fail_j16 a0 Q E y0 σ → V l mdX12_fail B 0 0 0 0 (ab_End (fun v σ' => Wire σ' ∧ v = none ∧ Q σ') (fun X σ' => Wire σ' ∧ E X σ')) 16 [] [.int y0, .ref 92] σ := by
    intro y0  σ hW h
    refine V_putI 8 44 rfl clX12 flX12_284 (by decide) (wsh hW rfl) rfl (fun _ _ => rfl) rfl rfl ?_
    refine V_nm (fun σ1 eσ1 => ?_)
    replace h := h σ1 eσ1
    have hW := wire_I eσ1 hW
    exact V_vret 9 rfl rfl ⟨hW, rfl, h⟩
  intro σ hW h
  refine V_aload_n 0 0 rfl rfl rfl ?_
  refine V_aload_n 1 0 rfl rfl rfl ?_
  refine V_get (v := .int (σ.2.1 92 44)) 2 44 rfl clX12 flX12_284 (by decide) (wsh hW rfl) (fun _ => rfl) ?_
  refine V_if_ge 3 (tgt := 12) rfl (by decide) (fun hc => ?_) (fun hc => ?_)
  · replace h := h.1 hc
    refine V_aload_n 6 0 rfl rfl rfl ?_
    refine V_get (v := .int (σ.2.1 92 44)) 7 44 rfl clX12 flX12_284 (by decide) (wsh hW rfl) (fun _ => rfl) ?_
    refine V_sub [] (lv' := []) rfl ?_
    exact k_j16 (σ.2.1 92 44) σ hW h
  · replace h := h.2 hc
    refine V_pc 8 rfl ?_
    refine V_iload_n 4 1 rfl rfl rfl ?_
    refine V_goto 5 (tgt := 16) rfl (by decide) ?_
    refine V_sub [] (lv' := []) rfl ?_
    exact k_j16 a0 σ hW h

def wX12_need_j16 (a0 : Int32) (Q : ab_S → Prop) (E : String → ab_S → Prop)  (σ : ab_S) : Prop := wX12_good (fun u2 σ1 => ((u2 = 0) → Q σ1) ∧ (¬ (u2 = 0) → wX12_advance (fun σ3 => Q σ3) E σ1)) E σ
def wX12_need (a0 : Int32) (Q : ab_S → Prop) (E : String → ab_S → Prop) (σ : ab_S) : Prop := (((σ.2.1 92 40) = a0) → wX12_need_j16 a0 Q E σ) ∧ (¬ ((σ.2.1 92 40) = a0) → wX12_fail (σ.2.1 92 41) (fun σ4 => wX12_need_j16 a0 Q E σ4) E σ)
set_option maxHeartbeats 4000000 in
set_option maxRecDepth 100000 in
theorem ceX12_need {l : Launch} (hl : l.stackTraces = false) (B : Nat) {a0 : Int32}  {Q : ab_S → Prop} {E : String → ab_S → Prop} {σ : ab_S} (hW : Wire σ) (h : wX12_need a0 Q E σ) : ab_Mt l yX12_need mdX12_need B 3 65 0 0 [.ref 92, .int a0] σ (fun v σ' => Wire σ' ∧ v = none ∧ Q σ') (fun X σ' => Wire σ' ∧ E X σ') := by
  refine V_met hl ⟨rfl, rfl, by decide⟩ rfl dkX12_need (Nat.le_of_ble_eq_true rfl) ?_
  show V l mdX12_need B 3 65 0 0 (ab_End _ _) 0 [(0, .ref 92), (1, .int a0)] [] σ
  revert h hW
  revert σ
  have k_j16 : ∀   (σ : ab_S), Wire σ → wX12_need_j16 a0 Q E  σ → V l mdX12_need B 3 65 0 0 (ab_End (fun v σ' => Wire σ' ∧ v = none ∧ Q σ') (fun X σ' => Wire σ' ∧ E X σ')) 16 [(0, .ref 92)] [] σ := by
    intro   σ hW h
    refine V_aload_n 8 0 rfl rfl rfl ?_
    refine V_callV 9 0 (as := []) (rest := []) rfl mlX12_291 yvX12_good rfl rfl clX12 (wsh hW rfl) (by decide) (by decide) (Nat.le_of_ble_eq_true rfl) (by decide) (by decide) (fun B9 => ceX12_good hl B9 hW h) (fun X9 τ9 h9 => VX_out rfl h9) ?_
    rintro v9 σ1 ⟨hW, u2, rfl, h⟩
    refine V_if_eq 10 (tgt := 27) rfl (by decide) (fun hc => ?_) (fun hc => ?_)
    · replace h := h.1 hc
      exact V_vret 13 rfl rfl ⟨hW, rfl, h⟩
    · replace h := h.2 hc
      refine V_pc 23 rfl ?_
      refine V_aload_n 11 0 rfl rfl rfl ?_
      refine V_callV 12 0 (as := []) (rest := []) rfl mlX12_295 yvX12_advance rfl rfl clX12 (wsh hW rfl) (by decide) (by decide) (Nat.le_of_ble_eq_true rfl) (by decide) (by decide) (fun B9 => ceX12_advance hl B9 hW h) (fun X9 τ9 h9 => VX_out rfl h9) ?_
      rintro v9 σ3 ⟨hW, rfl, h⟩
      exact V_vret 13 rfl rfl ⟨hW, rfl, h⟩
  intro σ hW h
  refine V_aload_n 0 0 rfl rfl rfl ?_
  refine V_get (v := .int (σ.2.1 92 40)) 1 40 rfl clX12 flX12_267 (by decide) (wsh hW rfl) (fun _ => rfl) ?_
  refine V_iload_n 2 1 rfl rfl rfl ?_
  refine V_icmp_eq 3 (tgt := 16) rfl (by decide) (fun hc => ?_) (fun hc => ?_)
  · replace h := h.1 hc
    refine V_sub [0] (lv' := [(0, .ref 92)]) rfl ?_
    exact k_j16 σ hW h
  · replace h := h.2 hc
    refine V_pc 8 rfl ?_
    refine V_aload_n 4 0 rfl rfl rfl ?_
    refine V_aload_n 5 0 rfl rfl rfl ?_
    refine V_get (v := .int (σ.2.1 92 41)) 6 41 rfl clX12 flX12_252 (by decide) (wsh hW rfl) (fun _ => rfl) ?_
    refine V_callV 7 1 (as := [.int (σ.2.1 92 41)]) (rest := []) rfl mlX12_287 yvX12_fail rfl rfl clX12 (wsh hW rfl) (by decide) (by decide) (Nat.le_of_ble_eq_true rfl) (by decide) (by decide) (fun B9 => ceX12_fail hl B9 hW h) (fun X9 τ9 h9 => VX_out rfl h9) ?_
    rintro v9 σ4 ⟨hW, rfl, h⟩
    refine V_sub [0] (lv' := [(0, .ref 92)]) rfl ?_
    exact k_j16 σ4 hW h

def wX12_numberHere_l7_b (Q : Int32 → ab_S → Prop) (E : String → ab_S → Prop) (Bk : Int32 → Int32 → ab_S → Prop) (x1 : Int32) (x2 : Int32) (σ : ab_S) : Prop := (((σ.2.1 92 42) ≤ x2) → Q x1 σ) ∧ (¬ ((σ.2.1 92 42) ≤ x2) → vp_in x2 2400 ∧ (∀ v1 : Int32, v1 = ((((10 : Int32) * x1) + (σ.2.1 96 x2.toNatClampNeg)) - (48 : Int32)) → ∀ v2 : Int32, v2 = (x2 + 1) → Bk v1 v2 σ))
def wX12_numberHere_l7 (Q : Int32 → ab_S → Prop) (E : String → ab_S → Prop) : Nat → Int32 → Int32 → ab_S → Prop
  | 0, _, _, _ => False
  | n + 1, x1, x2, σ => wX12_numberHere_l7_b Q E (wX12_numberHere_l7 Q E n) x1 x2 σ
def wX12_numberHere  (Q : Int32 → ab_S → Prop) (E : String → ab_S → Prop) (σ : ab_S) : Prop := ∀ v3 : Int32, v3 = (σ.2.1 92 41) → ∃ n, wX12_numberHere_l7 Q E n (0 : Int32) v3 σ
set_option maxHeartbeats 4000000 in
set_option maxRecDepth 100000 in
theorem ceX12_numberHere {l : Launch} (hl : l.stackTraces = false) (B : Nat)   {Q : Int32 → ab_S → Prop} {E : String → ab_S → Prop} {σ : ab_S} (hW : Wire σ) (h : wX12_numberHere  Q E σ) : ab_Mt l yX12_numberHere mdX12_numberHere B 0 0 0 0 [.ref 92] σ (fun v σ' => Wire σ' ∧ ∃ r : Int32, v = some (.int r) ∧ Q r σ') (fun X σ' => Wire σ' ∧ E X σ') := by
  refine V_met hl ⟨rfl, rfl, by decide⟩ rfl dkX12_numberHere (Nat.le_of_ble_eq_true rfl) ?_
  show V l mdX12_numberHere B 0 0 0 0 (ab_End _ _) 0 [(0, .ref 92)] [] σ
  revert h hW
  revert σ
  have k_l7 : ∀ (n : Nat) (x1 : Int32) (x2 : Int32)  (σ : ab_S), Wire σ → wX12_numberHere_l7 Q E n x1 x2 σ → V l mdX12_numberHere B 0 0 0 0 (ab_End (fun v σ' => Wire σ' ∧ ∃ r : Int32, v = some (.int r) ∧ Q r σ') (fun X σ' => Wire σ' ∧ E X σ')) 7 [(0, .ref 92), (1, .int x1), (2, .int x2)] [] σ := by
    have step : ∀ (Bk : Int32 → Int32 → ab_S → Prop) (k_Bk : ∀ (x1 : Int32) (x2 : Int32)  (σ : ab_S), Wire σ → Bk x1 x2 σ → V l mdX12_numberHere B 0 0 0 0 (ab_End (fun v σ' => Wire σ' ∧ ∃ r : Int32, v = some (.int r) ∧ Q r σ') (fun X σ' => Wire σ' ∧ E X σ')) 7 [(0, .ref 92), (1, .int x1), (2, .int x2)] [] σ), ∀ (x1 : Int32) (x2 : Int32)  (σ : ab_S), Wire σ → wX12_numberHere_l7_b Q E Bk x1 x2 σ → V l mdX12_numberHere B 0 0 0 0 (ab_End (fun v σ' => Wire σ' ∧ ∃ r : Int32, v = some (.int r) ∧ Q r σ') (fun X σ' => Wire σ' ∧ E X σ')) 7 [(0, .ref 92), (1, .int x1), (2, .int x2)] [] σ := by
      intro Bk k_Bk
      intro x1 x2  σ hW h
      refine V_iload_n 5 2 rfl rfl rfl ?_
      refine V_aload_n 6 0 rfl rfl rfl ?_
      refine V_get (v := .int (σ.2.1 92 42)) 7 42 rfl clX12 flX12_255 (by decide) (wsh hW rfl) (fun _ => rfl) ?_
      refine V_icmp_ge 8 (tgt := 36) rfl (by decide) (fun hc => ?_) (fun hc => ?_)
      · replace h := h.1 hc
        refine V_iload_n 22 1 rfl rfl rfl ?_
        exact V_iret 23 rfl rfl ⟨hW, _, rfl, h⟩
      · replace h := h.2 hc
        refine V_pc 15 rfl ?_
        refine V_bipush 9 (v := (10 : Int32)) rfl (by decide) ?_
        refine V_iload_n 10 1 rfl rfl rfl ?_
        refine V_imul 11 rfl ?_
        refine V_aload_n 12 0 rfl rfl rfl ?_
        refine V_getR 13 7 rfl clX12 flX12_20 (by decide) (wsh hW rfl) (fun _ => rfl) (wrf hW 97 rfl) ?_
        refine V_iload_n 14 2 rfl rfl rfl ?_
        refine V_pc 24 rfl ?_
        obtain ⟨hin, h⟩ := h
        refine V_iald 15 rfl (wsh hW rfl) hin ?_
        refine V_iadd 16 rfl ?_
        refine V_bipush 17 (v := (48 : Int32)) rfl (by decide) ?_
        refine V_isub 18 rfl ?_
        refine V_topi (fun v1 ev1 => ?_)
        replace h := h v1 ev1
        refine V_istore_n 19 (lv' := [(1, .int v1), (0, .ref 92), (2, .int x2)]) rfl rfl (by decide) rfl ?_
        obtain ⟨v2, ev2⟩ : ∃ z : Int32, z = (x2 + 1) := ⟨_, rfl⟩
        replace h := h v2 ev2
        refine V_iinc 20 2 (v := v2) (lv' := [(2, .int v2), (1, .int v1), (0, .ref 92)]) rfl rfl ((in_1 _).trans ev2.symm) (by decide) rfl ?_
        refine V_pc 33 rfl ?_
        refine V_goto 21 (tgt := 7) rfl (by decide) ?_
        refine V_sub [2, 1, 0] (lv' := [(0, .ref 92), (1, .int v1), (2, .int v2)]) rfl ?_
        exact k_Bk v1 v2  σ hW h
    intro n
    induction n with
    | zero => intro x1 x2  σ hW h; exact absurd h id
    | succ n ih => exact step  _ ih
  intro σ hW h
  refine V_iconst 0 (v := (0 : Int32)) rfl (by decide) ?_
  refine V_istore_n 1 (lv' := [(1, .int (0 : Int32)), (0, .ref 92)]) rfl rfl (by decide) rfl ?_
  refine V_aload_n 2 1 rfl rfl rfl ?_
  refine V_get (v := .int (σ.2.1 92 41)) 3 41 rfl clX12 flX12_252 (by decide) (wsh hW rfl) (fun _ => rfl) ?_
  refine V_topi (fun v3 ev3 => ?_)
  replace h := h v3 ev3
  refine V_istore_n 4 (lv' := [(2, .int v3), (1, .int (0 : Int32)), (0, .ref 92)]) rfl rfl (by decide) rfl ?_
  refine V_sub [2, 1, 0] (lv' := [(0, .ref 92), (1, .int (0 : Int32)), (2, .int v3)]) rfl ?_
  obtain ⟨n, h⟩ := h
  exact k_l7 n (0 : Int32) v3 σ hW h

def wX12_find_j115 (a0 : Nat) (a0n : Nat) (a1 : Int32) (a2 : Int32) (Q : Int32 → ab_S → Prop) (E : String → ab_S → Prop) (Bk : Int32 → Int32 → ab_S → Prop) (x5 : Int32) (y0 : Int32) (σ : ab_S) : Prop := ∀ v1 : Int32, v1 = (x5 + 1) → Bk y0 v1 σ
def wX12_find_j103 (a0 : Nat) (a0n : Nat) (a1 : Int32) (a2 : Int32) (Q : Int32 → ab_S → Prop) (E : String → ab_S → Prop) (Bk : Int32 → Int32 → ab_S → Prop) (x4 : Int32) (x5 : Int32) (x6 : Int32) (σ : ab_S) : Prop := ((x6 = 0) → wX12_find_j115 a0 a0n a1 a2 Q E Bk x5 x4 σ) ∧ (¬ (x6 = 0) → wX12_find_j115 a0 a0n a1 a2 Q E Bk x5 x5 σ)
def wX12_find_j95 (a0 : Nat) (a0n : Nat) (a1 : Int32) (a2 : Int32) (Q : Int32 → ab_S → Prop) (E : String → ab_S → Prop) (K103 : Int32 → Int32 → Int32 → ab_S → Prop) (Bk : Int32 → Int32 → Int32 → Int32 → ab_S → Prop) (x4 : Int32) (x5 : Int32) (x7 : Int32) (y0 : Int32) (σ : ab_S) : Prop := ∀ v2 : Int32, v2 = (x7 + 1) → Bk x4 x5 y0 v2 σ
def wX12_find_j94 (a0 : Nat) (a0n : Nat) (a1 : Int32) (a2 : Int32) (Q : Int32 → ab_S → Prop) (E : String → ab_S → Prop) (K103 : Int32 → Int32 → Int32 → ab_S → Prop) (Bk : Int32 → Int32 → Int32 → Int32 → ab_S → Prop) (x4 : Int32) (x5 : Int32) (x7 : Int32) (σ : ab_S) : Prop := wX12_find_j95 a0 a0n a1 a2 Q E K103 Bk x4 x5 x7 (0 : Int32) σ
def wX12_find_j87 (a0 : Nat) (a0n : Nat) (a1 : Int32) (a2 : Int32) (Q : Int32 → ab_S → Prop) (E : String → ab_S → Prop) (K103 : Int32 → Int32 → Int32 → ab_S → Prop) (Bk : Int32 → Int32 → Int32 → Int32 → ab_S → Prop) (x4 : Int32) (x5 : Int32) (x7 : Int32) (y0 : Int32) (y1 : Int32) (σ : ab_S) : Prop := ((¬ y1 = y0) → wX12_find_j94 a0 a0n a1 a2 Q E K103 Bk x4 x5 x7 σ) ∧ (¬ (¬ y1 = y0) → wX12_find_j95 a0 a0n a1 a2 Q E K103 Bk x4 x5 x7 (1 : Int32) σ)
def wX12_find_l33_b (a0 : Nat) (a0n : Nat) (a1 : Int32) (a2 : Int32) (Q : Int32 → ab_S → Prop) (E : String → ab_S → Prop) (K103 : Int32 → Int32 → Int32 → ab_S → Prop) (Bk : Int32 → Int32 → Int32 → Int32 → ab_S → Prop) (x4 : Int32) (x5 : Int32) (x6 : Int32) (x7 : Int32) (σ : ab_S) : Prop := (((8 : Int32) ≤ x7) → K103 x4 x5 x6 σ) ∧ (¬ ((8 : Int32) ≤ x7) → ((x6 = 0) → wX12_find_j94 a0 a0n a1 a2 Q E K103 Bk x4 x5 x7 σ) ∧ (¬ (x6 = 0) → vp_in ((a1 + ((8 : Int32) * x5)) + x7) a0n ∧ ((((σ.2.1 92 42) ≤ ((σ.2.1 92 41) + x7)) → wX12_find_j87 a0 a0n a1 a2 Q E K103 Bk x4 x5 x7 (0 : Int32) (σ.2.1 a0 ((a1 + ((8 : Int32) * x5)) + x7).toNatClampNeg) σ) ∧ (¬ ((σ.2.1 92 42) ≤ ((σ.2.1 92 41) + x7)) → vp_in ((σ.2.1 92 41) + x7) 2400 ∧ (wX12_find_j87 a0 a0n a1 a2 Q E K103 Bk x4 x5 x7 (σ.2.1 96 ((σ.2.1 92 41) + x7).toNatClampNeg) (σ.2.1 a0 ((a1 + ((8 : Int32) * x5)) + x7).toNatClampNeg) σ)))))
def wX12_find_l33 (a0 : Nat) (a0n : Nat) (a1 : Int32) (a2 : Int32) (Q : Int32 → ab_S → Prop) (E : String → ab_S → Prop) (K103 : Int32 → Int32 → Int32 → ab_S → Prop) : Nat → Int32 → Int32 → Int32 → Int32 → ab_S → Prop
  | 0, _, _, _, _, _ => False
  | n + 1, x4, x5, x6, x7, σ => wX12_find_l33_b a0 a0n a1 a2 Q E K103 (wX12_find_l33 a0 a0n a1 a2 Q E K103 n) x4 x5 x6 x7 σ
def wX12_find_l6_b (a0 : Nat) (a0n : Nat) (a1 : Int32) (a2 : Int32) (Q : Int32 → ab_S → Prop) (E : String → ab_S → Prop) (Bk : Int32 → Int32 → ab_S → Prop) (x4 : Int32) (x5 : Int32) (σ : ab_S) : Prop := ((a2 ≤ x5) → Q x4 σ) ∧ (¬ (a2 ≤ x5) → ((¬ (σ.2.1 92 40) = (1 : Int32)) → Q x4 σ) ∧ (¬ (¬ (σ.2.1 92 40) = (1 : Int32)) → ((¬ (σ.2.1 92 43) = 0) → Q x4 σ) ∧ (¬ (¬ (σ.2.1 92 43) = 0) → ∃ n, wX12_find_l33 a0 a0n a1 a2 Q E (wX12_find_j103 a0 a0n a1 a2 Q E Bk) n x4 x5 (1 : Int32) (0 : Int32) σ)))
def wX12_find_l6 (a0 : Nat) (a0n : Nat) (a1 : Int32) (a2 : Int32) (Q : Int32 → ab_S → Prop) (E : String → ab_S → Prop) : Nat → Int32 → Int32 → ab_S → Prop
  | 0, _, _, _ => False
  | n + 1, x4, x5, σ => wX12_find_l6_b a0 a0n a1 a2 Q E (wX12_find_l6 a0 a0n a1 a2 Q E n) x4 x5 σ
def wX12_find (a0 : Nat) (a0n : Nat) (a1 : Int32) (a2 : Int32) (Q : Int32 → ab_S → Prop) (E : String → ab_S → Prop) (σ : ab_S) : Prop := ∃ n, wX12_find_l6 a0 a0n a1 a2 Q E n (-1 : Int32) (0 : Int32) σ
set_option maxHeartbeats 4000000 in
set_option maxRecDepth 100000 in
theorem ceX12_find {l : Launch} (hl : l.stackTraces = false) (B : Nat) {a0 : Nat} {a0n : Nat} {a1 : Int32} {a2 : Int32} (ha0 : SH[a0]? = some (20, a0n)) {Q : Int32 → ab_S → Prop} {E : String → ab_S → Prop} {σ : ab_S} (hW : Wire σ) (h : wX12_find a0 a0n a1 a2 Q E σ) : ab_Mt l yX12_find mdX12_find B 0 0 0 0 [.ref 92, .ref a0, .int a1, .int a2] σ (fun v σ' => Wire σ' ∧ ∃ r : Int32, v = some (.int r) ∧ Q r σ') (fun X σ' => Wire σ' ∧ E X σ') := by
  refine V_met hl ⟨rfl, rfl, by decide⟩ rfl dkX12_find (Nat.le_of_ble_eq_true rfl) ?_
  show V l mdX12_find B 0 0 0 0 (ab_End _ _) 0 [(0, .ref 92), (1, .ref a0), (2, .int a1), (3, .int a2)] [] σ
  revert h hW
  revert σ
  have k_l6 : ∀ (n : Nat) (x4 : Int32) (x5 : Int32)  (σ : ab_S), Wire σ → wX12_find_l6 a0 a0n a1 a2 Q E n x4 x5 σ → V l mdX12_find B 0 0 0 0 (ab_End (fun v σ' => Wire σ' ∧ ∃ r : Int32, v = some (.int r) ∧ Q r σ') (fun X σ' => Wire σ' ∧ E X σ')) 6 [(0, .ref 92), (1, .ref a0), (2, .int a1), (3, .int a2), (4, .int x4), (5, .int x5)] [] σ := by
    have step : ∀ (Bk : Int32 → Int32 → ab_S → Prop) (k_Bk : ∀ (x4 : Int32) (x5 : Int32)  (σ : ab_S), Wire σ → Bk x4 x5 σ → V l mdX12_find B 0 0 0 0 (ab_End (fun v σ' => Wire σ' ∧ ∃ r : Int32, v = some (.int r) ∧ Q r σ') (fun X σ' => Wire σ' ∧ E X σ')) 6 [(0, .ref 92), (1, .ref a0), (2, .int a1), (3, .int a2), (4, .int x4), (5, .int x5)] [] σ), ∀ (x4 : Int32) (x5 : Int32)  (σ : ab_S), Wire σ → wX12_find_l6_b a0 a0n a1 a2 Q E Bk x4 x5 σ → V l mdX12_find B 0 0 0 0 (ab_End (fun v σ' => Wire σ' ∧ ∃ r : Int32, v = some (.int r) ∧ Q r σ') (fun X σ' => Wire σ' ∧ E X σ')) 6 [(0, .ref 92), (1, .ref a0), (2, .int a1), (3, .int a2), (4, .int x4), (5, .int x5)] [] σ := by
      intro Bk k_Bk
      have k_j115 : ∀ (x5 : Int32) (y0 : Int32)  (σ : ab_S), Wire σ → wX12_find_j115 a0 a0n a1 a2 Q E Bk x5 y0 σ → V l mdX12_find B 0 0 0 0 (ab_End (fun v σ' => Wire σ' ∧ ∃ r : Int32, v = some (.int r) ∧ Q r σ') (fun X σ' => Wire σ' ∧ E X σ')) 115 [(0, .ref 92), (1, .ref a0), (2, .int a1), (3, .int a2), (5, .int x5)] [.int y0] σ := by
        intro x5 y0  σ hW h
        refine V_istore 60 (lv' := [(4, .int y0), (0, .ref 92), (1, .ref a0), (2, .int a1), (3, .int a2), (5, .int x5)]) rfl (by decide) rfl ?_
        obtain ⟨v1, ev1⟩ : ∃ z : Int32, z = (x5 + 1) := ⟨_, rfl⟩
        replace h := h v1 ev1
        refine V_iinc 61 5 (v := v1) (lv' := [(5, .int v1), (4, .int y0), (0, .ref 92), (1, .ref a0), (2, .int a1), (3, .int a2)]) rfl rfl ((in_1 _).trans ev1.symm) (by decide) rfl ?_
        refine V_goto 62 (tgt := 6) rfl (by decide) ?_
        refine V_sub [2, 3, 4, 5, 1, 0] (lv' := [(0, .ref 92), (1, .ref a0), (2, .int a1), (3, .int a2), (4, .int y0), (5, .int v1)]) rfl ?_
        exact k_Bk y0 v1  σ hW h
      have k_j103 : ∀ (x4 : Int32) (x5 : Int32) (x6 : Int32)  (σ : ab_S), Wire σ → wX12_find_j103 a0 a0n a1 a2 Q E Bk x4 x5 x6 σ → V l mdX12_find B 0 0 0 0 (ab_End (fun v σ' => Wire σ' ∧ ∃ r : Int32, v = some (.int r) ∧ Q r σ') (fun X σ' => Wire σ' ∧ E X σ')) 103 [(0, .ref 92), (1, .ref a0), (2, .int a1), (3, .int a2), (4, .int x4), (5, .int x5), (6, .int x6)] [] σ := by
        intro x4 x5 x6  σ hW h
        refine V_iload 55 6 rfl rfl ?_
        refine V_if_eq 56 (tgt := 113) rfl (by decide) (fun hc => ?_) (fun hc => ?_)
        · replace h := h.1 hc
          refine V_iload 59 4 rfl rfl ?_
          refine V_sub [0, 1, 2, 3, 5] (lv' := [(0, .ref 92), (1, .ref a0), (2, .int a1), (3, .int a2), (5, .int x5)]) rfl ?_
          exact k_j115 x5 x4 σ hW h
        · replace h := h.2 hc
          refine V_pc 108 rfl ?_
          refine V_iload 57 5 rfl rfl ?_
          refine V_goto 58 (tgt := 115) rfl (by decide) ?_
          refine V_sub [0, 1, 2, 3, 5] (lv' := [(0, .ref 92), (1, .ref a0), (2, .int a1), (3, .int a2), (5, .int x5)]) rfl ?_
          exact k_j115 x5 x5 σ hW h
      have k_l33 : ∀ (n : Nat) (x4 : Int32) (x5 : Int32) (x6 : Int32) (x7 : Int32)  (σ : ab_S), Wire σ → wX12_find_l33 a0 a0n a1 a2 Q E (wX12_find_j103 a0 a0n a1 a2 Q E Bk) n x4 x5 x6 x7 σ → V l mdX12_find B 0 0 0 0 (ab_End (fun v σ' => Wire σ' ∧ ∃ r : Int32, v = some (.int r) ∧ Q r σ') (fun X σ' => Wire σ' ∧ E X σ')) 33 [(0, .ref 92), (1, .ref a0), (2, .int a1), (3, .int a2), (4, .int x4), (5, .int x5), (6, .int x6), (7, .int x7)] [] σ := by
        have step : ∀ (K103 : Int32 → Int32 → Int32 → ab_S → Prop) (k_K103 : ∀ (x4 : Int32) (x5 : Int32) (x6 : Int32)  (σ : ab_S), Wire σ → K103 x4 x5 x6 σ → V l mdX12_find B 0 0 0 0 (ab_End (fun v σ' => Wire σ' ∧ ∃ r : Int32, v = some (.int r) ∧ Q r σ') (fun X σ' => Wire σ' ∧ E X σ')) 103 [(0, .ref 92), (1, .ref a0), (2, .int a1), (3, .int a2), (4, .int x4), (5, .int x5), (6, .int x6)] [] σ), ∀ (Bk : Int32 → Int32 → Int32 → Int32 → ab_S → Prop) (k_Bk : ∀ (x4 : Int32) (x5 : Int32) (x6 : Int32) (x7 : Int32)  (σ : ab_S), Wire σ → Bk x4 x5 x6 x7 σ → V l mdX12_find B 0 0 0 0 (ab_End (fun v σ' => Wire σ' ∧ ∃ r : Int32, v = some (.int r) ∧ Q r σ') (fun X σ' => Wire σ' ∧ E X σ')) 33 [(0, .ref 92), (1, .ref a0), (2, .int a1), (3, .int a2), (4, .int x4), (5, .int x5), (6, .int x6), (7, .int x7)] [] σ), ∀ (x4 : Int32) (x5 : Int32) (x6 : Int32) (x7 : Int32)  (σ : ab_S), Wire σ → wX12_find_l33_b a0 a0n a1 a2 Q E K103 Bk x4 x5 x6 x7 σ → V l mdX12_find B 0 0 0 0 (ab_End (fun v σ' => Wire σ' ∧ ∃ r : Int32, v = some (.int r) ∧ Q r σ') (fun X σ' => Wire σ' ∧ E X σ')) 33 [(0, .ref 92), (1, .ref a0), (2, .int a1), (3, .int a2), (4, .int x4), (5, .int x5), (6, .int x6), (7, .int x7)] [] σ := by
          intro K103 k_K103 Bk k_Bk
          have k_j95 : ∀ (x4 : Int32) (x5 : Int32) (x7 : Int32) (y0 : Int32)  (σ : ab_S), Wire σ → wX12_find_j95 a0 a0n a1 a2 Q E K103 Bk x4 x5 x7 y0 σ → V l mdX12_find B 0 0 0 0 (ab_End (fun v σ' => Wire σ' ∧ ∃ r : Int32, v = some (.int r) ∧ Q r σ') (fun X σ' => Wire σ' ∧ E X σ')) 95 [(0, .ref 92), (1, .ref a0), (2, .int a1), (3, .int a2), (4, .int x4), (5, .int x5), (7, .int x7)] [.int y0] σ := by
            intro x4 x5 x7 y0  σ hW h
            refine V_istore 52 (lv' := [(6, .int y0), (0, .ref 92), (1, .ref a0), (2, .int a1), (3, .int a2), (4, .int x4), (5, .int x5), (7, .int x7)]) rfl (by decide) rfl ?_
            obtain ⟨v2, ev2⟩ : ∃ z : Int32, z = (x7 + 1) := ⟨_, rfl⟩
            replace h := h v2 ev2
            refine V_iinc 53 7 (v := v2) (lv' := [(7, .int v2), (6, .int y0), (0, .ref 92), (1, .ref a0), (2, .int a1), (3, .int a2), (4, .int x4), (5, .int x5)]) rfl rfl ((in_1 _).trans ev2.symm) (by decide) rfl ?_
            refine V_goto 54 (tgt := 33) rfl (by decide) ?_
            refine V_sub [2, 3, 4, 5, 6, 7, 1, 0] (lv' := [(0, .ref 92), (1, .ref a0), (2, .int a1), (3, .int a2), (4, .int x4), (5, .int x5), (6, .int y0), (7, .int v2)]) rfl ?_
            exact k_Bk x4 x5 y0 v2  σ hW h
          have k_j94 : ∀ (x4 : Int32) (x5 : Int32) (x7 : Int32)  (σ : ab_S), Wire σ → wX12_find_j94 a0 a0n a1 a2 Q E K103 Bk x4 x5 x7 σ → V l mdX12_find B 0 0 0 0 (ab_End (fun v σ' => Wire σ' ∧ ∃ r : Int32, v = some (.int r) ∧ Q r σ') (fun X σ' => Wire σ' ∧ E X σ')) 94 [(0, .ref 92), (1, .ref a0), (2, .int a1), (3, .int a2), (4, .int x4), (5, .int x5), (7, .int x7)] [] σ := by
            intro x4 x5 x7  σ hW h
            refine V_iconst 51 (v := (0 : Int32)) rfl (by decide) ?_
            exact k_j95 x4 x5 x7 (0 : Int32) σ hW h
          have k_j87 : ∀ (x4 : Int32) (x5 : Int32) (x7 : Int32) (y0 : Int32) (y1 : Int32)  (σ : ab_S), Wire σ → wX12_find_j87 a0 a0n a1 a2 Q E K103 Bk x4 x5 x7 y0 y1 σ → V l mdX12_find B 0 0 0 0 (ab_End (fun v σ' => Wire σ' ∧ ∃ r : Int32, v = some (.int r) ∧ Q r σ') (fun X σ' => Wire σ' ∧ E X σ')) 87 [(0, .ref 92), (1, .ref a0), (2, .int a1), (3, .int a2), (4, .int x4), (5, .int x5), (7, .int x7)] [.int y0, .int y1] σ := by
            intro x4 x5 x7 y0 y1  σ hW h
            refine V_icmp_ne 48 (tgt := 94) rfl (by decide) (fun hc => ?_) (fun hc => ?_)
            · replace h := h.1 hc
              exact k_j94 x4 x5 x7 σ hW h
            · replace h := h.2 hc
              refine V_pc 90 rfl ?_
              refine V_iconst 49 (v := (1 : Int32)) rfl (by decide) ?_
              refine V_goto 50 (tgt := 95) rfl (by decide) ?_
              exact k_j95 x4 x5 x7 (1 : Int32) σ hW h
          intro x4 x5 x6 x7  σ hW h
          refine V_iload 18 7 rfl rfl ?_
          refine V_bipush 19 (v := (8 : Int32)) rfl (by decide) ?_
          refine V_icmp_ge 20 (tgt := 103) rfl (by decide) (fun hc => ?_) (fun hc => ?_)
          · replace h := h.1 hc
            refine V_sub [0, 1, 2, 3, 4, 5, 6] (lv' := [(0, .ref 92), (1, .ref a0), (2, .int a1), (3, .int a2), (4, .int x4), (5, .int x5), (6, .int x6)]) rfl ?_
            exact k_K103 x4 x5 x6  σ hW h
          · replace h := h.2 hc
            refine V_pc 40 rfl ?_
            refine V_iload 21 6 rfl rfl ?_
            refine V_if_eq 22 (tgt := 94) rfl (by decide) (fun hc => ?_) (fun hc => ?_)
            · replace h := h.1 hc
              refine V_sub [0, 1, 2, 3, 4, 5, 7] (lv' := [(0, .ref 92), (1, .ref a0), (2, .int a1), (3, .int a2), (4, .int x4), (5, .int x5), (7, .int x7)]) rfl ?_
              exact k_j94 x4 x5 x7 σ hW h
            · replace h := h.2 hc
              refine V_pc 45 rfl ?_
              refine V_aload_n 23 1 rfl rfl rfl ?_
              refine V_iload_n 24 2 rfl rfl rfl ?_
              refine V_bipush 25 (v := (8 : Int32)) rfl (by decide) ?_
              refine V_iload 26 5 rfl rfl ?_
              refine V_imul 27 rfl ?_
              refine V_iadd 28 rfl ?_
              refine V_pc 53 rfl ?_
              refine V_iload 29 7 rfl rfl ?_
              refine V_iadd 30 rfl ?_
              obtain ⟨hin, h⟩ := h
              refine V_iald 31 rfl (wsh hW ha0) hin ?_
              refine V_aload_n 32 0 rfl rfl rfl ?_
              refine V_get (v := .int (σ.2.1 92 41)) 33 41 rfl clX12 flX12_252 (by decide) (wsh hW rfl) (fun _ => rfl) ?_
              refine V_iload 34 7 rfl rfl ?_
              refine V_pc 63 rfl ?_
              refine V_iadd 35 rfl ?_
              refine V_aload_n 36 0 rfl rfl rfl ?_
              refine V_get (v := .int (σ.2.1 92 42)) 37 42 rfl clX12 flX12_255 (by decide) (wsh hW rfl) (fun _ => rfl) ?_
              refine V_icmp_ge 38 (tgt := 86) rfl (by decide) (fun hc => ?_) (fun hc => ?_)
              · replace h := h.1 hc
                refine V_iconst 47 (v := (0 : Int32)) rfl (by decide) ?_
                refine V_sub [0, 1, 2, 3, 4, 5, 7] (lv' := [(0, .ref 92), (1, .ref a0), (2, .int a1), (3, .int a2), (4, .int x4), (5, .int x5), (7, .int x7)]) rfl ?_
                exact k_j87 x4 x5 x7 (0 : Int32) (σ.2.1 a0 ((a1 + ((8 : Int32) * x5)) + x7).toNatClampNeg) σ hW h
              · replace h := h.2 hc
                refine V_pc 71 rfl ?_
                refine V_aload_n 39 0 rfl rfl rfl ?_
                refine V_getR 40 7 rfl clX12 flX12_20 (by decide) (wsh hW rfl) (fun _ => rfl) (wrf hW 97 rfl) ?_
                refine V_aload_n 41 0 rfl rfl rfl ?_
                refine V_get (v := .int (σ.2.1 92 41)) 42 41 rfl clX12 flX12_252 (by decide) (wsh hW rfl) (fun _ => rfl) ?_
                refine V_iload 43 7 rfl rfl ?_
                refine V_iadd 44 rfl ?_
                refine V_pc 82 rfl ?_
                obtain ⟨hin, h⟩ := h
                refine V_iald 45 rfl (wsh hW rfl) hin ?_
                refine V_goto 46 (tgt := 87) rfl (by decide) ?_
                refine V_sub [0, 1, 2, 3, 4, 5, 7] (lv' := [(0, .ref 92), (1, .ref a0), (2, .int a1), (3, .int a2), (4, .int x4), (5, .int x5), (7, .int x7)]) rfl ?_
                exact k_j87 x4 x5 x7 (σ.2.1 96 ((σ.2.1 92 41) + x7).toNatClampNeg) (σ.2.1 a0 ((a1 + ((8 : Int32) * x5)) + x7).toNatClampNeg) σ hW h
        intro n
        induction n with
        | zero => intro x4 x5 x6 x7  σ hW h; exact absurd h id
        | succ n ih => exact step _ k_j103 _ ih
      intro x4 x5  σ hW h
      refine V_iload 4 5 rfl rfl ?_
      refine V_iload_n 5 3 rfl rfl rfl ?_
      refine V_icmp_ge 6 (tgt := 123) rfl (by decide) (fun hc => ?_) (fun hc => ?_)
      · replace h := h.1 hc
        refine V_iload 63 4 rfl rfl ?_
        exact V_iret 64 rfl rfl ⟨hW, _, rfl, h⟩
      · replace h := h.2 hc
        refine V_pc 12 rfl ?_
        refine V_aload_n 7 0 rfl rfl rfl ?_
        refine V_get (v := .int (σ.2.1 92 40)) 8 40 rfl clX12 flX12_267 (by decide) (wsh hW rfl) (fun _ => rfl) ?_
        refine V_iconst 9 (v := (1 : Int32)) rfl (by decide) ?_
        refine V_icmp_ne 10 (tgt := 123) rfl (by decide) (fun hc => ?_) (fun hc => ?_)
        · replace h := h.1 hc
          refine V_iload 63 4 rfl rfl ?_
          exact V_iret 64 rfl rfl ⟨hW, _, rfl, h⟩
        · replace h := h.2 hc
          refine V_pc 20 rfl ?_
          refine V_aload_n 11 0 rfl rfl rfl ?_
          refine V_get (v := .int (σ.2.1 92 43)) 12 43 rfl clX12 flX12_264 (by decide) (wsh hW rfl) (fun _ => rfl) ?_
          refine V_if_ne 13 (tgt := 123) rfl (by decide) (fun hc => ?_) (fun hc => ?_)
          · replace h := h.1 hc
            refine V_iload 63 4 rfl rfl ?_
            exact V_iret 64 rfl rfl ⟨hW, _, rfl, h⟩
          · replace h := h.2 hc
            refine V_pc 27 rfl ?_
            refine V_iconst 14 (v := (1 : Int32)) rfl (by decide) ?_
            refine V_istore 15 (lv' := [(6, .int (1 : Int32)), (0, .ref 92), (1, .ref a0), (2, .int a1), (3, .int a2), (4, .int x4), (5, .int x5)]) rfl (by decide) rfl ?_
            refine V_iconst 16 (v := (0 : Int32)) rfl (by decide) ?_
            refine V_istore 17 (lv' := [(7, .int (0 : Int32)), (6, .int (1 : Int32)), (0, .ref 92), (1, .ref a0), (2, .int a1), (3, .int a2), (4, .int x4), (5, .int x5)]) rfl (by decide) rfl ?_
            refine V_sub [2, 3, 4, 5, 6, 7, 1, 0] (lv' := [(0, .ref 92), (1, .ref a0), (2, .int a1), (3, .int a2), (4, .int x4), (5, .int x5), (6, .int (1 : Int32)), (7, .int (0 : Int32))]) rfl ?_
            obtain ⟨n, h⟩ := h
            exact k_l33 n x4 x5 (1 : Int32) (0 : Int32) σ hW h
    intro n
    induction n with
    | zero => intro x4 x5  σ hW h; exact absurd h id
    | succ n ih => exact step  _ ih
  intro σ hW h
  refine V_iconst 0 (v := (-1 : Int32)) rfl (by decide) ?_
  refine V_istore 1 (lv' := [(4, .int (-1 : Int32)), (0, .ref 92), (1, .ref a0), (2, .int a1), (3, .int a2)]) rfl (by decide) rfl ?_
  refine V_iconst 2 (v := (0 : Int32)) rfl (by decide) ?_
  refine V_istore 3 (lv' := [(5, .int (0 : Int32)), (4, .int (-1 : Int32)), (0, .ref 92), (1, .ref a0), (2, .int a1), (3, .int a2)]) rfl (by decide) rfl ?_
  refine V_sub [2, 3, 4, 5, 1, 0] (lv' := [(0, .ref 92), (1, .ref a0), (2, .int a1), (3, .int a2), (4, .int (-1 : Int32)), (5, .int (0 : Int32))]) rfl ?_
  obtain ⟨n, h⟩ := h
  exact k_l6 n (-1 : Int32) (0 : Int32) σ hW h

def wX12_declare_j25 (a0 : Nat) (a0n : Nat) (a1 : Int32) (a2 : Int32) (Q : ab_S → Prop) (E : String → ab_S → Prop)  (σ : ab_S) : Prop := wX12_fail (σ.2.1 92 41) (fun σ1 => Q σ1) E σ
def wX12_declare_j91 (a0 : Nat) (a0n : Nat) (a1 : Int32) (a2 : Int32) (Q : ab_S → Prop) (E : String → ab_S → Prop)  (σ : ab_S) : Prop := wX12_advance (fun σ2 => Q σ2) E σ
def wX12_declare_j84 (a0 : Nat) (a0n : Nat) (a1 : Int32) (a2 : Int32) (Q : ab_S → Prop) (E : String → ab_S → Prop) (K91 : ab_S → Prop) (Bk : Int32 → ab_S → Prop) (x4 : Int32) (y0 : Int32) (y1 : Int32) (σ : ab_S) : Prop := vp_in y1 a0n ∧ (∀ σ3 : ab_S, σ3 = ab_I σ a0 y1.toNatClampNeg y0 → ∀ v4 : Int32, v4 = (x4 + 1) → Bk v4 σ3)
def wX12_declare_l37_b (a0 : Nat) (a0n : Nat) (a1 : Int32) (a2 : Int32) (Q : ab_S → Prop) (E : String → ab_S → Prop) (K91 : ab_S → Prop) (Bk : Int32 → ab_S → Prop) (x4 : Int32) (σ : ab_S) : Prop := (((8 : Int32) ≤ x4) → K91 σ) ∧ (¬ ((8 : Int32) ≤ x4) → (((σ.2.1 92 42) ≤ ((σ.2.1 92 41) + x4)) → wX12_declare_j84 a0 a0n a1 a2 Q E K91 Bk x4 (0 : Int32) ((a1 + ((8 : Int32) * a2)) + x4) σ) ∧ (¬ ((σ.2.1 92 42) ≤ ((σ.2.1 92 41) + x4)) → vp_in ((σ.2.1 92 41) + x4) 2400 ∧ (wX12_declare_j84 a0 a0n a1 a2 Q E K91 Bk x4 (σ.2.1 96 ((σ.2.1 92 41) + x4).toNatClampNeg) ((a1 + ((8 : Int32) * a2)) + x4) σ)))
def wX12_declare_l37 (a0 : Nat) (a0n : Nat) (a1 : Int32) (a2 : Int32) (Q : ab_S → Prop) (E : String → ab_S → Prop) (K91 : ab_S → Prop) : Nat → Int32 → ab_S → Prop
  | 0, _, _ => False
  | n + 1, x4, σ => wX12_declare_l37_b a0 a0n a1 a2 Q E K91 (wX12_declare_l37 a0 a0n a1 a2 Q E K91 n) x4 σ
def wX12_declare (a0 : Nat) (a0n : Nat) (a1 : Int32) (a2 : Int32) (Q : ab_S → Prop) (E : String → ab_S → Prop) (σ : ab_S) : Prop := ((¬ (σ.2.1 92 40) = (1 : Int32)) → wX12_declare_j25 a0 a0n a1 a2 Q E σ) ∧ (¬ (¬ (σ.2.1 92 40) = (1 : Int32)) → ((0 < (σ.2.1 92 43)) → wX12_declare_j25 a0 a0n a1 a2 Q E σ) ∧ (¬ (0 < (σ.2.1 92 43)) → wX12_find a0 a0n a1 a2 (fun u6 σ5 => ((u6 < 0) → ∃ n, wX12_declare_l37 a0 a0n a1 a2 Q E (wX12_declare_j91 a0 a0n a1 a2 Q E) n (0 : Int32) σ5) ∧ (¬ (u6 < 0) → wX12_declare_j25 a0 a0n a1 a2 Q E σ5)) E σ))
set_option maxHeartbeats 4000000 in
set_option maxRecDepth 100000 in
theorem ceX12_declare {l : Launch} (hl : l.stackTraces = false) (B : Nat) {a0 : Nat} {a0n : Nat} {a1 : Int32} {a2 : Int32} (ha0 : SH[a0]? = some (20, a0n)) {Q : ab_S → Prop} {E : String → ab_S → Prop} {σ : ab_S} (hW : Wire σ) (h : wX12_declare a0 a0n a1 a2 Q E σ) : ab_Mt l yX12_declare mdX12_declare B 3 65 0 0 [.ref 92, .ref a0, .int a1, .int a2] σ (fun v σ' => Wire σ' ∧ v = none ∧ Q σ') (fun X σ' => Wire σ' ∧ E X σ') := by
  refine V_met hl ⟨rfl, rfl, by decide⟩ rfl dkX12_declare (Nat.le_of_ble_eq_true rfl) ?_
  show V l mdX12_declare B 3 65 0 0 (ab_End _ _) 0 [(0, .ref 92), (1, .ref a0), (2, .int a1), (3, .int a2)] [] σ
  revert h hW
  revert σ
  have k_j25 : ∀   (σ : ab_S), Wire σ → wX12_declare_j25 a0 a0n a1 a2 Q E  σ → V l mdX12_declare B 3 65 0 0 (ab_End (fun v σ' => Wire σ' ∧ v = none ∧ Q σ') (fun X σ' => Wire σ' ∧ E X σ')) 25 [(0, .ref 92)] [] σ := by
    intro   σ hW h
    refine V_aload_n 13 0 rfl rfl rfl ?_
    refine V_aload_n 14 0 rfl rfl rfl ?_
    refine V_get (v := .int (σ.2.1 92 41)) 15 41 rfl clX12 flX12_252 (by decide) (wsh hW rfl) (fun _ => rfl) ?_
    refine V_callV 16 1 (as := [.int (σ.2.1 92 41)]) (rest := []) rfl mlX12_287 yvX12_fail rfl rfl clX12 (wsh hW rfl) (by decide) (by decide) (Nat.le_of_ble_eq_true rfl) (by decide) (by decide) (fun B9 => ceX12_fail hl B9 hW h) (fun X9 τ9 h9 => VX_out rfl h9) ?_
    rintro v9 σ1 ⟨hW, rfl, h⟩
    exact V_vret 17 rfl rfl ⟨hW, rfl, h⟩
  have k_j91 : ∀   (σ : ab_S), Wire σ → wX12_declare_j91 a0 a0n a1 a2 Q E  σ → V l mdX12_declare B 3 65 0 0 (ab_End (fun v σ' => Wire σ' ∧ v = none ∧ Q σ') (fun X σ' => Wire σ' ∧ E X σ')) 91 [(0, .ref 92)] [] σ := by
    intro   σ hW h
    refine V_aload_n 50 0 rfl rfl rfl ?_
    refine V_callV 51 0 (as := []) (rest := []) rfl mlX12_295 yvX12_advance rfl rfl clX12 (wsh hW rfl) (by decide) (by decide) (Nat.le_of_ble_eq_true rfl) (by decide) (by decide) (fun B9 => ceX12_advance hl B9 hW h) (fun X9 τ9 h9 => VX_out rfl h9) ?_
    rintro v9 σ2 ⟨hW, rfl, h⟩
    exact V_vret 52 rfl rfl ⟨hW, rfl, h⟩
  have k_l37 : ∀ (n : Nat) (x4 : Int32)  (σ : ab_S), Wire σ → wX12_declare_l37 a0 a0n a1 a2 Q E (wX12_declare_j91 a0 a0n a1 a2 Q E) n x4 σ → V l mdX12_declare B 3 65 0 0 (ab_End (fun v σ' => Wire σ' ∧ v = none ∧ Q σ') (fun X σ' => Wire σ' ∧ E X σ')) 37 [(0, .ref 92), (1, .ref a0), (2, .int a1), (3, .int a2), (4, .int x4)] [] σ := by
    have step : ∀ (K91 : ab_S → Prop) (k_K91 : ∀   (σ : ab_S), Wire σ → K91  σ → V l mdX12_declare B 3 65 0 0 (ab_End (fun v σ' => Wire σ' ∧ v = none ∧ Q σ') (fun X σ' => Wire σ' ∧ E X σ')) 91 [(0, .ref 92)] [] σ), ∀ (Bk : Int32 → ab_S → Prop) (k_Bk : ∀ (x4 : Int32)  (σ : ab_S), Wire σ → Bk x4 σ → V l mdX12_declare B 3 65 0 0 (ab_End (fun v σ' => Wire σ' ∧ v = none ∧ Q σ') (fun X σ' => Wire σ' ∧ E X σ')) 37 [(0, .ref 92), (1, .ref a0), (2, .int a1), (3, .int a2), (4, .int x4)] [] σ), ∀ (x4 : Int32)  (σ : ab_S), Wire σ → wX12_declare_l37_b a0 a0n a1 a2 Q E K91 Bk x4 σ → V l mdX12_declare B 3 65 0 0 (ab_End (fun v σ' => Wire σ' ∧ v = none ∧ Q σ') (fun X σ' => Wire σ' ∧ E X σ')) 37 [(0, .ref 92), (1, .ref a0), (2, .int a1), (3, .int a2), (4, .int x4)] [] σ := by
      intro K91 k_K91 Bk k_Bk
      have k_j84 : ∀ (x4 : Int32) (y0 : Int32) (y1 : Int32)  (σ : ab_S), Wire σ → wX12_declare_j84 a0 a0n a1 a2 Q E K91 Bk x4 y0 y1 σ → V l mdX12_declare B 3 65 0 0 (ab_End (fun v σ' => Wire σ' ∧ v = none ∧ Q σ') (fun X σ' => Wire σ' ∧ E X σ')) 84 [(0, .ref 92), (1, .ref a0), (2, .int a1), (3, .int a2), (4, .int x4)] [.int y0, .int y1, .ref a0] σ := by
        intro x4 y0 y1  σ hW h
        obtain ⟨hin, h⟩ := h
        refine V_iast 47 rfl (wsh hW ha0) hin ?_
        refine V_nm (fun σ3 eσ3 => ?_)
        replace h := h σ3 eσ3
        have hW := wire_I eσ3 hW
        obtain ⟨v4, ev4⟩ : ∃ z : Int32, z = (x4 + 1) := ⟨_, rfl⟩
        replace h := h v4 ev4
        refine V_iinc 48 4 (v := v4) (lv' := [(4, .int v4), (0, .ref 92), (1, .ref a0), (2, .int a1), (3, .int a2)]) rfl rfl ((in_1 _).trans ev4.symm) (by decide) rfl ?_
        refine V_goto 49 (tgt := 37) rfl (by decide) ?_
        refine V_sub [1, 2, 3, 4, 0] (lv' := [(0, .ref 92), (1, .ref a0), (2, .int a1), (3, .int a2), (4, .int v4)]) rfl ?_
        exact k_Bk v4  σ3 hW h
      intro x4  σ hW h
      refine V_iload 20 4 rfl rfl ?_
      refine V_bipush 21 (v := (8 : Int32)) rfl (by decide) ?_
      refine V_icmp_ge 22 (tgt := 91) rfl (by decide) (fun hc => ?_) (fun hc => ?_)
      · replace h := h.1 hc
        refine V_sub [0] (lv' := [(0, .ref 92)]) rfl ?_
        exact k_K91  σ hW h
      · replace h := h.2 hc
        refine V_pc 44 rfl ?_
        refine V_aload_n 23 1 rfl rfl rfl ?_
        refine V_iload_n 24 2 rfl rfl rfl ?_
        refine V_bipush 25 (v := (8 : Int32)) rfl (by decide) ?_
        refine V_iload_n 26 3 rfl rfl rfl ?_
        refine V_imul 27 rfl ?_
        refine V_iadd 28 rfl ?_
        refine V_pc 51 rfl ?_
        refine V_iload 29 4 rfl rfl ?_
        refine V_iadd 30 rfl ?_
        refine V_aload_n 31 0 rfl rfl rfl ?_
        refine V_get (v := .int (σ.2.1 92 41)) 32 41 rfl clX12 flX12_252 (by decide) (wsh hW rfl) (fun _ => rfl) ?_
        refine V_iload 33 4 rfl rfl ?_
        refine V_iadd 34 rfl ?_
        refine V_pc 61 rfl ?_
        refine V_aload_n 35 0 rfl rfl rfl ?_
        refine V_get (v := .int (σ.2.1 92 42)) 36 42 rfl clX12 flX12_255 (by decide) (wsh hW rfl) (fun _ => rfl) ?_
        refine V_icmp_ge 37 (tgt := 83) rfl (by decide) (fun hc => ?_) (fun hc => ?_)
        · replace h := h.1 hc
          refine V_iconst 46 (v := (0 : Int32)) rfl (by decide) ?_
          exact k_j84 x4 (0 : Int32) ((a1 + ((8 : Int32) * a2)) + x4) σ hW h
        · replace h := h.2 hc
          refine V_pc 68 rfl ?_
          refine V_aload_n 38 0 rfl rfl rfl ?_
          refine V_getR 39 7 rfl clX12 flX12_20 (by decide) (wsh hW rfl) (fun _ => rfl) (wrf hW 97 rfl) ?_
          refine V_aload_n 40 0 rfl rfl rfl ?_
          refine V_get (v := .int (σ.2.1 92 41)) 41 41 rfl clX12 flX12_252 (by decide) (wsh hW rfl) (fun _ => rfl) ?_
          refine V_iload 42 4 rfl rfl ?_
          refine V_iadd 43 rfl ?_
          refine V_pc 79 rfl ?_
          obtain ⟨hin, h⟩ := h
          refine V_iald 44 rfl (wsh hW rfl) hin ?_
          refine V_goto 45 (tgt := 84) rfl (by decide) ?_
          exact k_j84 x4 (σ.2.1 96 ((σ.2.1 92 41) + x4).toNatClampNeg) ((a1 + ((8 : Int32) * a2)) + x4) σ hW h
    intro n
    induction n with
    | zero => intro x4  σ hW h; exact absurd h id
    | succ n ih => exact step _ k_j91 _ ih
  intro σ hW h
  refine V_aload_n 0 0 rfl rfl rfl ?_
  refine V_get (v := .int (σ.2.1 92 40)) 1 40 rfl clX12 flX12_267 (by decide) (wsh hW rfl) (fun _ => rfl) ?_
  refine V_iconst 2 (v := (1 : Int32)) rfl (by decide) ?_
  refine V_icmp_ne 3 (tgt := 25) rfl (by decide) (fun hc => ?_) (fun hc => ?_)
  · replace h := h.1 hc
    refine V_sub [0] (lv' := [(0, .ref 92)]) rfl ?_
    exact k_j25 σ hW h
  · replace h := h.2 hc
    refine V_pc 8 rfl ?_
    refine V_aload_n 4 0 rfl rfl rfl ?_
    refine V_get (v := .int (σ.2.1 92 43)) 5 43 rfl clX12 flX12_264 (by decide) (wsh hW rfl) (fun _ => rfl) ?_
    refine V_if_gt 6 (tgt := 25) rfl (by decide) (fun hc => ?_) (fun hc => ?_)
    · replace h := h.1 hc
      refine V_sub [0] (lv' := [(0, .ref 92)]) rfl ?_
      exact k_j25 σ hW h
    · replace h := h.2 hc
      refine V_pc 15 rfl ?_
      refine V_aload_n 7 0 rfl rfl rfl ?_
      refine V_aload_n 8 1 rfl rfl rfl ?_
      refine V_iload_n 9 2 rfl rfl rfl ?_
      refine V_iload_n 10 3 rfl rfl rfl ?_
      refine V_callV 11 3 (as := [.ref a0, .int a1, .int a2]) (rest := []) rfl mlX12_298 yvX12_find rfl rfl clX12 (wsh hW rfl) (by decide) (by decide) (Nat.le_of_ble_eq_true rfl) (by decide) (by decide) (fun B9 => ceX12_find hl B9 ha0 hW h) (fun X9 τ9 h9 => VX_out rfl h9) ?_
      rintro v9 σ5 ⟨hW, u6, rfl, h⟩
      refine V_if_lt 12 (tgt := 34) rfl (by decide) (fun hc => ?_) (fun hc => ?_)
      · replace h := h.1 hc
        refine V_iconst 18 (v := (0 : Int32)) rfl (by decide) ?_
        refine V_istore 19 (lv' := [(4, .int (0 : Int32)), (0, .ref 92), (1, .ref a0), (2, .int a1), (3, .int a2)]) rfl (by decide) rfl ?_
        refine V_sub [1, 2, 3, 4, 0] (lv' := [(0, .ref 92), (1, .ref a0), (2, .int a1), (3, .int a2), (4, .int (0 : Int32))]) rfl ?_
        obtain ⟨n, h⟩ := h
        exact k_l37 n (0 : Int32) σ5 hW h
      · replace h := h.2 hc
        refine V_pc 25 rfl ?_
        refine V_sub [0] (lv' := [(0, .ref 92)]) rfl ?_
        exact k_j25 σ5 hW h

def wX12_attributeRow_j24 (a0 : Int32) (a1 : Int32) (Q : ab_S → Prop) (E : String → ab_S → Prop)  (σ : ab_S) : Prop := wX12_fail (σ.2.1 92 41) (fun σ1 => Q σ1) E σ
def wX12_attributeRow_j123 (a0 : Int32) (a1 : Int32) (Q : ab_S → Prop) (E : String → ab_S → Prop) (K24 : ab_S → Prop) (Bk : Int32 → ab_S → Prop) (y0 : Int32) (σ : ab_S) : Prop := ((y0 = 0) → Bk y0 σ) ∧ (¬ (y0 = 0) → wX12_advance (fun σ2 => Bk y0 σ2) E σ)
def wX12_attributeRow_j122 (a0 : Int32) (a1 : Int32) (Q : ab_S → Prop) (E : String → ab_S → Prop) (K24 : ab_S → Prop) (Bk : Int32 → ab_S → Prop)  (σ : ab_S) : Prop := wX12_attributeRow_j123 a0 a1 Q E K24 Bk (0 : Int32) σ
def wX12_attributeRow_j91 (a0 : Int32) (a1 : Int32) (Q : ab_S → Prop) (E : String → ab_S → Prop) (K24 : ab_S → Prop) (Bk : Int32 → ab_S → Prop) (y0 : Int32) (σ : ab_S) : Prop := vp_in a0 13 ∧ (∀ σ3 : ab_S, σ3 = ab_I σ 100 a0.toNatClampNeg y0 → vp_in a0 13 ∧ (vp_in a0 13 ∧ (∀ σ4 : ab_S, σ4 = ab_I σ3 99 a0.toNatClampNeg ((σ3.2.1 99 a0.toNatClampNeg) + (1 : Int32)) → wX12_good (fun u6 σ5 => ((u6 = 0) → wX12_attributeRow_j122 a0 a1 Q E K24 Bk σ5) ∧ (¬ (u6 = 0) → ((¬ (σ5.2.1 92 40) = (6 : Int32)) → wX12_attributeRow_j122 a0 a1 Q E K24 Bk σ5) ∧ (¬ (¬ (σ5.2.1 92 40) = (6 : Int32)) → wX12_attributeRow_j123 a0 a1 Q E K24 Bk (1 : Int32) σ5))) E σ4)))
def wX12_attributeRow_j85 (a0 : Int32) (a1 : Int32) (Q : ab_S → Prop) (E : String → ab_S → Prop) (K24 : ab_S → Prop) (Bk : Int32 → ab_S → Prop)  (σ : ab_S) : Prop := vp_in a0 13 ∧ (wX12_attributeRow_j91 a0 a1 Q E K24 Bk (σ.2.1 100 a0.toNatClampNeg) σ)
def wX12_attributeRow_l2_b (a0 : Int32) (a1 : Int32) (Q : ab_S → Prop) (E : String → ab_S → Prop) (K24 : ab_S → Prop) (Bk : Int32 → ab_S → Prop) (x3 : Int32) (σ : ab_S) : Prop := ((x3 = 0) → Q σ) ∧ (¬ (x3 = 0) → wX12_good (fun u8 σ7 => ((u8 = 0) → Q σ7) ∧ (¬ (u8 = 0) → vp_in a0 13 ∧ (((¬ (σ7.2.1 99 a0.toNatClampNeg) = (8 : Int32)) → vp_in a0 13 ∧ (wX12_declare 98 832 ((64 : Int32) * a0) (σ7.2.1 99 a0.toNatClampNeg) (fun σ9 => ((a1 = 0) → wX12_attributeRow_j85 a0 a1 Q E K24 Bk σ9) ∧ (¬ (a1 = 0) → wX12_good (fun u11 σ10 => ((u11 = 0) → wX12_attributeRow_j85 a0 a1 Q E K24 Bk σ10) ∧ (¬ (u11 = 0) → vp_in a0 13 ∧ (vp_in a0 13 ∧ (wX12_attributeRow_j91 a0 a1 Q E K24 Bk ((σ10.2.1 100 a0.toNatClampNeg) ||| ((1 : Int32) <<< ((σ10.2.1 99 a0.toNatClampNeg) &&& 31))) σ10)))) E σ9)) E σ7)) ∧ (¬ (¬ (σ7.2.1 99 a0.toNatClampNeg) = (8 : Int32)) → K24 σ7)))) E σ)
def wX12_attributeRow_l2 (a0 : Int32) (a1 : Int32) (Q : ab_S → Prop) (E : String → ab_S → Prop) (K24 : ab_S → Prop) : Nat → Int32 → ab_S → Prop
  | 0, _, _ => False
  | n + 1, x3, σ => wX12_attributeRow_l2_b a0 a1 Q E K24 (wX12_attributeRow_l2 a0 a1 Q E K24 n) x3 σ
def wX12_attributeRow (a0 : Int32) (a1 : Int32) (Q : ab_S → Prop) (E : String → ab_S → Prop) (σ : ab_S) : Prop := ∃ n, wX12_attributeRow_l2 a0 a1 Q E (wX12_attributeRow_j24 a0 a1 Q E) n (1 : Int32) σ
set_option maxHeartbeats 4000000 in
set_option maxRecDepth 100000 in
theorem ceX12_attributeRow {l : Launch} (hl : l.stackTraces = false) (B : Nat) {a0 : Int32} {a1 : Int32}  {Q : ab_S → Prop} {E : String → ab_S → Prop} {σ : ab_S} (hW : Wire σ) (h : wX12_attributeRow a0 a1 Q E σ) : ab_Mt l yX12_attributeRow mdX12_attributeRow B 4 89 0 0 [.ref 92, .int a0, .int a1] σ (fun v σ' => Wire σ' ∧ v = none ∧ Q σ') (fun X σ' => Wire σ' ∧ E X σ') := by
  refine V_met hl ⟨rfl, rfl, by decide⟩ rfl dkX12_attributeRow (Nat.le_of_ble_eq_true rfl) ?_
  show V l mdX12_attributeRow B 4 89 0 0 (ab_End _ _) 0 [(0, .ref 92), (1, .int a0), (2, .int a1)] [] σ
  revert h hW
  revert σ
  have k_j24 : ∀   (σ : ab_S), Wire σ → wX12_attributeRow_j24 a0 a1 Q E  σ → V l mdX12_attributeRow B 4 89 0 0 (ab_End (fun v σ' => Wire σ' ∧ v = none ∧ Q σ') (fun X σ' => Wire σ' ∧ E X σ')) 24 [(0, .ref 92)] [] σ := by
    intro   σ hW h
    refine V_aload_n 13 0 rfl rfl rfl ?_
    refine V_aload_n 14 0 rfl rfl rfl ?_
    refine V_get (v := .int (σ.2.1 92 41)) 15 41 rfl clX12 flX12_252 (by decide) (wsh hW rfl) (fun _ => rfl) ?_
    refine V_callV 16 1 (as := [.int (σ.2.1 92 41)]) (rest := []) rfl mlX12_287 yvX12_fail rfl rfl clX12 (wsh hW rfl) (by decide) (by decide) (Nat.le_of_ble_eq_true rfl) (by decide) (by decide) (fun B9 => ceX12_fail hl B9 hW h) (fun X9 τ9 h9 => VX_out rfl h9) ?_
    rintro v9 σ1 ⟨hW, rfl, h⟩
    exact V_vret 17 rfl rfl ⟨hW, rfl, h⟩
  have k_l2 : ∀ (n : Nat) (x3 : Int32)  (σ : ab_S), Wire σ → wX12_attributeRow_l2 a0 a1 Q E (wX12_attributeRow_j24 a0 a1 Q E) n x3 σ → V l mdX12_attributeRow B 4 89 0 0 (ab_End (fun v σ' => Wire σ' ∧ v = none ∧ Q σ') (fun X σ' => Wire σ' ∧ E X σ')) 2 [(0, .ref 92), (1, .int a0), (2, .int a1), (3, .int x3)] [] σ := by
    have step : ∀ (K24 : ab_S → Prop) (k_K24 : ∀   (σ : ab_S), Wire σ → K24  σ → V l mdX12_attributeRow B 4 89 0 0 (ab_End (fun v σ' => Wire σ' ∧ v = none ∧ Q σ') (fun X σ' => Wire σ' ∧ E X σ')) 24 [(0, .ref 92)] [] σ), ∀ (Bk : Int32 → ab_S → Prop) (k_Bk : ∀ (x3 : Int32)  (σ : ab_S), Wire σ → Bk x3 σ → V l mdX12_attributeRow B 4 89 0 0 (ab_End (fun v σ' => Wire σ' ∧ v = none ∧ Q σ') (fun X σ' => Wire σ' ∧ E X σ')) 2 [(0, .ref 92), (1, .int a0), (2, .int a1), (3, .int x3)] [] σ), ∀ (x3 : Int32)  (σ : ab_S), Wire σ → wX12_attributeRow_l2_b a0 a1 Q E K24 Bk x3 σ → V l mdX12_attributeRow B 4 89 0 0 (ab_End (fun v σ' => Wire σ' ∧ v = none ∧ Q σ') (fun X σ' => Wire σ' ∧ E X σ')) 2 [(0, .ref 92), (1, .int a0), (2, .int a1), (3, .int x3)] [] σ := by
      intro K24 k_K24 Bk k_Bk
      have k_j123 : ∀ (y0 : Int32)  (σ : ab_S), Wire σ → wX12_attributeRow_j123 a0 a1 Q E K24 Bk y0 σ → V l mdX12_attributeRow B 4 89 0 0 (ab_End (fun v σ' => Wire σ' ∧ v = none ∧ Q σ') (fun X σ' => Wire σ' ∧ E X σ')) 123 [(0, .ref 92), (1, .int a0), (2, .int a1)] [.int y0] σ := by
        intro y0  σ hW h
        refine V_istore_n 72 (lv' := [(3, .int y0), (0, .ref 92), (1, .int a0), (2, .int a1)]) rfl rfl (by decide) rfl ?_
        refine V_iload_n 73 0 rfl rfl rfl ?_
        refine V_if_eq 74 (tgt := 2) rfl (by decide) (fun hc => ?_) (fun hc => ?_)
        · replace h := h.1 hc
          refine V_sub [1, 2, 3, 0] (lv' := [(0, .ref 92), (1, .int a0), (2, .int a1), (3, .int y0)]) rfl ?_
          exact k_Bk y0  σ hW h
        · replace h := h.2 hc
          refine V_pc 128 rfl ?_
          refine V_aload_n 75 1 rfl rfl rfl ?_
          refine V_callV 76 0 (as := []) (rest := []) rfl mlX12_295 yvX12_advance rfl rfl clX12 (wsh hW rfl) (by decide) (by decide) (Nat.le_of_ble_eq_true rfl) (by decide) (by decide) (fun B9 => ceX12_advance hl B9 hW h) (fun X9 τ9 h9 => VX_out rfl h9) ?_
          rintro v9 σ2 ⟨hW, rfl, h⟩
          refine V_goto 77 (tgt := 2) rfl (by decide) ?_
          refine V_sub [1, 2, 3, 0] (lv' := [(0, .ref 92), (1, .int a0), (2, .int a1), (3, .int y0)]) rfl ?_
          exact k_Bk y0  σ2 hW h
      have k_j122 : ∀   (σ : ab_S), Wire σ → wX12_attributeRow_j122 a0 a1 Q E K24 Bk  σ → V l mdX12_attributeRow B 4 89 0 0 (ab_End (fun v σ' => Wire σ' ∧ v = none ∧ Q σ') (fun X σ' => Wire σ' ∧ E X σ')) 122 [(0, .ref 92), (1, .int a0), (2, .int a1)] [] σ := by
        intro   σ hW h
        refine V_iconst 71 (v := (0 : Int32)) rfl (by decide) ?_
        exact k_j123 (0 : Int32) σ hW h
      have k_j91 : ∀ (y0 : Int32)  (σ : ab_S), Wire σ → wX12_attributeRow_j91 a0 a1 Q E K24 Bk y0 σ → V l mdX12_attributeRow B 4 89 0 0 (ab_End (fun v σ' => Wire σ' ∧ v = none ∧ Q σ') (fun X σ' => Wire σ' ∧ E X σ')) 91 [(0, .ref 92), (1, .int a0), (2, .int a1)] [.int y0, .int a0, .ref 100] σ := by
        intro y0  σ hW h
        obtain ⟨hin, h⟩ := h
        refine V_iast 53 rfl (wsh hW rfl) hin ?_
        refine V_nm (fun σ3 eσ3 => ?_)
        replace h := h σ3 eσ3
        have hW := wire_I eσ3 hW
        refine V_aload_n 54 0 rfl rfl rfl ?_
        refine V_getR 55 12 rfl clX12 flX12_29 (by decide) (wsh hW rfl) (fun _ => rfl) (wrf hW 100 rfl) ?_
        refine V_iload_n 56 1 rfl rfl rfl ?_
        refine V_dup2 57 rfl rfl rfl ?_
        obtain ⟨hin, h⟩ := h
        refine V_iald 58 rfl (wsh hW rfl) hin ?_
        refine V_pc 99 rfl ?_
        refine V_iconst 59 (v := (1 : Int32)) rfl (by decide) ?_
        refine V_iadd 60 rfl ?_
        obtain ⟨hin, h⟩ := h
        refine V_iast 61 rfl (wsh hW rfl) hin ?_
        refine V_nm (fun σ4 eσ4 => ?_)
        replace h := h σ4 eσ4
        have hW := wire_I eσ4 hW
        refine V_aload_n 62 0 rfl rfl rfl ?_
        refine V_callV 63 0 (as := []) (rest := []) rfl mlX12_291 yvX12_good rfl rfl clX12 (wsh hW rfl) (by decide) (by decide) (Nat.le_of_ble_eq_true rfl) (by decide) (by decide) (fun B9 => ceX12_good hl B9 hW h) (fun X9 τ9 h9 => VX_out rfl h9) ?_
        rintro v9 σ5 ⟨hW, u6, rfl, h⟩
        refine V_if_eq 64 (tgt := 122) rfl (by decide) (fun hc => ?_) (fun hc => ?_)
        · replace h := h.1 hc
          exact k_j122 σ5 hW h
        · replace h := h.2 hc
          refine V_pc 109 rfl ?_
          refine V_aload_n 65 0 rfl rfl rfl ?_
          refine V_get (v := .int (σ5.2.1 92 40)) 66 40 rfl clX12 flX12_267 (by decide) (wsh hW rfl) (fun _ => rfl) ?_
          refine V_bipush 67 (v := (6 : Int32)) rfl (by decide) ?_
          refine V_icmp_ne 68 (tgt := 122) rfl (by decide) (fun hc => ?_) (fun hc => ?_)
          · replace h := h.1 hc
            exact k_j122 σ5 hW h
          · replace h := h.2 hc
            refine V_pc 118 rfl ?_
            refine V_iconst 69 (v := (1 : Int32)) rfl (by decide) ?_
            refine V_goto 70 (tgt := 123) rfl (by decide) ?_
            exact k_j123 (1 : Int32) σ5 hW h
      have k_j85 : ∀   (σ : ab_S), Wire σ → wX12_attributeRow_j85 a0 a1 Q E K24 Bk  σ → V l mdX12_attributeRow B 4 89 0 0 (ab_End (fun v σ' => Wire σ' ∧ v = none ∧ Q σ') (fun X σ' => Wire σ' ∧ E X σ')) 85 [(0, .ref 92), (1, .int a0), (2, .int a1)] [.int a0, .ref 100] σ := by
        intro   σ hW h
        refine V_aload_n 49 0 rfl rfl rfl ?_
        refine V_getR 50 13 rfl clX12 flX12_32 (by decide) (wsh hW rfl) (fun _ => rfl) (wrf hW 101 rfl) ?_
        refine V_iload_n 51 1 rfl rfl rfl ?_
        obtain ⟨hin, h⟩ := h
        refine V_iald 52 rfl (wsh hW rfl) hin ?_
        exact k_j91 (σ.2.1 100 a0.toNatClampNeg) σ hW h
      intro x3  σ hW h
      refine V_iload_n 2 3 rfl rfl rfl ?_
      refine V_if_eq 3 (tgt := 135) rfl (by decide) (fun hc => ?_) (fun hc => ?_)
      · replace h := h.1 hc
        exact V_vret 78 rfl rfl ⟨hW, rfl, h⟩
      · replace h := h.2 hc
        refine V_pc 6 rfl ?_
        refine V_aload_n 4 0 rfl rfl rfl ?_
        refine V_callV 5 0 (as := []) (rest := []) rfl mlX12_291 yvX12_good rfl rfl clX12 (wsh hW rfl) (by decide) (by decide) (Nat.le_of_ble_eq_true rfl) (by decide) (by decide) (fun B9 => ceX12_good hl B9 hW h) (fun X9 τ9 h9 => VX_out rfl h9) ?_
        rintro v9 σ7 ⟨hW, u8, rfl, h⟩
        refine V_if_eq 6 (tgt := 135) rfl (by decide) (fun hc => ?_) (fun hc => ?_)
        · replace h := h.1 hc
          exact V_vret 78 rfl rfl ⟨hW, rfl, h⟩
        · replace h := h.2 hc
          refine V_pc 13 rfl ?_
          refine V_aload_n 7 0 rfl rfl rfl ?_
          refine V_getR 8 12 rfl clX12 flX12_29 (by decide) (wsh hW rfl) (fun _ => rfl) (wrf hW 100 rfl) ?_
          refine V_iload_n 9 1 rfl rfl rfl ?_
          obtain ⟨hin, h⟩ := h
          refine V_iald 10 rfl (wsh hW rfl) hin ?_
          refine V_bipush 11 (v := (8 : Int32)) rfl (by decide) ?_
          refine V_icmp_ne 12 (tgt := 33) rfl (by decide) (fun hc => ?_) (fun hc => ?_)
          · replace h := h.1 hc
            refine V_aload_n 18 0 rfl rfl rfl ?_
            refine V_aload_n 19 0 rfl rfl rfl ?_
            refine V_getR 20 11 rfl clX12 flX12_26 (by decide) (wsh hW rfl) (fun _ => rfl) (wrf hW 99 rfl) ?_
            refine V_bipush 21 (v := (64 : Int32)) rfl (by decide) ?_
            refine V_iload_n 22 1 rfl rfl rfl ?_
            refine V_imul 23 rfl ?_
            refine V_pc 42 rfl ?_
            refine V_aload_n 24 0 rfl rfl rfl ?_
            refine V_getR 25 12 rfl clX12 flX12_29 (by decide) (wsh hW rfl) (fun _ => rfl) (wrf hW 100 rfl) ?_
            refine V_iload_n 26 1 rfl rfl rfl ?_
            obtain ⟨hin, h⟩ := h
            refine V_iald 27 rfl (wsh hW rfl) hin ?_
            refine V_callV 28 3 (as := [.ref 98, .int ((64 : Int32) * a0), .int (σ7.2.1 99 a0.toNatClampNeg)]) (rest := []) rfl mlX12_302 yvX12_declare rfl rfl clX12 (wsh hW rfl) (by decide) (by decide) (Nat.le_of_ble_eq_true rfl) (by decide) (by decide) (fun B9 => ceX12_declare hl B9 rfl hW h) (fun X9 τ9 h9 => VX_out rfl h9) ?_
            rintro v9 σ9 ⟨hW, rfl, h⟩
            refine V_aload_n 29 0 rfl rfl rfl ?_
            refine V_getR 30 13 rfl clX12 flX12_32 (by decide) (wsh hW rfl) (fun _ => rfl) (wrf hW 101 rfl) ?_
            refine V_iload_n 31 1 rfl rfl rfl ?_
            refine V_iload_n 32 2 rfl rfl rfl ?_
            refine V_if_eq 33 (tgt := 85) rfl (by decide) (fun hc => ?_) (fun hc => ?_)
            · replace h := h.1 hc
              refine V_sub [0, 1, 2] (lv' := [(0, .ref 92), (1, .int a0), (2, .int a1)]) rfl ?_
              exact k_j85 σ9 hW h
            · replace h := h.2 hc
              refine V_pc 60 rfl ?_
              refine V_aload_n 34 0 rfl rfl rfl ?_
              refine V_callV 35 0 (as := []) (rest := [.int a0, .ref 100]) rfl mlX12_291 yvX12_good rfl rfl clX12 (wsh hW rfl) (by decide) (by decide) (Nat.le_of_ble_eq_true rfl) (by decide) (by decide) (fun B9 => ceX12_good hl B9 hW h) (fun X9 τ9 h9 => VX_out rfl h9) ?_
              rintro v9 σ10 ⟨hW, u11, rfl, h⟩
              refine V_if_eq 36 (tgt := 85) rfl (by decide) (fun hc => ?_) (fun hc => ?_)
              · replace h := h.1 hc
                refine V_sub [0, 1, 2] (lv' := [(0, .ref 92), (1, .int a0), (2, .int a1)]) rfl ?_
                exact k_j85 σ10 hW h
              · replace h := h.2 hc
                refine V_pc 67 rfl ?_
                refine V_aload_n 37 0 rfl rfl rfl ?_
                refine V_getR 38 13 rfl clX12 flX12_32 (by decide) (wsh hW rfl) (fun _ => rfl) (wrf hW 101 rfl) ?_
                refine V_iload_n 39 1 rfl rfl rfl ?_
                obtain ⟨hin, h⟩ := h
                refine V_iald 40 rfl (wsh hW rfl) hin ?_
                refine V_iconst 41 (v := (1 : Int32)) rfl (by decide) ?_
                refine V_aload_n 42 0 rfl rfl rfl ?_
                refine V_pc 75 rfl ?_
                refine V_getR 43 12 rfl clX12 flX12_29 (by decide) (wsh hW rfl) (fun _ => rfl) (wrf hW 100 rfl) ?_
                refine V_iload_n 44 1 rfl rfl rfl ?_
                obtain ⟨hin, h⟩ := h
                refine V_iald 45 rfl (wsh hW rfl) hin ?_
                refine V_ishl 46 rfl ?_
                refine V_ior 47 rfl ?_
                refine V_goto 48 (tgt := 91) rfl (by decide) ?_
                refine V_sub [0, 1, 2] (lv' := [(0, .ref 92), (1, .int a0), (2, .int a1)]) rfl ?_
                exact k_j91 ((σ10.2.1 100 a0.toNatClampNeg) ||| ((1 : Int32) <<< ((σ10.2.1 99 a0.toNatClampNeg) &&& 31))) σ10 hW h
          · replace h := h.2 hc
            refine V_pc 24 rfl ?_
            refine V_sub [0] (lv' := [(0, .ref 92)]) rfl ?_
            exact k_K24  σ7 hW h
    intro n
    induction n with
    | zero => intro x3  σ hW h; exact absurd h id
    | succ n ih => exact step _ k_j24 _ ih
  intro σ hW h
  refine V_iconst 0 (v := (1 : Int32)) rfl (by decide) ?_
  refine V_istore_n 1 (lv' := [(3, .int (1 : Int32)), (0, .ref 92), (1, .int a0), (2, .int a1)]) rfl rfl (by decide) rfl ?_
  refine V_sub [1, 2, 3, 0] (lv' := [(0, .ref 92), (1, .int a0), (2, .int a1), (3, .int (1 : Int32))]) rfl ?_
  obtain ⟨n, h⟩ := h
  exact k_l2 n (1 : Int32) σ hW h

def wX12_symbolStatement_j124 (Q : ab_S → Prop) (E : String → ab_S → Prop)  (σ : ab_S) : Prop := wX12_need (5 : Int32) (fun σ1 => Q σ1) E σ
def wX12_symbolStatement_j99 (Q : ab_S → Prop) (E : String → ab_S → Prop) (x1 : Int32) (σ : ab_S) : Prop := wX12_good (fun u3 σ2 => ((u3 = 0) → wX12_symbolStatement_j124 Q E σ2) ∧ (¬ (u3 = 0) → ((¬ (σ2.2.1 92 43) = (3 : Int32)) → wX12_symbolStatement_j124 Q E σ2) ∧ (¬ (¬ (σ2.2.1 92 43) = (3 : Int32)) → wX12_advance (fun σ4 => wX12_attributeRow x1 (0 : Int32) (fun σ5 => wX12_symbolStatement_j124 Q E σ5) E σ4) E σ2))) E σ
def wX12_symbolStatement  (Q : ab_S → Prop) (E : String → ab_S → Prop) (σ : ab_S) : Prop := ((¬ (σ.2.1 92 9) = (12 : Int32)) → wX12_advance (fun σ6 => ∀ v7 : Int32, v7 = (σ6.2.1 92 9) → vp_in v7 13 ∧ (∀ σ8 : ab_S, σ8 = ab_I σ6 99 v7.toNatClampNeg (0 : Int32) → vp_in v7 13 ∧ (∀ σ9 : ab_S, σ9 = ab_I σ8 100 v7.toNatClampNeg (0 : Int32) → wX12_declare 97 104 (0 : Int32) v7 (fun σ10 => (∀ σ11 : ab_S, σ11 = ab_I σ10 92 9 ((σ10.2.1 92 9) + (1 : Int32)) → wX12_good (fun u13 σ12 => ((u13 = 0) → wX12_symbolStatement_j99 Q E v7 σ12) ∧ (¬ (u13 = 0) → ((¬ (σ12.2.1 92 43) = (2 : Int32)) → wX12_symbolStatement_j99 Q E v7 σ12) ∧ (¬ (¬ (σ12.2.1 92 43) = (2 : Int32)) → ((¬ v7 = 0) → wX12_advance (fun σ14 => wX12_attributeRow v7 (1 : Int32) (fun σ15 => wX12_symbolStatement_j99 Q E v7 σ15) E σ14) E σ12) ∧ (¬ (¬ v7 = 0) → wX12_fail (σ12.2.1 92 41) (fun σ16 => Q σ16) E σ12)))) E σ11)) E σ9))) E σ) ∧ (¬ (¬ (σ.2.1 92 9) = (12 : Int32)) → wX12_fail (σ.2.1 92 41) (fun σ17 => Q σ17) E σ)
set_option maxHeartbeats 4000000 in
set_option maxRecDepth 100000 in
theorem ceX12_symbolStatement {l : Launch} (hl : l.stackTraces = false) (B : Nat)   {Q : ab_S → Prop} {E : String → ab_S → Prop} {σ : ab_S} (hW : Wire σ) (h : wX12_symbolStatement  Q E σ) : ab_Mt l yX12_symbolStatement mdX12_symbolStatement B 5 112 0 0 [.ref 92] σ (fun v σ' => Wire σ' ∧ v = none ∧ Q σ') (fun X σ' => Wire σ' ∧ E X σ') := by
  refine V_met hl ⟨rfl, rfl, by decide⟩ rfl dkX12_symbolStatement (Nat.le_of_ble_eq_true rfl) ?_
  show V l mdX12_symbolStatement B 5 112 0 0 (ab_End _ _) 0 [(0, .ref 92)] [] σ
  revert h hW
  revert σ
  have k_j124 : ∀   (σ : ab_S), Wire σ → wX12_symbolStatement_j124 Q E  σ → V l mdX12_symbolStatement B 5 112 0 0 (ab_End (fun v σ' => Wire σ' ∧ v = none ∧ Q σ') (fun X σ' => Wire σ' ∧ E X σ')) 124 [(0, .ref 92)] [] σ := by
    intro   σ hW h
    refine V_aload_n 69 0 rfl rfl rfl ?_
    refine V_iconst 70 (v := (5 : Int32)) rfl (by decide) ?_
    refine V_callV 71 1 (as := [.int (5 : Int32)]) (rest := []) rfl mlX12_313 yvX12_need rfl rfl clX12 (wsh hW rfl) (by decide) (by decide) (Nat.le_of_ble_eq_true rfl) (by decide) (by decide) (fun B9 => ceX12_need hl B9 hW h) (fun X9 τ9 h9 => VX_out rfl h9) ?_
    rintro v9 σ1 ⟨hW, rfl, h⟩
    exact V_vret 72 rfl rfl ⟨hW, rfl, h⟩
  have k_j99 : ∀ (x1 : Int32)  (σ : ab_S), Wire σ → wX12_symbolStatement_j99 Q E x1 σ → V l mdX12_symbolStatement B 5 112 0 0 (ab_End (fun v σ' => Wire σ' ∧ v = none ∧ Q σ') (fun X σ' => Wire σ' ∧ E X σ')) 99 [(0, .ref 92), (1, .int x1)] [] σ := by
    intro x1  σ hW h
    refine V_aload_n 56 0 rfl rfl rfl ?_
    refine V_callV 57 0 (as := []) (rest := []) rfl mlX12_291 yvX12_good rfl rfl clX12 (wsh hW rfl) (by decide) (by decide) (Nat.le_of_ble_eq_true rfl) (by decide) (by decide) (fun B9 => ceX12_good hl B9 hW h) (fun X9 τ9 h9 => VX_out rfl h9) ?_
    rintro v9 σ2 ⟨hW, u3, rfl, h⟩
    refine V_if_eq 58 (tgt := 124) rfl (by decide) (fun hc => ?_) (fun hc => ?_)
    · replace h := h.1 hc
      refine V_sub [0] (lv' := [(0, .ref 92)]) rfl ?_
      exact k_j124 σ2 hW h
    · replace h := h.2 hc
      refine V_pc 106 rfl ?_
      refine V_aload_n 59 0 rfl rfl rfl ?_
      refine V_get (v := .int (σ2.2.1 92 43)) 60 43 rfl clX12 flX12_264 (by decide) (wsh hW rfl) (fun _ => rfl) ?_
      refine V_iconst 61 (v := (3 : Int32)) rfl (by decide) ?_
      refine V_icmp_ne 62 (tgt := 124) rfl (by decide) (fun hc => ?_) (fun hc => ?_)
      · replace h := h.1 hc
        refine V_sub [0] (lv' := [(0, .ref 92)]) rfl ?_
        exact k_j124 σ2 hW h
      · replace h := h.2 hc
        refine V_pc 114 rfl ?_
        refine V_aload_n 63 0 rfl rfl rfl ?_
        refine V_callV 64 0 (as := []) (rest := []) rfl mlX12_295 yvX12_advance rfl rfl clX12 (wsh hW rfl) (by decide) (by decide) (Nat.le_of_ble_eq_true rfl) (by decide) (by decide) (fun B9 => ceX12_advance hl B9 hW h) (fun X9 τ9 h9 => VX_out rfl h9) ?_
        rintro v9 σ4 ⟨hW, rfl, h⟩
        refine V_aload_n 65 0 rfl rfl rfl ?_
        refine V_iload_n 66 1 rfl rfl rfl ?_
        refine V_iconst 67 (v := (0 : Int32)) rfl (by decide) ?_
        refine V_callV 68 2 (as := [.int x1, .int (0 : Int32)]) (rest := []) rfl mlX12_309 yvX12_attributeRow rfl rfl clX12 (wsh hW rfl) (by decide) (by decide) (Nat.le_of_ble_eq_true rfl) (by decide) (by decide) (fun B9 => ceX12_attributeRow hl B9 hW h) (fun X9 τ9 h9 => VX_out rfl h9) ?_
        rintro v9 σ5 ⟨hW, rfl, h⟩
        refine V_sub [0] (lv' := [(0, .ref 92)]) rfl ?_
        exact k_j124 σ5 hW h
  intro σ hW h
  refine V_aload_n 0 0 rfl rfl rfl ?_
  refine V_get (v := .int (σ.2.1 92 9)) 1 9 rfl clX12 flX12_306 (by decide) (wsh hW rfl) (fun _ => rfl) ?_
  refine V_bipush 2 (v := (12 : Int32)) rfl (by decide) ?_
  refine V_icmp_ne 3 (tgt := 18) rfl (by decide) (fun hc => ?_) (fun hc => ?_)
  · replace h := h.1 hc
    refine V_aload_n 9 0 rfl rfl rfl ?_
    refine V_callV 10 0 (as := []) (rest := []) rfl mlX12_295 yvX12_advance rfl rfl clX12 (wsh hW rfl) (by decide) (by decide) (Nat.le_of_ble_eq_true rfl) (by decide) (by decide) (fun B9 => ceX12_advance hl B9 hW h) (fun X9 τ9 h9 => VX_out rfl h9) ?_
    rintro v9 σ6 ⟨hW, rfl, h⟩
    refine V_aload_n 11 0 rfl rfl rfl ?_
    refine V_get (v := .int (σ6.2.1 92 9)) 12 9 rfl clX12 flX12_306 (by decide) (wsh hW rfl) (fun _ => rfl) ?_
    refine V_topi (fun v7 ev7 => ?_)
    replace h := h v7 ev7
    refine V_istore_n 13 (lv' := [(1, .int v7), (0, .ref 92)]) rfl rfl (by decide) rfl ?_
    refine V_aload_n 14 1 rfl rfl rfl ?_
    refine V_getR 15 12 rfl clX12 flX12_29 (by decide) (wsh hW rfl) (fun _ => rfl) (wrf hW 100 rfl) ?_
    refine V_pc 31 rfl ?_
    refine V_iload_n 16 0 rfl rfl rfl ?_
    refine V_iconst 17 (v := (0 : Int32)) rfl (by decide) ?_
    obtain ⟨hin, h⟩ := h
    refine V_iast 18 rfl (wsh hW rfl) hin ?_
    refine V_nm (fun σ8 eσ8 => ?_)
    replace h := h σ8 eσ8
    have hW := wire_I eσ8 hW
    refine V_aload_n 19 1 rfl rfl rfl ?_
    refine V_getR 20 13 rfl clX12 flX12_32 (by decide) (wsh hW rfl) (fun _ => rfl) (wrf hW 101 rfl) ?_
    refine V_iload_n 21 0 rfl rfl rfl ?_
    refine V_pc 39 rfl ?_
    refine V_iconst 22 (v := (0 : Int32)) rfl (by decide) ?_
    obtain ⟨hin, h⟩ := h
    refine V_iast 23 rfl (wsh hW rfl) hin ?_
    refine V_nm (fun σ9 eσ9 => ?_)
    replace h := h σ9 eσ9
    have hW := wire_I eσ9 hW
    refine V_aload_n 24 1 rfl rfl rfl ?_
    refine V_aload_n 25 1 rfl rfl rfl ?_
    refine V_getR 26 10 rfl clX12 flX12_23 (by decide) (wsh hW rfl) (fun _ => rfl) (wrf hW 98 rfl) ?_
    refine V_iconst 27 (v := (0 : Int32)) rfl (by decide) ?_
    refine V_pc 47 rfl ?_
    refine V_iload_n 28 0 rfl rfl rfl ?_
    refine V_callV 29 3 (as := [.ref 97, .int (0 : Int32), .int v7]) (rest := []) rfl mlX12_302 yvX12_declare rfl rfl clX12 (wsh hW rfl) (by decide) (by decide) (Nat.le_of_ble_eq_true rfl) (by decide) (by decide) (fun B9 => ceX12_declare hl B9 rfl hW h) (fun X9 τ9 h9 => VX_out rfl h9) ?_
    rintro v9 σ10 ⟨hW, rfl, h⟩
    refine V_aload_n 30 1 rfl rfl rfl ?_
    refine V_dup 31 rfl rfl ?_
    refine V_get (v := .int (σ10.2.1 92 9)) 32 9 rfl clX12 flX12_306 (by decide) (wsh hW rfl) (fun _ => rfl) ?_
    refine V_iconst 33 (v := (1 : Int32)) rfl (by decide) ?_
    refine V_iadd 34 rfl ?_
    refine V_pc 58 rfl ?_
    refine V_putI 35 9 rfl clX12 flX12_306 (by decide) (wsh hW rfl) rfl (fun _ _ => rfl) rfl rfl ?_
    refine V_nm (fun σ11 eσ11 => ?_)
    replace h := h σ11 eσ11
    have hW := wire_I eσ11 hW
    refine V_aload_n 36 1 rfl rfl rfl ?_
    refine V_callV 37 0 (as := []) (rest := []) rfl mlX12_291 yvX12_good rfl rfl clX12 (wsh hW rfl) (by decide) (by decide) (Nat.le_of_ble_eq_true rfl) (by decide) (by decide) (fun B9 => ceX12_good hl B9 hW h) (fun X9 τ9 h9 => VX_out rfl h9) ?_
    rintro v9 σ12 ⟨hW, u13, rfl, h⟩
    refine V_if_eq 38 (tgt := 99) rfl (by decide) (fun hc => ?_) (fun hc => ?_)
    · replace h := h.1 hc
      refine V_sub [1, 0] (lv' := [(0, .ref 92), (1, .int v7)]) rfl ?_
      exact k_j99 v7 σ12 hW h
    · replace h := h.2 hc
      refine V_pc 68 rfl ?_
      refine V_aload_n 39 1 rfl rfl rfl ?_
      refine V_get (v := .int (σ12.2.1 92 43)) 40 43 rfl clX12 flX12_264 (by decide) (wsh hW rfl) (fun _ => rfl) ?_
      refine V_iconst 41 (v := (2 : Int32)) rfl (by decide) ?_
      refine V_icmp_ne 42 (tgt := 99) rfl (by decide) (fun hc => ?_) (fun hc => ?_)
      · replace h := h.1 hc
        refine V_sub [1, 0] (lv' := [(0, .ref 92), (1, .int v7)]) rfl ?_
        exact k_j99 v7 σ12 hW h
      · replace h := h.2 hc
        refine V_pc 76 rfl ?_
        refine V_iload_n 43 0 rfl rfl rfl ?_
        refine V_if_ne 44 (tgt := 89) rfl (by decide) (fun hc => ?_) (fun hc => ?_)
        · replace h := h.1 hc
          refine V_aload_n 50 1 rfl rfl rfl ?_
          refine V_callV 51 0 (as := []) (rest := []) rfl mlX12_295 yvX12_advance rfl rfl clX12 (wsh hW rfl) (by decide) (by decide) (Nat.le_of_ble_eq_true rfl) (by decide) (by decide) (fun B9 => ceX12_advance hl B9 hW h) (fun X9 τ9 h9 => VX_out rfl h9) ?_
          rintro v9 σ14 ⟨hW, rfl, h⟩
          refine V_aload_n 52 1 rfl rfl rfl ?_
          refine V_iload_n 53 0 rfl rfl rfl ?_
          refine V_iconst 54 (v := (1 : Int32)) rfl (by decide) ?_
          refine V_callV 55 2 (as := [.int v7, .int (1 : Int32)]) (rest := []) rfl mlX12_309 yvX12_attributeRow rfl rfl clX12 (wsh hW rfl) (by decide) (by decide) (Nat.le_of_ble_eq_true rfl) (by decide) (by decide) (fun B9 => ceX12_attributeRow hl B9 hW h) (fun X9 τ9 h9 => VX_out rfl h9) ?_
          rintro v9 σ15 ⟨hW, rfl, h⟩
          refine V_sub [1, 0] (lv' := [(0, .ref 92), (1, .int v7)]) rfl ?_
          exact k_j99 v7 σ15 hW h
        · replace h := h.2 hc
          refine V_pc 80 rfl ?_
          refine V_aload_n 45 1 rfl rfl rfl ?_
          refine V_aload_n 46 1 rfl rfl rfl ?_
          refine V_get (v := .int (σ12.2.1 92 41)) 47 41 rfl clX12 flX12_252 (by decide) (wsh hW rfl) (fun _ => rfl) ?_
          refine V_callV 48 1 (as := [.int (σ12.2.1 92 41)]) (rest := []) rfl mlX12_287 yvX12_fail rfl rfl clX12 (wsh hW rfl) (by decide) (by decide) (Nat.le_of_ble_eq_true rfl) (by decide) (by decide) (fun B9 => ceX12_fail hl B9 hW h) (fun X9 τ9 h9 => VX_out rfl h9) ?_
          rintro v9 σ16 ⟨hW, rfl, h⟩
          exact V_vret 49 rfl rfl ⟨hW, rfl, h⟩
  · replace h := h.2 hc
    refine V_pc 9 rfl ?_
    refine V_aload_n 4 0 rfl rfl rfl ?_
    refine V_aload_n 5 0 rfl rfl rfl ?_
    refine V_get (v := .int (σ.2.1 92 41)) 6 41 rfl clX12 flX12_252 (by decide) (wsh hW rfl) (fun _ => rfl) ?_
    refine V_callV 7 1 (as := [.int (σ.2.1 92 41)]) (rest := []) rfl mlX12_287 yvX12_fail rfl rfl clX12 (wsh hW rfl) (by decide) (by decide) (Nat.le_of_ble_eq_true rfl) (by decide) (by decide) (fun B9 => ceX12_fail hl B9 hW h) (fun X9 τ9 h9 => VX_out rfl h9) ?_
    rintro v9 σ17 ⟨hW, rfl, h⟩
    exact V_vret 8 rfl rfl ⟨hW, rfl, h⟩

def wX12_symbolHere  (Q : Int32 → ab_S → Prop) (E : String → ab_S → Prop) (σ : ab_S) : Prop := wX12_find 97 104 (0 : Int32) (σ.2.1 92 9) (fun u2 σ1 => ((0 ≤ u2) → wX12_advance (fun σ3 => Q u2 σ3) E σ1) ∧ (¬ (0 ≤ u2) → wX12_fail (σ1.2.1 92 41) (fun σ4 => Q (0 : Int32) σ4) E σ1)) E σ
set_option maxHeartbeats 4000000 in
set_option maxRecDepth 100000 in
theorem ceX12_symbolHere {l : Launch} (hl : l.stackTraces = false) (B : Nat)   {Q : Int32 → ab_S → Prop} {E : String → ab_S → Prop} {σ : ab_S} (hW : Wire σ) (h : wX12_symbolHere  Q E σ) : ab_Mt l yX12_symbolHere mdX12_symbolHere B 3 65 0 0 [.ref 92] σ (fun v σ' => Wire σ' ∧ ∃ r : Int32, v = some (.int r) ∧ Q r σ') (fun X σ' => Wire σ' ∧ E X σ') := by
  refine V_met hl ⟨rfl, rfl, by decide⟩ rfl dkX12_symbolHere (Nat.le_of_ble_eq_true rfl) ?_
  show V l mdX12_symbolHere B 3 65 0 0 (ab_End _ _) 0 [(0, .ref 92)] [] σ
  refine V_aload_n 0 0 rfl rfl rfl ?_
  refine V_aload_n 1 0 rfl rfl rfl ?_
  refine V_getR 2 10 rfl clX12 flX12_23 (by decide) (wsh hW rfl) (fun _ => rfl) (wrf hW 98 rfl) ?_
  refine V_iconst 3 (v := (0 : Int32)) rfl (by decide) ?_
  refine V_aload_n 4 0 rfl rfl rfl ?_
  refine V_get (v := .int (σ.2.1 92 9)) 5 9 rfl clX12 flX12_306 (by decide) (wsh hW rfl) (fun _ => rfl) ?_
  refine V_pc 10 rfl ?_
  refine V_callV 6 3 (as := [.ref 97, .int (0 : Int32), .int (σ.2.1 92 9)]) (rest := []) rfl mlX12_298 yvX12_find rfl rfl clX12 (wsh hW rfl) (by decide) (by decide) (Nat.le_of_ble_eq_true rfl) (by decide) (by decide) (fun B9 => ceX12_find hl B9 rfl hW h) (fun X9 τ9 h9 => VX_out rfl h9) ?_
  rintro v9 σ1 ⟨hW, u2, rfl, h⟩
  refine V_istore_n 7 (lv' := [(1, .int u2), (0, .ref 92)]) rfl rfl (by decide) rfl ?_
  refine V_iload_n 8 0 rfl rfl rfl ?_
  refine V_if_ge 9 (tgt := 28) rfl (by decide) (fun hc => ?_) (fun hc => ?_)
  · replace h := h.1 hc
    refine V_aload_n 16 1 rfl rfl rfl ?_
    refine V_callV 17 0 (as := []) (rest := []) rfl mlX12_295 yvX12_advance rfl rfl clX12 (wsh hW rfl) (by decide) (by decide) (Nat.le_of_ble_eq_true rfl) (by decide) (by decide) (fun B9 => ceX12_advance hl B9 hW h) (fun X9 τ9 h9 => VX_out rfl h9) ?_
    rintro v9 σ3 ⟨hW, rfl, h⟩
    refine V_iload_n 18 0 rfl rfl rfl ?_
    exact V_iret 19 rfl rfl ⟨hW, _, rfl, h⟩
  · replace h := h.2 hc
    refine V_pc 18 rfl ?_
    refine V_aload_n 10 1 rfl rfl rfl ?_
    refine V_aload_n 11 1 rfl rfl rfl ?_
    refine V_get (v := .int (σ1.2.1 92 41)) 12 41 rfl clX12 flX12_252 (by decide) (wsh hW rfl) (fun _ => rfl) ?_
    refine V_callV 13 1 (as := [.int (σ1.2.1 92 41)]) (rest := []) rfl mlX12_287 yvX12_fail rfl rfl clX12 (wsh hW rfl) (by decide) (by decide) (Nat.le_of_ble_eq_true rfl) (by decide) (by decide) (fun B9 => ceX12_fail hl B9 hW h) (fun X9 τ9 h9 => VX_out rfl h9) ?_
    rintro v9 σ4 ⟨hW, rfl, h⟩
    refine V_iconst 14 (v := (0 : Int32)) rfl (by decide) ?_
    exact V_iret 15 rfl rfl ⟨hW, _, rfl, h⟩

def wX12_isDefined_j41 (a0 : Int32) (a1 : Int32) (a2 : Int32) (Q : Int32 → ab_S → Prop) (E : String → ab_S → Prop) (y0 : Int32) (y1 : Int32) (σ : ab_S) : Prop := ((¬ y1 = y0) → Q (0 : Int32) σ) ∧ (¬ (¬ y1 = y0) → Q (1 : Int32) σ)
def wX12_isDefined_j28 (a0 : Int32) (a1 : Int32) (a2 : Int32) (Q : Int32 → ab_S → Prop) (E : String → ab_S → Prop) (y0 : Int32) (σ : ab_S) : Prop := ((a1 ≤ 0) → wX12_isDefined_j41 a0 a1 a2 Q E (0 : Int32) y0 σ) ∧ (¬ (a1 ≤ 0) → wX12_isDefined_j41 a0 a1 a2 Q E (1 : Int32) y0 σ)
def wX12_isDefined (a0 : Int32) (a1 : Int32) (a2 : Int32) (Q : Int32 → ab_S → Prop) (E : String → ab_S → Prop) (σ : ab_S) : Prop := vp_in (((4 : Int32) * a0) + a1) 124 ∧ (vp_in (σ.2.1 104 (((4 : Int32) * a0) + a1).toNatClampNeg) 13 ∧ (((¬ (((σ.2.1 100 (σ.2.1 104 (((4 : Int32) * a0) + a1).toNatClampNeg).toNatClampNeg) >>> (a2 &&& 31)) &&& (1 : Int32)) = (1 : Int32)) → wX12_isDefined_j28 a0 a1 a2 Q E (0 : Int32) σ) ∧ (¬ (¬ (((σ.2.1 100 (σ.2.1 104 (((4 : Int32) * a0) + a1).toNatClampNeg).toNatClampNeg) >>> (a2 &&& 31)) &&& (1 : Int32)) = (1 : Int32)) → wX12_isDefined_j28 a0 a1 a2 Q E (1 : Int32) σ)))
set_option maxHeartbeats 4000000 in
set_option maxRecDepth 100000 in
theorem ceX12_isDefined {l : Launch} (hl : l.stackTraces = false) (B : Nat) {a0 : Int32} {a1 : Int32} {a2 : Int32}  {Q : Int32 → ab_S → Prop} {E : String → ab_S → Prop} {σ : ab_S} (hW : Wire σ) (h : wX12_isDefined a0 a1 a2 Q E σ) : ab_Mt l yX12_isDefined mdX12_isDefined B 0 0 0 0 [.ref 92, .int a0, .int a1, .int a2] σ (fun v σ' => Wire σ' ∧ ∃ r : Int32, v = some (.int r) ∧ Q r σ') (fun X σ' => Wire σ' ∧ E X σ') := by
  refine V_met hl ⟨rfl, rfl, by decide⟩ rfl dkX12_isDefined (Nat.le_of_ble_eq_true rfl) ?_
  show V l mdX12_isDefined B 0 0 0 0 (ab_End _ _) 0 [(0, .ref 92), (1, .int a0), (2, .int a1), (3, .int a2)] [] σ
  revert h hW
  revert σ
  have k_j41 : ∀ (y0 : Int32) (y1 : Int32)  (σ : ab_S), Wire σ → wX12_isDefined_j41 a0 a1 a2 Q E y0 y1 σ → V l mdX12_isDefined B 0 0 0 0 (ab_End (fun v σ' => Wire σ' ∧ ∃ r : Int32, v = some (.int r) ∧ Q r σ') (fun X σ' => Wire σ' ∧ E X σ')) 41 [] [.int y0, .int y1] σ := by
    intro y0 y1  σ hW h
    refine V_icmp_ne 27 (tgt := 48) rfl (by decide) (fun hc => ?_) (fun hc => ?_)
    · replace h := h.1 hc
      refine V_iconst 30 (v := (0 : Int32)) rfl (by decide) ?_
      exact V_zret 31 rfl rfl rfl ⟨hW, _, rfl, h⟩
    · replace h := h.2 hc
      refine V_pc 44 rfl ?_
      refine V_iconst 28 (v := (1 : Int32)) rfl (by decide) ?_
      refine V_goto 29 (tgt := 49) rfl (by decide) ?_
      exact V_zret 31 rfl rfl rfl ⟨hW, _, rfl, h⟩
  have k_j28 : ∀ (y0 : Int32)  (σ : ab_S), Wire σ → wX12_isDefined_j28 a0 a1 a2 Q E y0 σ → V l mdX12_isDefined B 0 0 0 0 (ab_End (fun v σ' => Wire σ' ∧ ∃ r : Int32, v = some (.int r) ∧ Q r σ') (fun X σ' => Wire σ' ∧ E X σ')) 28 [(2, .int a1)] [.int y0] σ := by
    intro y0  σ hW h
    refine V_istore 20 (lv' := [(4, .int y0), (2, .int a1)]) rfl (by decide) rfl ?_
    refine V_iload 21 0 rfl rfl ?_
    refine V_iload_n 22 1 rfl rfl rfl ?_
    refine V_if_le 23 (tgt := 40) rfl (by decide) (fun hc => ?_) (fun hc => ?_)
    · replace h := h.1 hc
      refine V_iconst 26 (v := (0 : Int32)) rfl (by decide) ?_
      refine V_sub [] (lv' := []) rfl ?_
      exact k_j41 (0 : Int32) y0 σ hW h
    · replace h := h.2 hc
      refine V_pc 36 rfl ?_
      refine V_iconst 24 (v := (1 : Int32)) rfl (by decide) ?_
      refine V_goto 25 (tgt := 41) rfl (by decide) ?_
      refine V_sub [] (lv' := []) rfl ?_
      exact k_j41 (1 : Int32) y0 σ hW h
  intro σ hW h
  refine V_aload_n 0 0 rfl rfl rfl ?_
  refine V_getR 1 13 rfl clX12 flX12_32 (by decide) (wsh hW rfl) (fun _ => rfl) (wrf hW 101 rfl) ?_
  refine V_aload_n 2 0 rfl rfl rfl ?_
  refine V_getR 3 18 rfl clX12 flX12_45 (by decide) (wsh hW rfl) (fun _ => rfl) (wrf hW 105 rfl) ?_
  refine V_iconst 4 (v := (4 : Int32)) rfl (by decide) ?_
  refine V_iload_n 5 1 rfl rfl rfl ?_
  refine V_pc 10 rfl ?_
  refine V_imul 6 rfl ?_
  refine V_iload_n 7 2 rfl rfl rfl ?_
  refine V_iadd 8 rfl ?_
  obtain ⟨hin, h⟩ := h
  refine V_iald 9 rfl (wsh hW rfl) hin ?_
  obtain ⟨hin, h⟩ := h
  refine V_iald 10 rfl (wsh hW rfl) hin ?_
  refine V_iload_n 11 3 rfl rfl rfl ?_
  refine V_pc 16 rfl ?_
  refine V_ishr 12 rfl ?_
  refine V_iconst 13 (v := (1 : Int32)) rfl (by decide) ?_
  refine V_iand 14 rfl ?_
  refine V_iconst 15 (v := (1 : Int32)) rfl (by decide) ?_
  refine V_icmp_ne 16 (tgt := 27) rfl (by decide) (fun hc => ?_) (fun hc => ?_)
  · replace h := h.1 hc
    refine V_iconst 19 (v := (0 : Int32)) rfl (by decide) ?_
    refine V_sub [2] (lv' := [(2, .int a1)]) rfl ?_
    exact k_j28 (0 : Int32) σ hW h
  · replace h := h.2 hc
    refine V_pc 23 rfl ?_
    refine V_iconst 17 (v := (1 : Int32)) rfl (by decide) ?_
    refine V_goto 18 (tgt := 28) rfl (by decide) ?_
    refine V_sub [2] (lv' := [(2, .int a1)]) rfl ?_
    exact k_j28 (1 : Int32) σ hW h

def wX12_attributeHere_j128 (a0 : Int32) (a1 : Int32) (a2 : Int32) (a3 : Int32) (Q : Int32 → ab_S → Prop) (E : String → ab_S → Prop) (x6 : Int32) (y0 : Int32) (σ : ab_S) : Prop := ((¬ y0 = 0) → wX12_advance (fun σ1 => Q (((8 : Int32) * a1) + x6) σ1) E σ) ∧ (¬ (¬ y0 = 0) → wX12_fail (σ.2.1 92 41) (fun σ2 => Q (0 : Int32) σ2) E σ)
def wX12_attributeHere_j123 (a0 : Int32) (a1 : Int32) (a2 : Int32) (a3 : Int32) (Q : Int32 → ab_S → Prop) (E : String → ab_S → Prop) (x6 : Int32) (σ : ab_S) : Prop := wX12_attributeHere_j128 a0 a1 a2 a3 Q E x6 (1 : Int32) σ
def wX12_attributeHere_j127 (a0 : Int32) (a1 : Int32) (a2 : Int32) (a3 : Int32) (Q : Int32 → ab_S → Prop) (E : String → ab_S → Prop) (x6 : Int32) (σ : ab_S) : Prop := wX12_attributeHere_j128 a0 a1 a2 a3 Q E x6 (0 : Int32) σ
def wX12_attributeHere_j91 (a0 : Int32) (a1 : Int32) (a2 : Int32) (a3 : Int32) (Q : Int32 → ab_S → Prop) (E : String → ab_S → Prop) (x6 : Int32) (y0 : Int32) (σ : ab_S) : Prop := ((y0 = 0) → wX12_attributeHere_j127 a0 a1 a2 a3 Q E x6 σ) ∧ (¬ (y0 = 0) → ((a3 = 0) → wX12_attributeHere_j123 a0 a1 a2 a3 Q E x6 σ) ∧ (¬ (a3 = 0) → vp_in ((((32 : Int32) * a0) + ((8 : Int32) * a1)) + x6) 992 ∧ (((0 ≤ (σ.2.1 105 ((((32 : Int32) * a0) + ((8 : Int32) * a1)) + x6).toNatClampNeg)) → wX12_attributeHere_j127 a0 a1 a2 a3 Q E x6 σ) ∧ (¬ (0 ≤ (σ.2.1 105 ((((32 : Int32) * a0) + ((8 : Int32) * a1)) + x6).toNatClampNeg)) → wX12_attributeHere_j123 a0 a1 a2 a3 Q E x6 σ))))
def wX12_attributeHere_j90 (a0 : Int32) (a1 : Int32) (a2 : Int32) (a3 : Int32) (Q : Int32 → ab_S → Prop) (E : String → ab_S → Prop) (x6 : Int32) (σ : ab_S) : Prop := wX12_attributeHere_j91 a0 a1 a2 a3 Q E x6 (0 : Int32) σ
def wX12_attributeHere_j66 (a0 : Int32) (a1 : Int32) (a2 : Int32) (a3 : Int32) (Q : Int32 → ab_S → Prop) (E : String → ab_S → Prop) (y0 : Int32) (σ : ab_S) : Prop := ((y0 < 0) → wX12_attributeHere_j90 a0 a1 a2 a3 Q E y0 σ) ∧ (¬ (y0 < 0) → wX12_isDefined a0 a1 y0 (fun u4 σ3 => ((¬ u4 = a3) → wX12_attributeHere_j90 a0 a1 a2 a3 Q E y0 σ3) ∧ (¬ (¬ u4 = a3) → wX12_attributeHere_j91 a0 a1 a2 a3 Q E y0 (1 : Int32) σ3)) E σ)
def wX12_attributeHere (a0 : Int32) (a1 : Int32) (a2 : Int32) (a3 : Int32) (Q : Int32 → ab_S → Prop) (E : String → ab_S → Prop) (σ : ab_S) : Prop := vp_in a0 31 ∧ (((a1 ≤ (σ.2.1 103 a0.toNatClampNeg)) → wX12_need (7 : Int32) (fun σ5 => vp_in (((4 : Int32) * a0) + a1) 124 ∧ (∀ v6 : Int32, v6 = (σ5.2.1 104 (((4 : Int32) * a0) + a1).toNatClampNeg) → wX12_good (fun u8 σ7 => ((u8 = 0) → wX12_attributeHere_j66 a0 a1 a2 a3 Q E (-1 : Int32) σ7) ∧ (¬ (u8 = 0) → vp_in v6 13 ∧ (wX12_find 98 832 ((64 : Int32) * v6) (σ7.2.1 99 v6.toNatClampNeg) (fun u10 σ9 => wX12_attributeHere_j66 a0 a1 a2 a3 Q E u10 σ9) E σ7))) E σ5)) E σ) ∧ (¬ (a1 ≤ (σ.2.1 103 a0.toNatClampNeg)) → wX12_fail a2 (fun σ11 => Q (0 : Int32) σ11) E σ))
set_option maxHeartbeats 4000000 in
set_option maxRecDepth 100000 in
theorem ceX12_attributeHere {l : Launch} (hl : l.stackTraces = false) (B : Nat) {a0 : Int32} {a1 : Int32} {a2 : Int32} {a3 : Int32}  {Q : Int32 → ab_S → Prop} {E : String → ab_S → Prop} {σ : ab_S} (hW : Wire σ) (h : wX12_attributeHere a0 a1 a2 a3 Q E σ) : ab_Mt l yX12_attributeHere mdX12_attributeHere B 4 86 0 0 [.ref 92, .int a0, .int a1, .int a2, .int a3] σ (fun v σ' => Wire σ' ∧ ∃ r : Int32, v = some (.int r) ∧ Q r σ') (fun X σ' => Wire σ' ∧ E X σ') := by
  refine V_met hl ⟨rfl, rfl, by decide⟩ rfl dkX12_attributeHere (Nat.le_of_ble_eq_true rfl) ?_
  show V l mdX12_attributeHere B 4 86 0 0 (ab_End _ _) 0 [(0, .ref 92), (1, .int a0), (2, .int a1), (3, .int a2), (4, .int a3)] [] σ
  revert h hW
  revert σ
  have k_j128 : ∀ (x6 : Int32) (y0 : Int32)  (σ : ab_S), Wire σ → wX12_attributeHere_j128 a0 a1 a2 a3 Q E x6 y0 σ → V l mdX12_attributeHere B 4 86 0 0 (ab_End (fun v σ' => Wire σ' ∧ ∃ r : Int32, v = some (.int r) ∧ Q r σ') (fun X σ' => Wire σ' ∧ E X σ')) 128 [(0, .ref 92), (2, .int a1), (6, .int x6)] [.int y0] σ := by
    intro x6 y0  σ hW h
    refine V_istore 73 (lv' := [(7, .int y0), (0, .ref 92), (2, .int a1), (6, .int x6)]) rfl (by decide) rfl ?_
    refine V_iload 74 0 rfl rfl ?_
    refine V_if_ne 75 (tgt := 145) rfl (by decide) (fun hc => ?_) (fun hc => ?_)
    · replace h := h.1 hc
      refine V_aload_n 82 1 rfl rfl rfl ?_
      refine V_callV 83 0 (as := []) (rest := []) rfl mlX12_295 yvX12_advance rfl rfl clX12 (wsh hW rfl) (by decide) (by decide) (Nat.le_of_ble_eq_true rfl) (by decide) (by decide) (fun B9 => ceX12_advance hl B9 hW h) (fun X9 τ9 h9 => VX_out rfl h9) ?_
      rintro v9 σ1 ⟨hW, rfl, h⟩
      refine V_bipush 84 (v := (8 : Int32)) rfl (by decide) ?_
      refine V_iload_n 85 2 rfl rfl rfl ?_
      refine V_imul 86 rfl ?_
      refine V_iload 87 3 rfl rfl ?_
      refine V_iadd 88 rfl ?_
      refine V_pc 156 rfl ?_
      exact V_iret 89 rfl rfl ⟨hW, _, rfl, h⟩
    · replace h := h.2 hc
      refine V_pc 135 rfl ?_
      refine V_aload_n 76 1 rfl rfl rfl ?_
      refine V_aload_n 77 1 rfl rfl rfl ?_
      refine V_get (v := .int (σ.2.1 92 41)) 78 41 rfl clX12 flX12_252 (by decide) (wsh hW rfl) (fun _ => rfl) ?_
      refine V_callV 79 1 (as := [.int (σ.2.1 92 41)]) (rest := []) rfl mlX12_287 yvX12_fail rfl rfl clX12 (wsh hW rfl) (by decide) (by decide) (Nat.le_of_ble_eq_true rfl) (by decide) (by decide) (fun B9 => ceX12_fail hl B9 hW h) (fun X9 τ9 h9 => VX_out rfl h9) ?_
      rintro v9 σ2 ⟨hW, rfl, h⟩
      refine V_iconst 80 (v := (0 : Int32)) rfl (by decide) ?_
      exact V_iret 81 rfl rfl ⟨hW, _, rfl, h⟩
  have k_j123 : ∀ (x6 : Int32)  (σ : ab_S), Wire σ → wX12_attributeHere_j123 a0 a1 a2 a3 Q E x6 σ → V l mdX12_attributeHere B 4 86 0 0 (ab_End (fun v σ' => Wire σ' ∧ ∃ r : Int32, v = some (.int r) ∧ Q r σ') (fun X σ' => Wire σ' ∧ E X σ')) 123 [(0, .ref 92), (2, .int a1), (6, .int x6)] [] σ := by
    intro x6  σ hW h
    refine V_iconst 70 (v := (1 : Int32)) rfl (by decide) ?_
    refine V_goto 71 (tgt := 128) rfl (by decide) ?_
    exact k_j128 x6 (1 : Int32) σ hW h
  have k_j127 : ∀ (x6 : Int32)  (σ : ab_S), Wire σ → wX12_attributeHere_j127 a0 a1 a2 a3 Q E x6 σ → V l mdX12_attributeHere B 4 86 0 0 (ab_End (fun v σ' => Wire σ' ∧ ∃ r : Int32, v = some (.int r) ∧ Q r σ') (fun X σ' => Wire σ' ∧ E X σ')) 127 [(0, .ref 92), (2, .int a1), (6, .int x6)] [] σ := by
    intro x6  σ hW h
    refine V_iconst 72 (v := (0 : Int32)) rfl (by decide) ?_
    exact k_j128 x6 (0 : Int32) σ hW h
  have k_j91 : ∀ (x6 : Int32) (y0 : Int32)  (σ : ab_S), Wire σ → wX12_attributeHere_j91 a0 a1 a2 a3 Q E x6 y0 σ → V l mdX12_attributeHere B 4 86 0 0 (ab_End (fun v σ' => Wire σ' ∧ ∃ r : Int32, v = some (.int r) ∧ Q r σ') (fun X σ' => Wire σ' ∧ E X σ')) 91 [(0, .ref 92), (1, .int a0), (2, .int a1), (4, .int a3), (6, .int x6)] [.int y0] σ := by
    intro x6 y0  σ hW h
    refine V_istore 52 (lv' := [(7, .int y0), (0, .ref 92), (1, .int a0), (2, .int a1), (4, .int a3), (6, .int x6)]) rfl (by decide) rfl ?_
    refine V_iload 53 0 rfl rfl ?_
    refine V_if_eq 54 (tgt := 127) rfl (by decide) (fun hc => ?_) (fun hc => ?_)
    · replace h := h.1 hc
      refine V_sub [1, 3, 5] (lv' := [(0, .ref 92), (2, .int a1), (6, .int x6)]) rfl ?_
      exact k_j127 x6 σ hW h
    · replace h := h.2 hc
      refine V_pc 98 rfl ?_
      refine V_iload 55 4 rfl rfl ?_
      refine V_if_eq 56 (tgt := 123) rfl (by decide) (fun hc => ?_) (fun hc => ?_)
      · replace h := h.1 hc
        refine V_sub [1, 3, 5] (lv' := [(0, .ref 92), (2, .int a1), (6, .int x6)]) rfl ?_
        exact k_j123 x6 σ hW h
      · replace h := h.2 hc
        refine V_pc 103 rfl ?_
        refine V_aload_n 57 1 rfl rfl rfl ?_
        refine V_getR 58 19 rfl clX12 flX12_48 (by decide) (wsh hW rfl) (fun _ => rfl) (wrf hW 106 rfl) ?_
        refine V_bipush 59 (v := (32 : Int32)) rfl (by decide) ?_
        refine V_iload_n 60 2 rfl rfl rfl ?_
        refine V_imul 61 rfl ?_
        refine V_bipush 62 (v := (8 : Int32)) rfl (by decide) ?_
        refine V_pc 113 rfl ?_
        refine V_iload_n 63 3 rfl rfl rfl ?_
        refine V_imul 64 rfl ?_
        refine V_iadd 65 rfl ?_
        refine V_iload 66 5 rfl rfl ?_
        refine V_iadd 67 rfl ?_
        obtain ⟨hin, h⟩ := h
        refine V_iald 68 rfl (wsh hW rfl) hin ?_
        refine V_pc 120 rfl ?_
        refine V_if_ge 69 (tgt := 127) rfl (by decide) (fun hc => ?_) (fun hc => ?_)
        · replace h := h.1 hc
          refine V_sub [1, 3, 5] (lv' := [(0, .ref 92), (2, .int a1), (6, .int x6)]) rfl ?_
          exact k_j127 x6 σ hW h
        · replace h := h.2 hc
          refine V_pc 123 rfl ?_
          refine V_sub [1, 3, 5] (lv' := [(0, .ref 92), (2, .int a1), (6, .int x6)]) rfl ?_
          exact k_j123 x6 σ hW h
  have k_j90 : ∀ (x6 : Int32)  (σ : ab_S), Wire σ → wX12_attributeHere_j90 a0 a1 a2 a3 Q E x6 σ → V l mdX12_attributeHere B 4 86 0 0 (ab_End (fun v σ' => Wire σ' ∧ ∃ r : Int32, v = some (.int r) ∧ Q r σ') (fun X σ' => Wire σ' ∧ E X σ')) 90 [(0, .ref 92), (1, .int a0), (2, .int a1), (4, .int a3), (6, .int x6)] [] σ := by
    intro x6  σ hW h
    refine V_iconst 51 (v := (0 : Int32)) rfl (by decide) ?_
    exact k_j91 x6 (0 : Int32) σ hW h
  have k_j66 : ∀ (y0 : Int32)  (σ : ab_S), Wire σ → wX12_attributeHere_j66 a0 a1 a2 a3 Q E y0 σ → V l mdX12_attributeHere B 4 86 0 0 (ab_End (fun v σ' => Wire σ' ∧ ∃ r : Int32, v = some (.int r) ∧ Q r σ') (fun X σ' => Wire σ' ∧ E X σ')) 66 [(0, .ref 92), (1, .int a0), (2, .int a1), (4, .int a3)] [.int y0] σ := by
    intro y0  σ hW h
    refine V_istore 39 (lv' := [(6, .int y0), (0, .ref 92), (1, .int a0), (2, .int a1), (4, .int a3)]) rfl (by decide) rfl ?_
    refine V_iload 40 0 rfl rfl ?_
    refine V_if_lt 41 (tgt := 90) rfl (by decide) (fun hc => ?_) (fun hc => ?_)
    · replace h := h.1 hc
      refine V_sub [1, 2, 3, 4, 0] (lv' := [(0, .ref 92), (1, .int a0), (2, .int a1), (4, .int a3), (6, .int y0)]) rfl ?_
      exact k_j90 y0 σ hW h
    · replace h := h.2 hc
      refine V_pc 73 rfl ?_
      refine V_aload_n 42 1 rfl rfl rfl ?_
      refine V_iload_n 43 2 rfl rfl rfl ?_
      refine V_iload_n 44 3 rfl rfl rfl ?_
      refine V_iload 45 0 rfl rfl ?_
      refine V_callV 46 3 (as := [.int a0, .int a1, .int y0]) (rest := []) rfl mlX12_328 yvX12_isDefined rfl rfl clX12 (wsh hW rfl) (by decide) (by decide) (Nat.le_of_ble_eq_true rfl) (by decide) (by decide) (fun B9 => ceX12_isDefined hl B9 hW h) (fun X9 τ9 h9 => VX_out rfl h9) ?_
      rintro v9 σ3 ⟨hW, u4, rfl, h⟩
      refine V_iload 47 4 rfl rfl ?_
      refine V_icmp_ne 48 (tgt := 90) rfl (by decide) (fun hc => ?_) (fun hc => ?_)
      · replace h := h.1 hc
        refine V_sub [1, 2, 3, 4, 0] (lv' := [(0, .ref 92), (1, .int a0), (2, .int a1), (4, .int a3), (6, .int y0)]) rfl ?_
        exact k_j90 y0 σ3 hW h
      · replace h := h.2 hc
        refine V_pc 86 rfl ?_
        refine V_iconst 49 (v := (1 : Int32)) rfl (by decide) ?_
        refine V_goto 50 (tgt := 91) rfl (by decide) ?_
        refine V_sub [1, 2, 3, 4, 0] (lv' := [(0, .ref 92), (1, .int a0), (2, .int a1), (4, .int a3), (6, .int y0)]) rfl ?_
        exact k_j91 y0 (1 : Int32) σ3 hW h
  intro σ hW h
  refine V_iload_n 0 2 rfl rfl rfl ?_
  refine V_aload_n 1 0 rfl rfl rfl ?_
  refine V_getR 2 17 rfl clX12 flX12_42 (by decide) (wsh hW rfl) (fun _ => rfl) (wrf hW 104 rfl) ?_
  refine V_iload_n 3 1 rfl rfl rfl ?_
  obtain ⟨hin, h⟩ := h
  refine V_iald 4 rfl (wsh hW rfl) hin ?_
  refine V_icmp_le 5 (tgt := 17) rfl (by decide) (fun hc => ?_) (fun hc => ?_)
  · replace h := h.1 hc
    refine V_aload_n 11 0 rfl rfl rfl ?_
    refine V_bipush 12 (v := (7 : Int32)) rfl (by decide) ?_
    refine V_callV 13 1 (as := [.int (7 : Int32)]) (rest := []) rfl mlX12_313 yvX12_need rfl rfl clX12 (wsh hW rfl) (by decide) (by decide) (Nat.le_of_ble_eq_true rfl) (by decide) (by decide) (fun B9 => ceX12_need hl B9 hW h) (fun X9 τ9 h9 => VX_out rfl h9) ?_
    rintro v9 σ5 ⟨hW, rfl, h⟩
    refine V_aload_n 14 0 rfl rfl rfl ?_
    refine V_getR 15 18 rfl clX12 flX12_45 (by decide) (wsh hW rfl) (fun _ => rfl) (wrf hW 105 rfl) ?_
    refine V_iconst 16 (v := (4 : Int32)) rfl (by decide) ?_
    refine V_iload_n 17 1 rfl rfl rfl ?_
    refine V_imul 18 rfl ?_
    refine V_pc 30 rfl ?_
    refine V_iload_n 19 2 rfl rfl rfl ?_
    refine V_iadd 20 rfl ?_
    obtain ⟨hin, h⟩ := h
    refine V_iald 21 rfl (wsh hW rfl) hin ?_
    refine V_topi (fun v6 ev6 => ?_)
    replace h := h v6 ev6
    refine V_istore 22 (lv' := [(5, .int v6), (0, .ref 92), (1, .int a0), (2, .int a1), (3, .int a2), (4, .int a3)]) rfl (by decide) rfl ?_
    refine V_aload_n 23 1 rfl rfl rfl ?_
    refine V_callV 24 0 (as := []) (rest := []) rfl mlX12_291 yvX12_good rfl rfl clX12 (wsh hW rfl) (by decide) (by decide) (Nat.le_of_ble_eq_true rfl) (by decide) (by decide) (fun B9 => ceX12_good hl B9 hW h) (fun X9 τ9 h9 => VX_out rfl h9) ?_
    rintro v9 σ7 ⟨hW, u8, rfl, h⟩
    refine V_if_eq 25 (tgt := 65) rfl (by decide) (fun hc => ?_) (fun hc => ?_)
    · replace h := h.1 hc
      refine V_iconst 38 (v := (-1 : Int32)) rfl (by decide) ?_
      refine V_sub [1, 2, 3, 5] (lv' := [(0, .ref 92), (1, .int a0), (2, .int a1), (4, .int a3)]) rfl ?_
      exact k_j66 (-1 : Int32) σ7 hW h
    · replace h := h.2 hc
      refine V_pc 42 rfl ?_
      refine V_aload_n 26 1 rfl rfl rfl ?_
      refine V_aload_n 27 1 rfl rfl rfl ?_
      refine V_getR 28 11 rfl clX12 flX12_26 (by decide) (wsh hW rfl) (fun _ => rfl) (wrf hW 99 rfl) ?_
      refine V_bipush 29 (v := (64 : Int32)) rfl (by decide) ?_
      refine V_iload 30 0 rfl rfl ?_
      refine V_imul 31 rfl ?_
      refine V_pc 52 rfl ?_
      refine V_aload_n 32 1 rfl rfl rfl ?_
      refine V_getR 33 12 rfl clX12 flX12_29 (by decide) (wsh hW rfl) (fun _ => rfl) (wrf hW 100 rfl) ?_
      refine V_iload 34 0 rfl rfl ?_
      obtain ⟨hin, h⟩ := h
      refine V_iald 35 rfl (wsh hW rfl) hin ?_
      refine V_callV 36 3 (as := [.ref 98, .int ((64 : Int32) * v6), .int (σ7.2.1 99 v6.toNatClampNeg)]) (rest := []) rfl mlX12_298 yvX12_find rfl rfl clX12 (wsh hW rfl) (by decide) (by decide) (Nat.le_of_ble_eq_true rfl) (by decide) (by decide) (fun B9 => ceX12_find hl B9 rfl hW h) (fun X9 τ9 h9 => VX_out rfl h9) ?_
      rintro v9 σ9 ⟨hW, u10, rfl, h⟩
      refine V_goto 37 (tgt := 66) rfl (by decide) ?_
      refine V_sub [1, 2, 3, 5] (lv' := [(0, .ref 92), (1, .int a0), (2, .int a1), (4, .int a3)]) rfl ?_
      exact k_j66 u10 σ9 hW h
  · replace h := h.2 hc
    refine V_pc 10 rfl ?_
    refine V_aload_n 6 0 rfl rfl rfl ?_
    refine V_iload_n 7 3 rfl rfl rfl ?_
    refine V_callV 8 1 (as := [.int a2]) (rest := []) rfl mlX12_287 yvX12_fail rfl rfl clX12 (wsh hW rfl) (by decide) (by decide) (Nat.le_of_ble_eq_true rfl) (by decide) (by decide) (fun B9 => ceX12_fail hl B9 hW h) (fun X9 τ9 h9 => VX_out rfl h9) ?_
    rintro v9 σ11 ⟨hW, rfl, h⟩
    refine V_iconst 9 (v := (0 : Int32)) rfl (by decide) ?_
    exact V_iret 10 rfl rfl ⟨hW, _, rfl, h⟩

def wX12_frame (a0 : Int32) (Q : ab_S → Prop) (E : String → ab_S → Prop) (σ : ab_S) : Prop := vp_in (σ.2.1 92 45) 40 ∧ (∀ σ1 : ab_S, σ1 = ab_I σ 124 (σ.2.1 92 45).toNatClampNeg a0 → vp_in (σ1.2.1 92 45) 40 ∧ (∀ σ2 : ab_S, σ2 = ab_I σ1 125 (σ1.2.1 92 45).toNatClampNeg (vp_nar .boolean (0 : Int32)) → vp_in (σ2.2.1 92 45) 40 ∧ (∀ σ3 : ab_S, σ3 = ab_I σ2 126 (σ2.2.1 92 45).toNatClampNeg (σ2.2.1 92 49) → (∀ σ4 : ab_S, σ4 = ab_I σ3 92 45 ((σ3.2.1 92 45) + (1 : Int32)) → Q σ4))))
set_option maxHeartbeats 4000000 in
set_option maxRecDepth 100000 in
theorem ceX12_frame {l : Launch} (hl : l.stackTraces = false) (B : Nat) {a0 : Int32}  {Q : ab_S → Prop} {E : String → ab_S → Prop} {σ : ab_S} (hW : Wire σ) (h : wX12_frame a0 Q E σ) : ab_Mt l yX12_frame mdX12_frame B 0 0 0 0 [.ref 92, .int a0] σ (fun v σ' => Wire σ' ∧ v = none ∧ Q σ') (fun X σ' => Wire σ' ∧ E X σ') := by
  refine V_met hl ⟨rfl, rfl, by decide⟩ rfl dkX12_frame (Nat.le_of_ble_eq_true rfl) ?_
  show V l mdX12_frame B 0 0 0 0 (ab_End _ _) 0 [(0, .ref 92), (1, .int a0)] [] σ
  refine V_aload_n 0 0 rfl rfl rfl ?_
  refine V_getR 1 46 rfl clX12 flX12_105 (by decide) (wsh hW rfl) (fun _ => rfl) (wrf hW 125 rfl) ?_
  refine V_aload_n 2 0 rfl rfl rfl ?_
  refine V_get (v := .int (σ.2.1 92 45)) 3 45 rfl clX12 flX12_344 (by decide) (wsh hW rfl) (fun _ => rfl) ?_
  refine V_iload_n 4 1 rfl rfl rfl ?_
  obtain ⟨hin, h⟩ := h
  refine V_iast 5 rfl (wsh hW rfl) hin ?_
  refine V_nm (fun σ1 eσ1 => ?_)
  replace h := h σ1 eσ1
  have hW := wire_I eσ1 hW
  refine V_pc 10 rfl ?_
  refine V_aload_n 6 0 rfl rfl rfl ?_
  refine V_getR 7 47 rfl clX12 flX12_108 (by decide) (wsh hW rfl) (fun _ => rfl) (wrf hW 126 rfl) ?_
  refine V_aload_n 8 0 rfl rfl rfl ?_
  refine V_get (v := .int (σ1.2.1 92 45)) 9 45 rfl clX12 flX12_344 (by decide) (wsh hW rfl) (fun _ => rfl) ?_
  refine V_iconst 10 (v := (0 : Int32)) rfl (by decide) ?_
  obtain ⟨hin, h⟩ := h
  refine V_zast 11 rfl (wsh hW rfl) hin ?_
  refine V_nm (fun σ2 eσ2 => ?_)
  replace h := h σ2 eσ2
  have hW := wire_I eσ2 hW
  refine V_pc 20 rfl ?_
  refine V_aload_n 12 0 rfl rfl rfl ?_
  refine V_getR 13 48 rfl clX12 flX12_111 (by decide) (wsh hW rfl) (fun _ => rfl) (wrf hW 127 rfl) ?_
  refine V_aload_n 14 0 rfl rfl rfl ?_
  refine V_get (v := .int (σ2.2.1 92 45)) 15 45 rfl clX12 flX12_344 (by decide) (wsh hW rfl) (fun _ => rfl) ?_
  refine V_aload_n 16 0 rfl rfl rfl ?_
  refine V_get (v := .int (σ2.2.1 92 49)) 17 49 rfl clX12 flX12_347 (by decide) (wsh hW rfl) (fun _ => rfl) ?_
  refine V_pc 32 rfl ?_
  obtain ⟨hin, h⟩ := h
  refine V_iast 18 rfl (wsh hW rfl) hin ?_
  refine V_nm (fun σ3 eσ3 => ?_)
  replace h := h σ3 eσ3
  have hW := wire_I eσ3 hW
  refine V_aload_n 19 0 rfl rfl rfl ?_
  refine V_dup 20 rfl rfl ?_
  refine V_get (v := .int (σ3.2.1 92 45)) 21 45 rfl clX12 flX12_344 (by decide) (wsh hW rfl) (fun _ => rfl) ?_
  refine V_iconst 22 (v := (1 : Int32)) rfl (by decide) ?_
  refine V_iadd 23 rfl ?_
  refine V_pc 40 rfl ?_
  refine V_putI 24 45 rfl clX12 flX12_344 (by decide) (wsh hW rfl) rfl (fun _ _ => rfl) rfl rfl ?_
  refine V_nm (fun σ4 eσ4 => ?_)
  replace h := h σ4 eσ4
  have hW := wire_I eσ4 hW
  exact V_vret 25 rfl rfl ⟨hW, rfl, h⟩

def wX12_deeper_j17 (Q : ab_S → Prop) (E : String → ab_S → Prop)  (σ : ab_S) : Prop := (∀ σ1 : ab_S, σ1 = ab_I σ 92 51 ((σ.2.1 92 51) + (1 : Int32)) → Q σ1)
def wX12_deeper  (Q : ab_S → Prop) (E : String → ab_S → Prop) (σ : ab_S) : Prop := ((¬ (σ.2.1 92 51) = (10 : Int32)) → wX12_deeper_j17 Q E σ) ∧ (¬ (¬ (σ.2.1 92 51) = (10 : Int32)) → wX12_fail (σ.2.1 92 41) (fun σ2 => wX12_deeper_j17 Q E σ2) E σ)
set_option maxHeartbeats 4000000 in
set_option maxRecDepth 100000 in
theorem ceX12_deeper {l : Launch} (hl : l.stackTraces = false) (B : Nat)   {Q : ab_S → Prop} {E : String → ab_S → Prop} {σ : ab_S} (hW : Wire σ) (h : wX12_deeper  Q E σ) : ab_Mt l yX12_deeper mdX12_deeper B 1 21 0 0 [.ref 92] σ (fun v σ' => Wire σ' ∧ v = none ∧ Q σ') (fun X σ' => Wire σ' ∧ E X σ') := by
  refine V_met hl ⟨rfl, rfl, by decide⟩ rfl dkX12_deeper (Nat.le_of_ble_eq_true rfl) ?_
  show V l mdX12_deeper B 1 21 0 0 (ab_End _ _) 0 [(0, .ref 92)] [] σ
  revert h hW
  revert σ
  have k_j17 : ∀   (σ : ab_S), Wire σ → wX12_deeper_j17 Q E  σ → V l mdX12_deeper B 1 21 0 0 (ab_End (fun v σ' => Wire σ' ∧ v = none ∧ Q σ') (fun X σ' => Wire σ' ∧ E X σ')) 17 [(0, .ref 92)] [] σ := by
    intro   σ hW h
    refine V_aload_n 8 0 rfl rfl rfl ?_
    refine V_dup 9 rfl rfl ?_
    refine V_get (v := .int (σ.2.1 92 51)) 10 51 rfl clX12 flX12_357 (by decide) (wsh hW rfl) (fun _ => rfl) ?_
    refine V_iconst 11 (v := (1 : Int32)) rfl (by decide) ?_
    refine V_iadd 12 rfl ?_
    refine V_putI 13 51 rfl clX12 flX12_357 (by decide) (wsh hW rfl) rfl (fun _ _ => rfl) rfl rfl ?_
    refine V_nm (fun σ1 eσ1 => ?_)
    replace h := h σ1 eσ1
    have hW := wire_I eσ1 hW
    exact V_vret 14 rfl rfl ⟨hW, rfl, h⟩
  intro σ hW h
  refine V_aload_n 0 0 rfl rfl rfl ?_
  refine V_get (v := .int (σ.2.1 92 51)) 1 51 rfl clX12 flX12_357 (by decide) (wsh hW rfl) (fun _ => rfl) ?_
  refine V_bipush 2 (v := (10 : Int32)) rfl (by decide) ?_
  refine V_icmp_ne 3 (tgt := 17) rfl (by decide) (fun hc => ?_) (fun hc => ?_)
  · replace h := h.1 hc
    exact k_j17 σ hW h
  · replace h := h.2 hc
    refine V_pc 9 rfl ?_
    refine V_aload_n 4 0 rfl rfl rfl ?_
    refine V_aload_n 5 0 rfl rfl rfl ?_
    refine V_get (v := .int (σ.2.1 92 41)) 6 41 rfl clX12 flX12_252 (by decide) (wsh hW rfl) (fun _ => rfl) ?_
    refine V_callV 7 1 (as := [.int (σ.2.1 92 41)]) (rest := []) rfl mlX12_287 yvX12_fail rfl rfl clX12 (wsh hW rfl) (by decide) (by decide) (Nat.le_of_ble_eq_true rfl) (by decide) (by decide) (fun B9 => ceX12_fail hl B9 hW h) (fun X9 τ9 h9 => VX_out rfl h9) ?_
    rintro v9 σ2 ⟨hW, rfl, h⟩
    exact k_j17 σ2 hW h

def wX12_hold (a0 : Int32) (Q : ab_S → Prop) (E : String → ab_S → Prop) (σ : ab_S) : Prop := vp_in (σ.2.1 92 49) 80 ∧ (∀ σ1 : ab_S, σ1 = ab_I σ 127 (σ.2.1 92 49).toNatClampNeg a0 → (∀ σ2 : ab_S, σ2 = ab_I σ1 92 49 ((σ1.2.1 92 49) + (1 : Int32)) → wX12_advance (fun σ3 => Q σ3) E σ2))
set_option maxHeartbeats 4000000 in
set_option maxRecDepth 100000 in
theorem ceX12_hold {l : Launch} (hl : l.stackTraces = false) (B : Nat) {a0 : Int32}  {Q : ab_S → Prop} {E : String → ab_S → Prop} {σ : ab_S} (hW : Wire σ) (h : wX12_hold a0 Q E σ) : ab_Mt l yX12_hold mdX12_hold B 3 65 0 0 [.ref 92, .int a0] σ (fun v σ' => Wire σ' ∧ v = none ∧ Q σ') (fun X σ' => Wire σ' ∧ E X σ') := by
  refine V_met hl ⟨rfl, rfl, by decide⟩ rfl dkX12_hold (Nat.le_of_ble_eq_true rfl) ?_
  show V l mdX12_hold B 3 65 0 0 (ab_End _ _) 0 [(0, .ref 92), (1, .int a0)] [] σ
  refine V_aload_n 0 0 rfl rfl rfl ?_
  refine V_getR 1 50 rfl clX12 flX12_114 (by decide) (wsh hW rfl) (fun _ => rfl) (wrf hW 128 rfl) ?_
  refine V_aload_n 2 0 rfl rfl rfl ?_
  refine V_get (v := .int (σ.2.1 92 49)) 3 49 rfl clX12 flX12_347 (by decide) (wsh hW rfl) (fun _ => rfl) ?_
  refine V_iload_n 4 1 rfl rfl rfl ?_
  obtain ⟨hin, h⟩ := h
  refine V_iast 5 rfl (wsh hW rfl) hin ?_
  refine V_nm (fun σ1 eσ1 => ?_)
  replace h := h σ1 eσ1
  have hW := wire_I eσ1 hW
  refine V_pc 10 rfl ?_
  refine V_aload_n 6 0 rfl rfl rfl ?_
  refine V_dup 7 rfl rfl ?_
  refine V_get (v := .int (σ1.2.1 92 49)) 8 49 rfl clX12 flX12_347 (by decide) (wsh hW rfl) (fun _ => rfl) ?_
  refine V_iconst 9 (v := (1 : Int32)) rfl (by decide) ?_
  refine V_iadd 10 rfl ?_
  refine V_putI 11 49 rfl clX12 flX12_347 (by decide) (wsh hW rfl) rfl (fun _ _ => rfl) rfl rfl ?_
  refine V_nm (fun σ2 eσ2 => ?_)
  replace h := h σ2 eσ2
  have hW := wire_I eσ2 hW
  refine V_aload_n 12 0 rfl rfl rfl ?_
  refine V_callV 13 0 (as := []) (rest := []) rfl mlX12_295 yvX12_advance rfl rfl clX12 (wsh hW rfl) (by decide) (by decide) (Nat.le_of_ble_eq_true rfl) (by decide) (by decide) (fun B9 => ceX12_advance hl B9 hW h) (fun X9 τ9 h9 => VX_out rfl h9) ?_
  rintro v9 σ3 ⟨hW, rfl, h⟩
  exact V_vret 14 rfl rfl ⟨hW, rfl, h⟩

def wX12_emit (a0 : Int32) (a1 : Int32) (Q : ab_S → Prop) (E : String → ab_S → Prop) (σ : ab_S) : Prop := vp_in (σ.2.1 92 21) 2500 ∧ (∀ σ1 : ab_S, σ1 = ab_I σ 107 (σ.2.1 92 21).toNatClampNeg a0 → vp_in (σ1.2.1 92 21) 2500 ∧ (∀ σ2 : ab_S, σ2 = ab_I σ1 108 (σ1.2.1 92 21).toNatClampNeg a1 → (∀ σ3 : ab_S, σ3 = ab_I σ2 92 21 ((σ2.2.1 92 21) + (1 : Int32)) → Q σ3)))
set_option maxHeartbeats 4000000 in
set_option maxRecDepth 100000 in
theorem ceX12_emit {l : Launch} (hl : l.stackTraces = false) (B : Nat) {a0 : Int32} {a1 : Int32}  {Q : ab_S → Prop} {E : String → ab_S → Prop} {σ : ab_S} (hW : Wire σ) (h : wX12_emit a0 a1 Q E σ) : ab_Mt l yX12_emit mdX12_emit B 0 0 0 0 [.ref 92, .int a0, .int a1] σ (fun v σ' => Wire σ' ∧ v = none ∧ Q σ') (fun X σ' => Wire σ' ∧ E X σ') := by
  refine V_met hl ⟨rfl, rfl, by decide⟩ rfl dkX12_emit (Nat.le_of_ble_eq_true rfl) ?_
  show V l mdX12_emit B 0 0 0 0 (ab_End _ _) 0 [(0, .ref 92), (1, .int a0), (2, .int a1)] [] σ
  refine V_aload_n 0 0 rfl rfl rfl ?_
  refine V_getR 1 22 rfl clX12 flX12_54 (by decide) (wsh hW rfl) (fun _ => rfl) (wrf hW 108 rfl) ?_
  refine V_aload_n 2 0 rfl rfl rfl ?_
  refine V_get (v := .int (σ.2.1 92 21)) 3 21 rfl clX12 flX12_338 (by decide) (wsh hW rfl) (fun _ => rfl) ?_
  refine V_iload_n 4 1 rfl rfl rfl ?_
  obtain ⟨hin, h⟩ := h
  refine V_iast 5 rfl (wsh hW rfl) hin ?_
  refine V_nm (fun σ1 eσ1 => ?_)
  replace h := h σ1 eσ1
  have hW := wire_I eσ1 hW
  refine V_pc 10 rfl ?_
  refine V_aload_n 6 0 rfl rfl rfl ?_
  refine V_getR 7 23 rfl clX12 flX12_57 (by decide) (wsh hW rfl) (fun _ => rfl) (wrf hW 109 rfl) ?_
  refine V_aload_n 8 0 rfl rfl rfl ?_
  refine V_get (v := .int (σ1.2.1 92 21)) 9 21 rfl clX12 flX12_338 (by decide) (wsh hW rfl) (fun _ => rfl) ?_
  refine V_iload_n 10 2 rfl rfl rfl ?_
  obtain ⟨hin, h⟩ := h
  refine V_iast 11 rfl (wsh hW rfl) hin ?_
  refine V_nm (fun σ2 eσ2 => ?_)
  replace h := h σ2 eσ2
  have hW := wire_I eσ2 hW
  refine V_pc 20 rfl ?_
  refine V_aload_n 12 0 rfl rfl rfl ?_
  refine V_dup 13 rfl rfl ?_
  refine V_get (v := .int (σ2.2.1 92 21)) 14 21 rfl clX12 flX12_338 (by decide) (wsh hW rfl) (fun _ => rfl) ?_
  refine V_iconst 15 (v := (1 : Int32)) rfl (by decide) ?_
  refine V_iadd 16 rfl ?_
  refine V_putI 17 21 rfl clX12 flX12_338 (by decide) (wsh hW rfl) rfl (fun _ _ => rfl) rfl rfl ?_
  refine V_nm (fun σ3 eσ3 => ?_)
  replace h := h σ3 eσ3
  have hW := wire_I eσ3 hW
  exact V_vret 18 rfl rfl ⟨hW, rfl, h⟩

def wX12_strength_j22 (a0 : Int32) (Q : Int32 → ab_S → Prop) (E : String → ab_S → Prop)  (σ : ab_S) : Prop := Q (3 : Int32) σ
def wX12_strength_j38 (a0 : Int32) (Q : Int32 → ab_S → Prop) (E : String → ab_S → Prop)  (σ : ab_S) : Prop := Q (2 : Int32) σ
def wX12_strength (a0 : Int32) (Q : Int32 → ab_S → Prop) (E : String → ab_S → Prop) (σ : ab_S) : Prop := ((¬ a0 = (30 : Int32)) → ((a0 = (15 : Int32)) → wX12_strength_j22 a0 Q E σ) ∧ (¬ (a0 = (15 : Int32)) → ((¬ a0 = (16 : Int32)) → ((a0 = (13 : Int32)) → wX12_strength_j38 a0 Q E σ) ∧ (¬ (a0 = (13 : Int32)) → ((¬ a0 = (14 : Int32)) → Q (1 : Int32) σ) ∧ (¬ (¬ a0 = (14 : Int32)) → wX12_strength_j38 a0 Q E σ))) ∧ (¬ (¬ a0 = (16 : Int32)) → wX12_strength_j22 a0 Q E σ))) ∧ (¬ (¬ a0 = (30 : Int32)) → Q (4 : Int32) σ)
set_option maxHeartbeats 4000000 in
set_option maxRecDepth 100000 in
theorem ceX12_strength {l : Launch} (hl : l.stackTraces = false) (B : Nat) {a0 : Int32}  {Q : Int32 → ab_S → Prop} {E : String → ab_S → Prop} {σ : ab_S} (hW : Wire σ) (h : wX12_strength a0 Q E σ) : ab_Mt l yX12_strength mdX12_strength B 0 0 0 0 [.int a0] σ (fun v σ' => Wire σ' ∧ ∃ r : Int32, v = some (.int r) ∧ Q r σ') (fun X σ' => Wire σ' ∧ E X σ') := by
  refine V_met hl ⟨rfl, rfl, by decide⟩ rfl dkX12_strength (Nat.le_of_ble_eq_true rfl) ?_
  show V l mdX12_strength B 0 0 0 0 (ab_End _ _) 0 [(0, .int a0)] [] σ
  revert h hW
  revert σ
  have k_j22 : ∀   (σ : ab_S), Wire σ → wX12_strength_j22 a0 Q E  σ → V l mdX12_strength B 0 0 0 0 (ab_End (fun v σ' => Wire σ' ∧ ∃ r : Int32, v = some (.int r) ∧ Q r σ') (fun X σ' => Wire σ' ∧ E X σ')) 22 [] [] σ := by
    intro   σ hW h
    refine V_iconst 11 (v := (3 : Int32)) rfl (by decide) ?_
    refine V_goto 12 (tgt := 43) rfl (by decide) ?_
    exact V_iret 22 rfl rfl ⟨hW, _, rfl, h⟩
  have k_j38 : ∀   (σ : ab_S), Wire σ → wX12_strength_j38 a0 Q E  σ → V l mdX12_strength B 0 0 0 0 (ab_End (fun v σ' => Wire σ' ∧ ∃ r : Int32, v = some (.int r) ∧ Q r σ') (fun X σ' => Wire σ' ∧ E X σ')) 38 [] [] σ := by
    intro   σ hW h
    refine V_iconst 19 (v := (2 : Int32)) rfl (by decide) ?_
    refine V_goto 20 (tgt := 43) rfl (by decide) ?_
    exact V_iret 22 rfl rfl ⟨hW, _, rfl, h⟩
  intro σ hW h
  refine V_iload_n 0 0 rfl rfl rfl ?_
  refine V_bipush 1 (v := (30 : Int32)) rfl (by decide) ?_
  refine V_icmp_ne 2 (tgt := 10) rfl (by decide) (fun hc => ?_) (fun hc => ?_)
  · replace h := h.1 hc
    refine V_iload_n 5 0 rfl rfl rfl ?_
    refine V_bipush 6 (v := (15 : Int32)) rfl (by decide) ?_
    refine V_icmp_eq 7 (tgt := 22) rfl (by decide) (fun hc => ?_) (fun hc => ?_)
    · replace h := h.1 hc
      refine V_sub [] (lv' := []) rfl ?_
      exact k_j22 σ hW h
    · replace h := h.2 hc
      refine V_pc 16 rfl ?_
      refine V_iload_n 8 0 rfl rfl rfl ?_
      refine V_bipush 9 (v := (16 : Int32)) rfl (by decide) ?_
      refine V_icmp_ne 10 (tgt := 26) rfl (by decide) (fun hc => ?_) (fun hc => ?_)
      · replace h := h.1 hc
        refine V_iload_n 13 0 rfl rfl rfl ?_
        refine V_bipush 14 (v := (13 : Int32)) rfl (by decide) ?_
        refine V_icmp_eq 15 (tgt := 38) rfl (by decide) (fun hc => ?_) (fun hc => ?_)
        · replace h := h.1 hc
          refine V_sub [] (lv' := []) rfl ?_
          exact k_j38 σ hW h
        · replace h := h.2 hc
          refine V_pc 32 rfl ?_
          refine V_iload_n 16 0 rfl rfl rfl ?_
          refine V_bipush 17 (v := (14 : Int32)) rfl (by decide) ?_
          refine V_icmp_ne 18 (tgt := 42) rfl (by decide) (fun hc => ?_) (fun hc => ?_)
          · replace h := h.1 hc
            refine V_iconst 21 (v := (1 : Int32)) rfl (by decide) ?_
            exact V_iret 22 rfl rfl ⟨hW, _, rfl, h⟩
          · replace h := h.2 hc
            refine V_pc 38 rfl ?_
            refine V_sub [] (lv' := []) rfl ?_
            exact k_j38 σ hW h
      · replace h := h.2 hc
        refine V_pc 22 rfl ?_
        refine V_sub [] (lv' := []) rfl ?_
        exact k_j22 σ hW h
  · replace h := h.2 hc
    refine V_pc 6 rfl ?_
    refine V_iconst 3 (v := (4 : Int32)) rfl (by decide) ?_
    refine V_goto 4 (tgt := 43) rfl (by decide) ?_
    exact V_iret 22 rfl rfl ⟨hW, _, rfl, h⟩

def wX12_settle_j88 (a0 : Int32) (Q : ab_S → Prop) (E : String → ab_S → Prop) (Bk : ab_S → Prop) (y0 : Int32) (σ : ab_S) : Prop := (∀ σ1 : ab_S, σ1 = ab_I σ 92 51 y0 → Bk σ1)
def wX12_settle_l0_b (a0 : Int32) (Q : ab_S → Prop) (E : String → ab_S → Prop) (Bk : ab_S → Prop)  (σ : ab_S) : Prop := vp_in ((σ.2.1 92 45) - (1 : Int32)) 40 ∧ ((((σ.2.1 92 49) ≤ (σ.2.1 126 ((σ.2.1 92 45) - (1 : Int32)).toNatClampNeg)) → Q σ) ∧ (¬ ((σ.2.1 92 49) ≤ (σ.2.1 126 ((σ.2.1 92 45) - (1 : Int32)).toNatClampNeg)) → vp_in ((σ.2.1 92 49) - (1 : Int32)) 80 ∧ (wX12_strength (σ.2.1 127 ((σ.2.1 92 49) - (1 : Int32)).toNatClampNeg) (fun u3 σ2 => ((u3 < a0) → Q σ2) ∧ (¬ (u3 < a0) → (∀ σ4 : ab_S, σ4 = ab_I σ2 92 49 ((σ2.2.1 92 49) - (1 : Int32)) → vp_in (σ4.2.1 92 49) 80 ∧ (wX12_emit (σ4.2.1 127 (σ4.2.1 92 49).toNatClampNeg) (0 : Int32) (fun σ5 => vp_in (σ5.2.1 92 49) 80 ∧ (((¬ (σ5.2.1 127 (σ5.2.1 92 49).toNatClampNeg) = (30 : Int32)) → wX12_settle_j88 a0 Q E Bk (σ5.2.1 92 51) σ5) ∧ (¬ (¬ (σ5.2.1 127 (σ5.2.1 92 49).toNatClampNeg) = (30 : Int32)) → wX12_settle_j88 a0 Q E Bk ((σ5.2.1 92 51) - (1 : Int32)) σ5))) E σ4)))) E σ)))
def wX12_settle_l0 (a0 : Int32) (Q : ab_S → Prop) (E : String → ab_S → Prop) : Nat → ab_S → Prop
  | 0, _ => False
  | n + 1, σ => wX12_settle_l0_b a0 Q E (wX12_settle_l0 a0 Q E n)  σ
def wX12_settle (a0 : Int32) (Q : ab_S → Prop) (E : String → ab_S → Prop) (σ : ab_S) : Prop := ∃ n, wX12_settle_l0 a0 Q E n σ
set_option maxHeartbeats 4000000 in
set_option maxRecDepth 100000 in
theorem ceX12_settle {l : Launch} (hl : l.stackTraces = false) (B : Nat) {a0 : Int32}  {Q : ab_S → Prop} {E : String → ab_S → Prop} {σ : ab_S} (hW : Wire σ) (h : wX12_settle a0 Q E σ) : ab_Mt l yX12_settle mdX12_settle B 1 22 0 0 [.ref 92, .int a0] σ (fun v σ' => Wire σ' ∧ v = none ∧ Q σ') (fun X σ' => Wire σ' ∧ E X σ') := by
  refine V_met hl ⟨rfl, rfl, by decide⟩ rfl dkX12_settle (Nat.le_of_ble_eq_true rfl) ?_
  show V l mdX12_settle B 1 22 0 0 (ab_End _ _) 0 [(0, .ref 92), (1, .int a0)] [] σ
  revert h hW
  revert σ
  have k_l0 : ∀ (n : Nat)   (σ : ab_S), Wire σ → wX12_settle_l0 a0 Q E n  σ → V l mdX12_settle B 1 22 0 0 (ab_End (fun v σ' => Wire σ' ∧ v = none ∧ Q σ') (fun X σ' => Wire σ' ∧ E X σ')) 0 [(0, .ref 92), (1, .int a0)] [] σ := by
    have step : ∀ (Bk : ab_S → Prop) (k_Bk : ∀   (σ : ab_S), Wire σ → Bk  σ → V l mdX12_settle B 1 22 0 0 (ab_End (fun v σ' => Wire σ' ∧ v = none ∧ Q σ') (fun X σ' => Wire σ' ∧ E X σ')) 0 [(0, .ref 92), (1, .int a0)] [] σ), ∀   (σ : ab_S), Wire σ → wX12_settle_l0_b a0 Q E Bk  σ → V l mdX12_settle B 1 22 0 0 (ab_End (fun v σ' => Wire σ' ∧ v = none ∧ Q σ') (fun X σ' => Wire σ' ∧ E X σ')) 0 [(0, .ref 92), (1, .int a0)] [] σ := by
      intro Bk k_Bk
      have k_j88 : ∀ (y0 : Int32)  (σ : ab_S), Wire σ → wX12_settle_j88 a0 Q E Bk y0 σ → V l mdX12_settle B 1 22 0 0 (ab_End (fun v σ' => Wire σ' ∧ v = none ∧ Q σ') (fun X σ' => Wire σ' ∧ E X σ')) 88 [(0, .ref 92), (1, .int a0)] [.int y0, .ref 92] σ := by
        intro y0  σ hW h
        refine V_putI 49 51 rfl clX12 flX12_357 (by decide) (wsh hW rfl) rfl (fun _ _ => rfl) rfl rfl ?_
        refine V_nm (fun σ1 eσ1 => ?_)
        replace h := h σ1 eσ1
        have hW := wire_I eσ1 hW
        refine V_goto 50 (tgt := 0) rfl (by decide) ?_
        exact k_Bk  σ1 hW h
      intro   σ hW h
      refine V_aload_n 0 0 rfl rfl rfl ?_
      refine V_get (v := .int (σ.2.1 92 49)) 1 49 rfl clX12 flX12_347 (by decide) (wsh hW rfl) (fun _ => rfl) ?_
      refine V_aload_n 2 0 rfl rfl rfl ?_
      refine V_getR 3 48 rfl clX12 flX12_111 (by decide) (wsh hW rfl) (fun _ => rfl) (wrf hW 127 rfl) ?_
      refine V_aload_n 4 0 rfl rfl rfl ?_
      refine V_get (v := .int (σ.2.1 92 45)) 5 45 rfl clX12 flX12_344 (by decide) (wsh hW rfl) (fun _ => rfl) ?_
      refine V_pc 12 rfl ?_
      refine V_iconst 6 (v := (1 : Int32)) rfl (by decide) ?_
      refine V_isub 7 rfl ?_
      obtain ⟨hin, h⟩ := h
      refine V_iald 8 rfl (wsh hW rfl) hin ?_
      refine V_icmp_le 9 (tgt := 94) rfl (by decide) (fun hc => ?_) (fun hc => ?_)
      · replace h := h.1 hc
        exact V_vret 51 rfl rfl ⟨hW, rfl, h⟩
      · replace h := h.2 hc
        refine V_pc 18 rfl ?_
        refine V_aload_n 10 0 rfl rfl rfl ?_
        refine V_getR 11 50 rfl clX12 flX12_114 (by decide) (wsh hW rfl) (fun _ => rfl) (wrf hW 128 rfl) ?_
        refine V_aload_n 12 0 rfl rfl rfl ?_
        refine V_get (v := .int (σ.2.1 92 49)) 13 49 rfl clX12 flX12_347 (by decide) (wsh hW rfl) (fun _ => rfl) ?_
        refine V_iconst 14 (v := (1 : Int32)) rfl (by decide) ?_
        refine V_isub 15 rfl ?_
        refine V_pc 28 rfl ?_
        obtain ⟨hin, h⟩ := h
        refine V_iald 16 rfl (wsh hW rfl) hin ?_
        refine V_callS 17 1 (as := [.int (σ.2.1 127 ((σ.2.1 92 49) - (1 : Int32)).toNatClampNeg)]) (rest := []) rfl mlX12_350 yvX12_strength rfl rfl (by decide) (by decide) (Nat.le_of_ble_eq_true rfl) (by decide) (by decide) (fun B9 => ceX12_strength hl B9 hW h) (fun X9 τ9 h9 => VX_out rfl h9) ?_
        rintro v9 σ2 ⟨hW, u3, rfl, h⟩
        refine V_iload_n 18 1 rfl rfl rfl ?_
        refine V_icmp_lt 19 (tgt := 94) rfl (by decide) (fun hc => ?_) (fun hc => ?_)
        · replace h := h.1 hc
          exact V_vret 51 rfl rfl ⟨hW, rfl, h⟩
        · replace h := h.2 hc
          refine V_pc 36 rfl ?_
          refine V_aload_n 20 0 rfl rfl rfl ?_
          refine V_dup 21 rfl rfl ?_
          refine V_get (v := .int (σ2.2.1 92 49)) 22 49 rfl clX12 flX12_347 (by decide) (wsh hW rfl) (fun _ => rfl) ?_
          refine V_iconst 23 (v := (1 : Int32)) rfl (by decide) ?_
          refine V_isub 24 rfl ?_
          refine V_putI 25 49 rfl clX12 flX12_347 (by decide) (wsh hW rfl) rfl (fun _ _ => rfl) rfl rfl ?_
          refine V_nm (fun σ4 eσ4 => ?_)
          replace h := h σ4 eσ4
          have hW := wire_I eσ4 hW
          refine V_aload_n 26 0 rfl rfl rfl ?_
          refine V_aload_n 27 0 rfl rfl rfl ?_
          refine V_getR 28 50 rfl clX12 flX12_114 (by decide) (wsh hW rfl) (fun _ => rfl) (wrf hW 128 rfl) ?_
          refine V_aload_n 29 0 rfl rfl rfl ?_
          refine V_get (v := .int (σ4.2.1 92 49)) 30 49 rfl clX12 flX12_347 (by decide) (wsh hW rfl) (fun _ => rfl) ?_
          refine V_pc 55 rfl ?_
          obtain ⟨hin, h⟩ := h
          refine V_iald 31 rfl (wsh hW rfl) hin ?_
          refine V_iconst 32 (v := (0 : Int32)) rfl (by decide) ?_
          refine V_callV 33 2 (as := [.int (σ4.2.1 127 (σ4.2.1 92 49).toNatClampNeg), .int (0 : Int32)]) (rest := []) rfl mlX12_353 yvX12_emit rfl rfl clX12 (wsh hW rfl) (by decide) (by decide) (Nat.le_of_ble_eq_true rfl) (by decide) (by decide) (fun B9 => ceX12_emit hl B9 hW h) (fun X9 τ9 h9 => VX_out rfl h9) ?_
          rintro v9 σ5 ⟨hW, rfl, h⟩
          refine V_aload_n 34 0 rfl rfl rfl ?_
          refine V_aload_n 35 0 rfl rfl rfl ?_
          refine V_getR 36 50 rfl clX12 flX12_114 (by decide) (wsh hW rfl) (fun _ => rfl) (wrf hW 128 rfl) ?_
          refine V_aload_n 37 0 rfl rfl rfl ?_
          refine V_get (v := .int (σ5.2.1 92 49)) 38 49 rfl clX12 flX12_347 (by decide) (wsh hW rfl) (fun _ => rfl) ?_
          refine V_pc 69 rfl ?_
          obtain ⟨hin, h⟩ := h
          refine V_iald 39 rfl (wsh hW rfl) hin ?_
          refine V_bipush 40 (v := (30 : Int32)) rfl (by decide) ?_
          refine V_icmp_ne 41 (tgt := 84) rfl (by decide) (fun hc => ?_) (fun hc => ?_)
          · replace h := h.1 hc
            refine V_aload_n 47 0 rfl rfl rfl ?_
            refine V_get (v := .int (σ5.2.1 92 51)) 48 51 rfl clX12 flX12_357 (by decide) (wsh hW rfl) (fun _ => rfl) ?_
            exact k_j88 (σ5.2.1 92 51) σ5 hW h
          · replace h := h.2 hc
            refine V_pc 75 rfl ?_
            refine V_aload_n 42 0 rfl rfl rfl ?_
            refine V_get (v := .int (σ5.2.1 92 51)) 43 51 rfl clX12 flX12_357 (by decide) (wsh hW rfl) (fun _ => rfl) ?_
            refine V_iconst 44 (v := (1 : Int32)) rfl (by decide) ?_
            refine V_isub 45 rfl ?_
            refine V_goto 46 (tgt := 88) rfl (by decide) ?_
            exact k_j88 ((σ5.2.1 92 51) - (1 : Int32)) σ5 hW h
    intro n
    induction n with
    | zero => intro   σ hW h; exact absurd h id
    | succ n ih => exact step  _ ih
  intro σ hW h
  obtain ⟨n, h⟩ := h
  exact k_l0 n σ hW h

def wX12_operand_j173 (a0 : Int32) (a1 : Int32) (Q : Int32 → ab_S → Prop) (E : String → ab_S → Prop)  (σ : ab_S) : Prop := wX12_settle (4 : Int32) (fun σ1 => Q (1 : Int32) σ1) E σ
def wX12_operand_j162 (a0 : Int32) (a1 : Int32) (Q : Int32 → ab_S → Prop) (E : String → ab_S → Prop)  (σ : ab_S) : Prop := wX12_operand_j173 a0 a1 Q E σ
def wX12_operand_j104 (a0 : Int32) (a1 : Int32) (Q : Int32 → ab_S → Prop) (E : String → ab_S → Prop)  (σ : ab_S) : Prop := ((¬ (σ.2.1 92 40) = (2 : Int32)) → wX12_fail (σ.2.1 92 41) (fun σ2 => wX12_operand_j173 a0 a1 Q E σ2) E σ) ∧ (¬ (¬ (σ.2.1 92 40) = (2 : Int32)) → ∀ v3 : Int32, v3 = (σ.2.1 92 41) → wX12_numberHere (fun u5 σ4 => wX12_advance (fun σ6 => ((¬ (σ6.2.1 92 40) = (7 : Int32)) → wX12_emit (40 : Int32) u5 (fun σ7 => wX12_operand_j162 a0 a1 Q E σ7) E σ6) ∧ (¬ (¬ (σ6.2.1 92 40) = (7 : Int32)) → wX12_attributeHere a0 u5 v3 (0 : Int32) (fun u9 σ8 => wX12_emit (50 : Int32) u9 (fun σ10 => wX12_operand_j162 a0 a1 Q E σ10) E σ8) E σ6)) E σ4) E σ)
def wX12_operand_j27 (a0 : Int32) (a1 : Int32) (Q : Int32 → ab_S → Prop) (E : String → ab_S → Prop)  (σ : ab_S) : Prop := ((¬ (σ.2.1 92 40) = (14 : Int32)) → ((¬ (σ.2.1 92 40) = (10 : Int32)) → ((¬ (σ.2.1 92 40) = (12 : Int32)) → wX12_operand_j104 a0 a1 Q E σ) ∧ (¬ (¬ (σ.2.1 92 40) = (12 : Int32)) → vp_in a0 31 ∧ ((((σ.2.1 102 a0.toNatClampNeg) = 0) → wX12_operand_j104 a0 a1 Q E σ) ∧ (¬ ((σ.2.1 102 a0.toNatClampNeg) = 0) → wX12_emit (41 : Int32) (0 : Int32) (fun σ11 => wX12_advance (fun σ12 => wX12_operand_j173 a0 a1 Q E σ12) E σ11) E σ)))) ∧ (¬ (¬ (σ.2.1 92 40) = (10 : Int32)) → wX12_deeper (fun σ13 => wX12_frame (1 : Int32) (fun σ14 => wX12_advance (fun σ15 => Q (0 : Int32) σ15) E σ14) E σ13) E σ)) ∧ (¬ (¬ (σ.2.1 92 40) = (14 : Int32)) → wX12_deeper (fun σ16 => wX12_hold (30 : Int32) (fun σ17 => Q (0 : Int32) σ17) E σ16) E σ)
def wX12_operand (a0 : Int32) (a1 : Int32) (Q : Int32 → ab_S → Prop) (E : String → ab_S → Prop) (σ : ab_S) : Prop := ((a1 = 0) → wX12_operand_j27 a0 a1 Q E σ) ∧ (¬ (a1 = 0) → ((¬ (σ.2.1 92 43) = (4 : Int32)) → wX12_operand_j27 a0 a1 Q E σ) ∧ (¬ (¬ (σ.2.1 92 43) = (4 : Int32)) → wX12_deeper (fun σ18 => wX12_frame (2 : Int32) (fun σ19 => wX12_advance (fun σ20 => Q (0 : Int32) σ20) E σ19) E σ18) E σ))
set_option maxHeartbeats 4000000 in
set_option maxRecDepth 100000 in
theorem ceX12_operand {l : Launch} (hl : l.stackTraces = false) (B : Nat) {a0 : Int32} {a1 : Int32}  {Q : Int32 → ab_S → Prop} {E : String → ab_S → Prop} {σ : ab_S} (hW : Wire σ) (h : wX12_operand a0 a1 Q E σ) : ab_Mt l yX12_operand mdX12_operand B 5 113 0 0 [.ref 92, .int a0, .int a1] σ (fun v σ' => Wire σ' ∧ ∃ r : Int32, v = some (.int r) ∧ Q r σ') (fun X σ' => Wire σ' ∧ E X σ') := by
  refine V_met hl ⟨rfl, rfl, by decide⟩ rfl dkX12_operand (Nat.le_of_ble_eq_true rfl) ?_
  show V l mdX12_operand B 5 113 0 0 (ab_End _ _) 0 [(0, .ref 92), (1, .int a0), (2, .int a1)] [] σ
  revert h hW
  revert σ
  have k_j173 : ∀   (σ : ab_S), Wire σ → wX12_operand_j173 a0 a1 Q E  σ → V l mdX12_operand B 5 113 0 0 (ab_End (fun v σ' => Wire σ' ∧ ∃ r : Int32, v = some (.int r) ∧ Q r σ') (fun X σ' => Wire σ' ∧ E X σ')) 173 [(0, .ref 92)] [] σ := by
    intro   σ hW h
    refine V_aload_n 90 0 rfl rfl rfl ?_
    refine V_iconst 91 (v := (4 : Int32)) rfl (by decide) ?_
    refine V_callV 92 1 (as := [.int (4 : Int32)]) (rest := []) rfl mlX12_360 yvX12_settle rfl rfl clX12 (wsh hW rfl) (by decide) (by decide) (Nat.le_of_ble_eq_true rfl) (by decide) (by decide) (fun B9 => ceX12_settle hl B9 hW h) (fun X9 τ9 h9 => VX_out rfl h9) ?_
    rintro v9 σ1 ⟨hW, rfl, h⟩
    refine V_iconst 93 (v := (1 : Int32)) rfl (by decide) ?_
    exact V_zret 94 rfl rfl rfl ⟨hW, _, rfl, h⟩
  have k_j162 : ∀   (σ : ab_S), Wire σ → wX12_operand_j162 a0 a1 Q E  σ → V l mdX12_operand B 5 113 0 0 (ab_End (fun v σ' => Wire σ' ∧ ∃ r : Int32, v = some (.int r) ∧ Q r σ') (fun X σ' => Wire σ' ∧ E X σ')) 162 [(0, .ref 92)] [] σ := by
    intro   σ hW h
    refine V_goto 85 (tgt := 173) rfl (by decide) ?_
    exact k_j173 σ hW h
  have k_j104 : ∀   (σ : ab_S), Wire σ → wX12_operand_j104 a0 a1 Q E  σ → V l mdX12_operand B 5 113 0 0 (ab_End (fun v σ' => Wire σ' ∧ ∃ r : Int32, v = some (.int r) ∧ Q r σ') (fun X σ' => Wire σ' ∧ E X σ')) 104 [(0, .ref 92), (1, .int a0)] [] σ := by
    intro   σ hW h
    refine V_aload_n 55 0 rfl rfl rfl ?_
    refine V_get (v := .int (σ.2.1 92 40)) 56 40 rfl clX12 flX12_267 (by decide) (wsh hW rfl) (fun _ => rfl) ?_
    refine V_iconst 57 (v := (2 : Int32)) rfl (by decide) ?_
    refine V_icmp_ne 58 (tgt := 165) rfl (by decide) (fun hc => ?_) (fun hc => ?_)
    · replace h := h.1 hc
      refine V_aload_n 86 0 rfl rfl rfl ?_
      refine V_aload_n 87 0 rfl rfl rfl ?_
      refine V_get (v := .int (σ.2.1 92 41)) 88 41 rfl clX12 flX12_252 (by decide) (wsh hW rfl) (fun _ => rfl) ?_
      refine V_callV 89 1 (as := [.int (σ.2.1 92 41)]) (rest := []) rfl mlX12_287 yvX12_fail rfl rfl clX12 (wsh hW rfl) (by decide) (by decide) (Nat.le_of_ble_eq_true rfl) (by decide) (by decide) (fun B9 => ceX12_fail hl B9 hW h) (fun X9 τ9 h9 => VX_out rfl h9) ?_
      rintro v9 σ2 ⟨hW, rfl, h⟩
      refine V_sub [0] (lv' := [(0, .ref 92)]) rfl ?_
      exact k_j173 σ2 hW h
    · replace h := h.2 hc
      refine V_pc 112 rfl ?_
      refine V_aload_n 59 0 rfl rfl rfl ?_
      refine V_get (v := .int (σ.2.1 92 41)) 60 41 rfl clX12 flX12_252 (by decide) (wsh hW rfl) (fun _ => rfl) ?_
      refine V_topi (fun v3 ev3 => ?_)
      replace h := h v3 ev3
      refine V_istore_n 61 (lv' := [(3, .int v3), (0, .ref 92), (1, .int a0)]) rfl rfl (by decide) rfl ?_
      refine V_aload_n 62 1 rfl rfl rfl ?_
      refine V_callV 63 0 (as := []) (rest := []) rfl mlX12_331 yvX12_numberHere rfl rfl clX12 (wsh hW rfl) (by decide) (by decide) (Nat.le_of_ble_eq_true rfl) (by decide) (by decide) (fun B9 => ceX12_numberHere hl B9 hW h) (fun X9 τ9 h9 => VX_out rfl h9) ?_
      rintro v9 σ4 ⟨hW, u5, rfl, h⟩
      refine V_istore 64 (lv' := [(4, .int u5), (3, .int v3), (0, .ref 92), (1, .int a0)]) rfl (by decide) rfl ?_
      refine V_aload_n 65 2 rfl rfl rfl ?_
      refine V_callV 66 0 (as := []) (rest := []) rfl mlX12_295 yvX12_advance rfl rfl clX12 (wsh hW rfl) (by decide) (by decide) (Nat.le_of_ble_eq_true rfl) (by decide) (by decide) (fun B9 => ceX12_advance hl B9 hW h) (fun X9 τ9 h9 => VX_out rfl h9) ?_
      rintro v9 σ6 ⟨hW, rfl, h⟩
      refine V_aload_n 67 2 rfl rfl rfl ?_
      refine V_get (v := .int (σ6.2.1 92 40)) 68 40 rfl clX12 flX12_267 (by decide) (wsh hW rfl) (fun _ => rfl) ?_
      refine V_bipush 69 (v := (7 : Int32)) rfl (by decide) ?_
      refine V_icmp_ne 70 (tgt := 154) rfl (by decide) (fun hc => ?_) (fun hc => ?_)
      · replace h := h.1 hc
        refine V_aload_n 81 2 rfl rfl rfl ?_
        refine V_bipush 82 (v := (40 : Int32)) rfl (by decide) ?_
        refine V_iload 83 0 rfl rfl ?_
        refine V_callV 84 2 (as := [.int (40 : Int32), .int u5]) (rest := []) rfl mlX12_353 yvX12_emit rfl rfl clX12 (wsh hW rfl) (by decide) (by decide) (Nat.le_of_ble_eq_true rfl) (by decide) (by decide) (fun B9 => ceX12_emit hl B9 hW h) (fun X9 τ9 h9 => VX_out rfl h9) ?_
        rintro v9 σ7 ⟨hW, rfl, h⟩
        refine V_sub [2] (lv' := [(0, .ref 92)]) rfl ?_
        exact k_j162 σ7 hW h
      · replace h := h.2 hc
        refine V_pc 136 rfl ?_
        refine V_aload_n 71 2 rfl rfl rfl ?_
        refine V_bipush 72 (v := (50 : Int32)) rfl (by decide) ?_
        refine V_aload_n 73 2 rfl rfl rfl ?_
        refine V_iload_n 74 3 rfl rfl rfl ?_
        refine V_iload 75 0 rfl rfl ?_
        refine V_iload_n 76 1 rfl rfl rfl ?_
        refine V_pc 144 rfl ?_
        refine V_iconst 77 (v := (0 : Int32)) rfl (by decide) ?_
        refine V_callV 78 4 (as := [.int a0, .int u5, .int v3, .int (0 : Int32)]) (rest := [.int (50 : Int32), .ref 92]) rfl mlX12_334 yvX12_attributeHere rfl rfl clX12 (wsh hW rfl) (by decide) (by decide) (Nat.le_of_ble_eq_true rfl) (by decide) (by decide) (fun B9 => ceX12_attributeHere hl B9 hW h) (fun X9 τ9 h9 => VX_out rfl h9) ?_
        rintro v9 σ8 ⟨hW, u9, rfl, h⟩
        refine V_callV 79 2 (as := [.int (50 : Int32), .int u9]) (rest := []) rfl mlX12_353 yvX12_emit rfl rfl clX12 (wsh hW rfl) (by decide) (by decide) (Nat.le_of_ble_eq_true rfl) (by decide) (by decide) (fun B9 => ceX12_emit hl B9 hW h) (fun X9 τ9 h9 => VX_out rfl h9) ?_
        rintro v9 σ10 ⟨hW, rfl, h⟩
        refine V_goto 80 (tgt := 162) rfl (by decide) ?_
        refine V_sub [2] (lv' := [(0, .ref 92)]) rfl ?_
        exact k_j162 σ10 hW h
  have k_j27 : ∀   (σ : ab_S), Wire σ → wX12_operand_j27 a0 a1 Q E  σ → V l mdX12_operand B 5 113 0 0 (ab_End (fun v σ' => Wire σ' ∧ ∃ r : Int32, v = some (.int r) ∧ Q r σ') (fun X σ' => Wire σ' ∧ E X σ')) 27 [(0, .ref 92), (1, .int a0)] [] σ := by
    intro   σ hW h
    refine V_aload_n 15 0 rfl rfl rfl ?_
    refine V_get (v := .int (σ.2.1 92 40)) 16 40 rfl clX12 flX12_267 (by decide) (wsh hW rfl) (fun _ => rfl) ?_
    refine V_bipush 17 (v := (14 : Int32)) rfl (by decide) ?_
    refine V_icmp_ne 18 (tgt := 48) rfl (by decide) (fun hc => ?_) (fun hc => ?_)
    · replace h := h.1 hc
      refine V_aload_n 26 0 rfl rfl rfl ?_
      refine V_get (v := .int (σ.2.1 92 40)) 27 40 rfl clX12 flX12_267 (by decide) (wsh hW rfl) (fun _ => rfl) ?_
      refine V_bipush 28 (v := (10 : Int32)) rfl (by decide) ?_
      refine V_icmp_ne 29 (tgt := 72) rfl (by decide) (fun hc => ?_) (fun hc => ?_)
      · replace h := h.1 hc
        refine V_aload_n 39 0 rfl rfl rfl ?_
        refine V_get (v := .int (σ.2.1 92 40)) 40 40 rfl clX12 flX12_267 (by decide) (wsh hW rfl) (fun _ => rfl) ?_
        refine V_bipush 41 (v := (12 : Int32)) rfl (by decide) ?_
        refine V_icmp_ne 42 (tgt := 104) rfl (by decide) (fun hc => ?_) (fun hc => ?_)
        · replace h := h.1 hc
          exact k_j104 σ hW h
        · replace h := h.2 hc
          refine V_pc 81 rfl ?_
          refine V_aload_n 43 0 rfl rfl rfl ?_
          refine V_getR 44 16 rfl clX12 flX12_38 (by decide) (wsh hW rfl) (fun _ => rfl) (wrf hW 103 rfl) ?_
          refine V_iload_n 45 1 rfl rfl rfl ?_
          obtain ⟨hin, h⟩ := h
          refine V_zald 46 rfl (wsh hW rfl) hin ?_
          refine V_if_eq 47 (tgt := 104) rfl (by decide) (fun hc => ?_) (fun hc => ?_)
          · replace h := h.1 hc
            exact k_j104 σ hW h
          · replace h := h.2 hc
            refine V_pc 90 rfl ?_
            refine V_aload_n 48 0 rfl rfl rfl ?_
            refine V_bipush 49 (v := (41 : Int32)) rfl (by decide) ?_
            refine V_iconst 50 (v := (0 : Int32)) rfl (by decide) ?_
            refine V_callV 51 2 (as := [.int (41 : Int32), .int (0 : Int32)]) (rest := []) rfl mlX12_353 yvX12_emit rfl rfl clX12 (wsh hW rfl) (by decide) (by decide) (Nat.le_of_ble_eq_true rfl) (by decide) (by decide) (fun B9 => ceX12_emit hl B9 hW h) (fun X9 τ9 h9 => VX_out rfl h9) ?_
            rintro v9 σ11 ⟨hW, rfl, h⟩
            refine V_aload_n 52 0 rfl rfl rfl ?_
            refine V_callV 53 0 (as := []) (rest := []) rfl mlX12_295 yvX12_advance rfl rfl clX12 (wsh hW rfl) (by decide) (by decide) (Nat.le_of_ble_eq_true rfl) (by decide) (by decide) (fun B9 => ceX12_advance hl B9 hW h) (fun X9 τ9 h9 => VX_out rfl h9) ?_
            rintro v9 σ12 ⟨hW, rfl, h⟩
            refine V_goto 54 (tgt := 173) rfl (by decide) ?_
            refine V_sub [0] (lv' := [(0, .ref 92)]) rfl ?_
            exact k_j173 σ12 hW h
      · replace h := h.2 hc
        refine V_pc 57 rfl ?_
        refine V_aload_n 30 0 rfl rfl rfl ?_
        refine V_callV 31 0 (as := []) (rest := []) rfl mlX12_363 yvX12_deeper rfl rfl clX12 (wsh hW rfl) (by decide) (by decide) (Nat.le_of_ble_eq_true rfl) (by decide) (by decide) (fun B9 => ceX12_deeper hl B9 hW h) (fun X9 τ9 h9 => VX_out rfl h9) ?_
        rintro v9 σ13 ⟨hW, rfl, h⟩
        refine V_aload_n 32 0 rfl rfl rfl ?_
        refine V_iconst 33 (v := (1 : Int32)) rfl (by decide) ?_
        refine V_callV 34 1 (as := [.int (1 : Int32)]) (rest := []) rfl mlX12_366 yvX12_frame rfl rfl clX12 (wsh hW rfl) (by decide) (by decide) (Nat.le_of_ble_eq_true rfl) (by decide) (by decide) (fun B9 => ceX12_frame hl B9 hW h) (fun X9 τ9 h9 => VX_out rfl h9) ?_
        rintro v9 σ14 ⟨hW, rfl, h⟩
        refine V_aload_n 35 0 rfl rfl rfl ?_
        refine V_callV 36 0 (as := []) (rest := []) rfl mlX12_295 yvX12_advance rfl rfl clX12 (wsh hW rfl) (by decide) (by decide) (Nat.le_of_ble_eq_true rfl) (by decide) (by decide) (fun B9 => ceX12_advance hl B9 hW h) (fun X9 τ9 h9 => VX_out rfl h9) ?_
        rintro v9 σ15 ⟨hW, rfl, h⟩
        refine V_iconst 37 (v := (0 : Int32)) rfl (by decide) ?_
        exact V_zret 38 rfl rfl rfl ⟨hW, _, rfl, h⟩
    · replace h := h.2 hc
      refine V_pc 36 rfl ?_
      refine V_aload_n 19 0 rfl rfl rfl ?_
      refine V_callV 20 0 (as := []) (rest := []) rfl mlX12_363 yvX12_deeper rfl rfl clX12 (wsh hW rfl) (by decide) (by decide) (Nat.le_of_ble_eq_true rfl) (by decide) (by decide) (fun B9 => ceX12_deeper hl B9 hW h) (fun X9 τ9 h9 => VX_out rfl h9) ?_
      rintro v9 σ16 ⟨hW, rfl, h⟩
      refine V_aload_n 21 0 rfl rfl rfl ?_
      refine V_bipush 22 (v := (30 : Int32)) rfl (by decide) ?_
      refine V_callV 23 1 (as := [.int (30 : Int32)]) (rest := []) rfl mlX12_369 yvX12_hold rfl rfl clX12 (wsh hW rfl) (by decide) (by decide) (Nat.le_of_ble_eq_true rfl) (by decide) (by decide) (fun B9 => ceX12_hold hl B9 hW h) (fun X9 τ9 h9 => VX_out rfl h9) ?_
      rintro v9 σ17 ⟨hW, rfl, h⟩
      refine V_iconst 24 (v := (0 : Int32)) rfl (by decide) ?_
      exact V_zret 25 rfl rfl rfl ⟨hW, _, rfl, h⟩
  intro σ hW h
  refine V_iload_n 0 2 rfl rfl rfl ?_
  refine V_if_eq 1 (tgt := 27) rfl (by decide) (fun hc => ?_) (fun hc => ?_)
  · replace h := h.1 hc
    refine V_sub [0, 1] (lv' := [(0, .ref 92), (1, .int a0)]) rfl ?_
    exact k_j27 σ hW h
  · replace h := h.2 hc
    refine V_pc 4 rfl ?_
    refine V_aload_n 2 0 rfl rfl rfl ?_
    refine V_get (v := .int (σ.2.1 92 43)) 3 43 rfl clX12 flX12_264 (by decide) (wsh hW rfl) (fun _ => rfl) ?_
    refine V_iconst 4 (v := (4 : Int32)) rfl (by decide) ?_
    refine V_icmp_ne 5 (tgt := 27) rfl (by decide) (fun hc => ?_) (fun hc => ?_)
    · replace h := h.1 hc
      refine V_sub [0, 1] (lv' := [(0, .ref 92), (1, .int a0)]) rfl ?_
      exact k_j27 σ hW h
    · replace h := h.2 hc
      refine V_pc 12 rfl ?_
      refine V_aload_n 6 0 rfl rfl rfl ?_
      refine V_callV 7 0 (as := []) (rest := []) rfl mlX12_363 yvX12_deeper rfl rfl clX12 (wsh hW rfl) (by decide) (by decide) (Nat.le_of_ble_eq_true rfl) (by decide) (by decide) (fun B9 => ceX12_deeper hl B9 hW h) (fun X9 τ9 h9 => VX_out rfl h9) ?_
      rintro v9 σ18 ⟨hW, rfl, h⟩
      refine V_aload_n 8 0 rfl rfl rfl ?_
      refine V_iconst 9 (v := (2 : Int32)) rfl (by decide) ?_
      refine V_callV 10 1 (as := [.int (2 : Int32)]) (rest := []) rfl mlX12_366 yvX12_frame rfl rfl clX12 (wsh hW rfl) (by decide) (by decide) (Nat.le_of_ble_eq_true rfl) (by decide) (by decide) (fun B9 => ceX12_frame hl B9 hW h) (fun X9 τ9 h9 => VX_out rfl h9) ?_
      rintro v9 σ19 ⟨hW, rfl, h⟩
      refine V_aload_n 11 0 rfl rfl rfl ?_
      refine V_callV 12 0 (as := []) (rest := []) rfl mlX12_295 yvX12_advance rfl rfl clX12 (wsh hW rfl) (by decide) (by decide) (Nat.le_of_ble_eq_true rfl) (by decide) (by decide) (fun B9 => ceX12_advance hl B9 hW h) (fun X9 τ9 h9 => VX_out rfl h9) ?_
      rintro v9 σ20 ⟨hW, rfl, h⟩
      refine V_iconst 13 (v := (0 : Int32)) rfl (by decide) ?_
      exact V_zret 14 rfl rfl rfl ⟨hW, _, rfl, h⟩

def wX12_endChoices_l5_b (Q : ab_S → Prop) (E : String → ab_S → Prop) (Bk : ab_S → Prop)  (σ : ab_S) : Prop := vp_in ((σ.2.1 92 45) - (1 : Int32)) 40 ∧ (((¬ (σ.2.1 124 ((σ.2.1 92 45) - (1 : Int32)).toNatClampNeg) = (4 : Int32)) → Q σ) ∧ (¬ (¬ (σ.2.1 124 ((σ.2.1 92 45) - (1 : Int32)).toNatClampNeg) = (4 : Int32)) → (∀ σ1 : ab_S, σ1 = ab_I σ 92 45 ((σ.2.1 92 45) - (1 : Int32)) → wX12_emit (31 : Int32) (0 : Int32) (fun σ2 => (∀ σ3 : ab_S, σ3 = ab_I σ2 92 51 ((σ2.2.1 92 51) - (1 : Int32)) → wX12_settle (1 : Int32) (fun σ4 => Bk σ4) E σ3)) E σ1)))
def wX12_endChoices_l5 (Q : ab_S → Prop) (E : String → ab_S → Prop) : Nat → ab_S → Prop
  | 0, _ => False
  | n + 1, σ => wX12_endChoices_l5_b Q E (wX12_endChoices_l5 Q E n)  σ
def wX12_endChoices  (Q : ab_S → Prop) (E : String → ab_S → Prop) (σ : ab_S) : Prop := wX12_settle (1 : Int32) (fun σ5 => ∃ n, wX12_endChoices_l5 Q E n σ5) E σ
set_option maxHeartbeats 4000000 in
set_option maxRecDepth 100000 in
theorem ceX12_endChoices {l : Launch} (hl : l.stackTraces = false) (B : Nat)   {Q : ab_S → Prop} {E : String → ab_S → Prop} {σ : ab_S} (hW : Wire σ) (h : wX12_endChoices  Q E σ) : ab_Mt l yX12_endChoices mdX12_endChoices B 2 43 0 0 [.ref 92] σ (fun v σ' => Wire σ' ∧ v = none ∧ Q σ') (fun X σ' => Wire σ' ∧ E X σ') := by
  refine V_met hl ⟨rfl, rfl, by decide⟩ rfl dkX12_endChoices (Nat.le_of_ble_eq_true rfl) ?_
  show V l mdX12_endChoices B 2 43 0 0 (ab_End _ _) 0 [(0, .ref 92)] [] σ
  revert h hW
  revert σ
  have k_l5 : ∀ (n : Nat)   (σ : ab_S), Wire σ → wX12_endChoices_l5 Q E n  σ → V l mdX12_endChoices B 2 43 0 0 (ab_End (fun v σ' => Wire σ' ∧ v = none ∧ Q σ') (fun X σ' => Wire σ' ∧ E X σ')) 5 [(0, .ref 92)] [] σ := by
    have step : ∀ (Bk : ab_S → Prop) (k_Bk : ∀   (σ : ab_S), Wire σ → Bk  σ → V l mdX12_endChoices B 2 43 0 0 (ab_End (fun v σ' => Wire σ' ∧ v = none ∧ Q σ') (fun X σ' => Wire σ' ∧ E X σ')) 5 [(0, .ref 92)] [] σ), ∀   (σ : ab_S), Wire σ → wX12_endChoices_l5_b Q E Bk  σ → V l mdX12_endChoices B 2 43 0 0 (ab_End (fun v σ' => Wire σ' ∧ v = none ∧ Q σ') (fun X σ' => Wire σ' ∧ E X σ')) 5 [(0, .ref 92)] [] σ := by
      intro Bk k_Bk
      intro   σ hW h
      refine V_aload_n 3 0 rfl rfl rfl ?_
      refine V_getR 4 46 rfl clX12 flX12_105 (by decide) (wsh hW rfl) (fun _ => rfl) (wrf hW 125 rfl) ?_
      refine V_aload_n 5 0 rfl rfl rfl ?_
      refine V_get (v := .int (σ.2.1 92 45)) 6 45 rfl clX12 flX12_344 (by decide) (wsh hW rfl) (fun _ => rfl) ?_
      refine V_iconst 7 (v := (1 : Int32)) rfl (by decide) ?_
      refine V_isub 8 rfl ?_
      refine V_pc 15 rfl ?_
      obtain ⟨hin, h⟩ := h
      refine V_iald 9 rfl (wsh hW rfl) hin ?_
      refine V_iconst 10 (v := (4 : Int32)) rfl (by decide) ?_
      refine V_icmp_ne 11 (tgt := 55) rfl (by decide) (fun hc => ?_) (fun hc => ?_)
      · replace h := h.1 hc
        exact V_vret 32 rfl rfl ⟨hW, rfl, h⟩
      · replace h := h.2 hc
        refine V_pc 20 rfl ?_
        refine V_aload_n 12 0 rfl rfl rfl ?_
        refine V_dup 13 rfl rfl ?_
        refine V_get (v := .int (σ.2.1 92 45)) 14 45 rfl clX12 flX12_344 (by decide) (wsh hW rfl) (fun _ => rfl) ?_
        refine V_iconst 15 (v := (1 : Int32)) rfl (by decide) ?_
        refine V_isub 16 rfl ?_
        refine V_putI 17 45 rfl clX12 flX12_344 (by decide) (wsh hW rfl) rfl (fun _ _ => rfl) rfl rfl ?_
        refine V_nm (fun σ1 eσ1 => ?_)
        replace h := h σ1 eσ1
        have hW := wire_I eσ1 hW
        refine V_aload_n 18 0 rfl rfl rfl ?_
        refine V_bipush 19 (v := (31 : Int32)) rfl (by decide) ?_
        refine V_iconst 20 (v := (0 : Int32)) rfl (by decide) ?_
        refine V_callV 21 2 (as := [.int (31 : Int32), .int (0 : Int32)]) (rest := []) rfl mlX12_353 yvX12_emit rfl rfl clX12 (wsh hW rfl) (by decide) (by decide) (Nat.le_of_ble_eq_true rfl) (by decide) (by decide) (fun B9 => ceX12_emit hl B9 hW h) (fun X9 τ9 h9 => VX_out rfl h9) ?_
        rintro v9 σ2 ⟨hW, rfl, h⟩
        refine V_aload_n 22 0 rfl rfl rfl ?_
        refine V_dup 23 rfl rfl ?_
        refine V_get (v := .int (σ2.2.1 92 51)) 24 51 rfl clX12 flX12_357 (by decide) (wsh hW rfl) (fun _ => rfl) ?_
        refine V_iconst 25 (v := (1 : Int32)) rfl (by decide) ?_
        refine V_isub 26 rfl ?_
        refine V_pc 44 rfl ?_
        refine V_putI 27 51 rfl clX12 flX12_357 (by decide) (wsh hW rfl) rfl (fun _ _ => rfl) rfl rfl ?_
        refine V_nm (fun σ3 eσ3 => ?_)
        replace h := h σ3 eσ3
        have hW := wire_I eσ3 hW
        refine V_aload_n 28 0 rfl rfl rfl ?_
        refine V_iconst 29 (v := (1 : Int32)) rfl (by decide) ?_
        refine V_callV 30 1 (as := [.int (1 : Int32)]) (rest := []) rfl mlX12_360 yvX12_settle rfl rfl clX12 (wsh hW rfl) (by decide) (by decide) (Nat.le_of_ble_eq_true rfl) (by decide) (by decide) (fun B9 => ceX12_settle hl B9 hW h) (fun X9 τ9 h9 => VX_out rfl h9) ?_
        rintro v9 σ4 ⟨hW, rfl, h⟩
        refine V_goto 31 (tgt := 5) rfl (by decide) ?_
        exact k_Bk  σ4 hW h
    intro n
    induction n with
    | zero => intro   σ hW h; exact absurd h id
    | succ n ih => exact step  _ ih
  intro σ hW h
  refine V_aload_n 0 0 rfl rfl rfl ?_
  refine V_iconst 1 (v := (1 : Int32)) rfl (by decide) ?_
  refine V_callV 2 1 (as := [.int (1 : Int32)]) (rest := []) rfl mlX12_360 yvX12_settle rfl rfl clX12 (wsh hW rfl) (by decide) (by decide) (Nat.le_of_ble_eq_true rfl) (by decide) (by decide) (fun B9 => ceX12_settle hl B9 hW h) (fun X9 τ9 h9 => VX_out rfl h9) ?_
  rintro v9 σ5 ⟨hW, rfl, h⟩
  obtain ⟨n, h⟩ := h
  exact k_l5 n σ5 hW h

def wX12_behind_j36 (Q : Int32 → ab_S → Prop) (E : String → ab_S → Prop)  (σ : ab_S) : Prop := wX12_strength (σ.2.1 92 40) (fun u2 σ1 => wX12_settle u2 (fun σ3 => wX12_hold (σ3.2.1 92 40) (fun σ4 => Q (1 : Int32) σ4) E σ3) E σ1) E σ
def wX12_behind_j203 (Q : Int32 → ab_S → Prop) (E : String → ab_S → Prop) (x1 : Int32) (σ : ab_S) : Prop := vp_in ((σ.2.1 92 45) - (1 : Int32)) 40 ∧ (∀ σ5 : ab_S, σ5 = ab_I σ 124 ((σ.2.1 92 45) - (1 : Int32)).toNatClampNeg (x1 + (1 : Int32)) → vp_in ((σ5.2.1 92 45) - (1 : Int32)) 40 ∧ (∀ σ6 : ab_S, σ6 = ab_I σ5 125 ((σ5.2.1 92 45) - (1 : Int32)).toNatClampNeg (vp_nar .boolean (0 : Int32)) → wX12_advance (fun σ7 => Q (2 : Int32) σ7) E σ6))
def wX12_behind_j235 (Q : Int32 → ab_S → Prop) (E : String → ab_S → Prop) (x1 : Int32) (σ : ab_S) : Prop := ((x1 = 0) → Q (0 : Int32) σ) ∧ (¬ (x1 = 0) → wX12_fail (σ.2.1 92 41) (fun σ8 => Q (0 : Int32) σ8) E σ)
def wX12_behind_j189 (Q : Int32 → ab_S → Prop) (E : String → ab_S → Prop) (x1 : Int32) (σ : ab_S) : Prop := ((¬ (σ.2.1 92 43) = (6 : Int32)) → wX12_behind_j235 Q E x1 σ) ∧ (¬ (¬ (σ.2.1 92 43) = (6 : Int32)) → ((¬ x1 = (3 : Int32)) → wX12_behind_j235 Q E x1 σ) ∧ (¬ (¬ x1 = (3 : Int32)) → wX12_behind_j203 Q E x1 σ))
def wX12_behind_j176 (Q : Int32 → ab_S → Prop) (E : String → ab_S → Prop) (x1 : Int32) (σ : ab_S) : Prop := ((¬ (σ.2.1 92 43) = (5 : Int32)) → wX12_behind_j189 Q E x1 σ) ∧ (¬ (¬ (σ.2.1 92 43) = (5 : Int32)) → ((x1 = (2 : Int32)) → wX12_behind_j203 Q E x1 σ) ∧ (¬ (x1 = (2 : Int32)) → wX12_behind_j189 Q E x1 σ))
def wX12_behind_j115 (Q : Int32 → ab_S → Prop) (E : String → ab_S → Prop)  (σ : ab_S) : Prop := wX12_endChoices (fun σ9 => vp_in ((σ9.2.1 92 45) - (1 : Int32)) 40 ∧ (∀ v10 : Int32, v10 = (σ9.2.1 124 ((σ9.2.1 92 45) - (1 : Int32)).toNatClampNeg) → ((¬ (σ9.2.1 92 40) = (11 : Int32)) → wX12_behind_j176 Q E v10 σ9) ∧ (¬ (¬ (σ9.2.1 92 40) = (11 : Int32)) → ((¬ v10 = (1 : Int32)) → wX12_behind_j176 Q E v10 σ9) ∧ (¬ (¬ v10 = (1 : Int32)) → (∀ σ11 : ab_S, σ11 = ab_I σ9 92 45 ((σ9.2.1 92 45) - (1 : Int32)) → (∀ σ12 : ab_S, σ12 = ab_I σ11 92 51 ((σ11.2.1 92 51) - (1 : Int32)) → wX12_advance (fun σ13 => wX12_settle (4 : Int32) (fun σ14 => Q (3 : Int32) σ14) E σ13) E σ12)))))) E σ
def wX12_behind_j74 (Q : Int32 → ab_S → Prop) (E : String → ab_S → Prop)  (σ : ab_S) : Prop := vp_in ((σ.2.1 92 45) - (1 : Int32)) 40 ∧ (((¬ (σ.2.1 125 ((σ.2.1 92 45) - (1 : Int32)).toNatClampNeg) = 0) → wX12_behind_j115 Q E σ) ∧ (¬ (¬ (σ.2.1 125 ((σ.2.1 92 45) - (1 : Int32)).toNatClampNeg) = 0) → wX12_settle (2 : Int32) (fun σ15 => vp_in ((σ15.2.1 92 45) - (1 : Int32)) 40 ∧ (∀ σ16 : ab_S, σ16 = ab_I σ15 125 ((σ15.2.1 92 45) - (1 : Int32)).toNatClampNeg (vp_nar .boolean (1 : Int32)) → wX12_hold (σ16.2.1 92 40) (fun σ17 => Q (1 : Int32) σ17) E σ16)) E σ))
def wX12_behind  (Q : Int32 → ab_S → Prop) (E : String → ab_S → Prop) (σ : ab_S) : Prop := (((σ.2.1 92 40) = (15 : Int32)) → wX12_behind_j36 Q E σ) ∧ (¬ ((σ.2.1 92 40) = (15 : Int32)) → (((σ.2.1 92 40) = (16 : Int32)) → wX12_behind_j36 Q E σ) ∧ (¬ ((σ.2.1 92 40) = (16 : Int32)) → (((σ.2.1 92 40) = (13 : Int32)) → wX12_behind_j36 Q E σ) ∧ (¬ ((σ.2.1 92 40) = (13 : Int32)) → ((¬ (σ.2.1 92 40) = (14 : Int32)) → (((σ.2.1 92 40) = (17 : Int32)) → wX12_behind_j74 Q E σ) ∧ (¬ ((σ.2.1 92 40) = (17 : Int32)) → ((¬ (σ.2.1 92 40) = (4 : Int32)) → wX12_behind_j115 Q E σ) ∧ (¬ (¬ (σ.2.1 92 40) = (4 : Int32)) → wX12_behind_j74 Q E σ))) ∧ (¬ (¬ (σ.2.1 92 40) = (14 : Int32)) → wX12_behind_j36 Q E σ))))
set_option maxHeartbeats 4000000 in
set_option maxRecDepth 100000 in
theorem ceX12_behind {l : Launch} (hl : l.stackTraces = false) (B : Nat)   {Q : Int32 → ab_S → Prop} {E : String → ab_S → Prop} {σ : ab_S} (hW : Wire σ) (h : wX12_behind  Q E σ) : ab_Mt l yX12_behind mdX12_behind B 4 86 0 0 [.ref 92] σ (fun v σ' => Wire σ' ∧ ∃ r : Int32, v = some (.int r) ∧ Q r σ') (fun X σ' => Wire σ' ∧ E X σ') := by
  refine V_met hl ⟨rfl, rfl, by decide⟩ rfl dkX12_behind (Nat.le_of_ble_eq_true rfl) ?_
  show V l mdX12_behind B 4 86 0 0 (ab_End _ _) 0 [(0, .ref 92)] [] σ
  revert h hW
  revert σ
  have k_j36 : ∀   (σ : ab_S), Wire σ → wX12_behind_j36 Q E  σ → V l mdX12_behind B 4 86 0 0 (ab_End (fun v σ' => Wire σ' ∧ ∃ r : Int32, v = some (.int r) ∧ Q r σ') (fun X σ' => Wire σ' ∧ E X σ')) 36 [(0, .ref 92)] [] σ := by
    intro   σ hW h
    refine V_aload_n 16 0 rfl rfl rfl ?_
    refine V_aload_n 17 0 rfl rfl rfl ?_
    refine V_get (v := .int (σ.2.1 92 40)) 18 40 rfl clX12 flX12_267 (by decide) (wsh hW rfl) (fun _ => rfl) ?_
    refine V_callS 19 1 (as := [.int (σ.2.1 92 40)]) (rest := [.ref 92]) rfl mlX12_350 yvX12_strength rfl rfl (by decide) (by decide) (Nat.le_of_ble_eq_true rfl) (by decide) (by decide) (fun B9 => ceX12_strength hl B9 hW h) (fun X9 τ9 h9 => VX_out rfl h9) ?_
    rintro v9 σ1 ⟨hW, u2, rfl, h⟩
    refine V_callV 20 1 (as := [.int u2]) (rest := []) rfl mlX12_360 yvX12_settle rfl rfl clX12 (wsh hW rfl) (by decide) (by decide) (Nat.le_of_ble_eq_true rfl) (by decide) (by decide) (fun B9 => ceX12_settle hl B9 hW h) (fun X9 τ9 h9 => VX_out rfl h9) ?_
    rintro v9 σ3 ⟨hW, rfl, h⟩
    refine V_aload_n 21 0 rfl rfl rfl ?_
    refine V_aload_n 22 0 rfl rfl rfl ?_
    refine V_get (v := .int (σ3.2.1 92 40)) 23 40 rfl clX12 flX12_267 (by decide) (wsh hW rfl) (fun _ => rfl) ?_
    refine V_callV 24 1 (as := [.int (σ3.2.1 92 40)]) (rest := []) rfl mlX12_369 yvX12_hold rfl rfl clX12 (wsh hW rfl) (by decide) (by decide) (Nat.le_of_ble_eq_true rfl) (by decide) (by decide) (fun B9 => ceX12_hold hl B9 hW h) (fun X9 τ9 h9 => VX_out rfl h9) ?_
    rintro v9 σ4 ⟨hW, rfl, h⟩
    refine V_iconst 25 (v := (1 : Int32)) rfl (by decide) ?_
    exact V_iret 26 rfl rfl ⟨hW, _, rfl, h⟩
  have k_j203 : ∀ (x1 : Int32)  (σ : ab_S), Wire σ → wX12_behind_j203 Q E x1 σ → V l mdX12_behind B 4 86 0 0 (ab_End (fun v σ' => Wire σ' ∧ ∃ r : Int32, v = some (.int r) ∧ Q r σ') (fun X σ' => Wire σ' ∧ E X σ')) 203 [(0, .ref 92), (1, .int x1)] [] σ := by
    intro x1  σ hW h
    refine V_aload_n 110 0 rfl rfl rfl ?_
    refine V_getR 111 46 rfl clX12 flX12_105 (by decide) (wsh hW rfl) (fun _ => rfl) (wrf hW 125 rfl) ?_
    refine V_aload_n 112 0 rfl rfl rfl ?_
    refine V_get (v := .int (σ.2.1 92 45)) 113 45 rfl clX12 flX12_344 (by decide) (wsh hW rfl) (fun _ => rfl) ?_
    refine V_iconst 114 (v := (1 : Int32)) rfl (by decide) ?_
    refine V_isub 115 rfl ?_
    refine V_pc 213 rfl ?_
    refine V_iload_n 116 1 rfl rfl rfl ?_
    refine V_iconst 117 (v := (1 : Int32)) rfl (by decide) ?_
    refine V_iadd 118 rfl ?_
    obtain ⟨hin, h⟩ := h
    refine V_iast 119 rfl (wsh hW rfl) hin ?_
    refine V_nm (fun σ5 eσ5 => ?_)
    replace h := h σ5 eσ5
    have hW := wire_I eσ5 hW
    refine V_aload_n 120 0 rfl rfl rfl ?_
    refine V_getR 121 47 rfl clX12 flX12_108 (by decide) (wsh hW rfl) (fun _ => rfl) (wrf hW 126 rfl) ?_
    refine V_pc 221 rfl ?_
    refine V_aload_n 122 0 rfl rfl rfl ?_
    refine V_get (v := .int (σ5.2.1 92 45)) 123 45 rfl clX12 flX12_344 (by decide) (wsh hW rfl) (fun _ => rfl) ?_
    refine V_iconst 124 (v := (1 : Int32)) rfl (by decide) ?_
    refine V_isub 125 rfl ?_
    refine V_iconst 126 (v := (0 : Int32)) rfl (by decide) ?_
    obtain ⟨hin, h⟩ := h
    refine V_zast 127 rfl (wsh hW rfl) hin ?_
    refine V_nm (fun σ6 eσ6 => ?_)
    replace h := h σ6 eσ6
    have hW := wire_I eσ6 hW
    refine V_pc 229 rfl ?_
    refine V_aload_n 128 0 rfl rfl rfl ?_
    refine V_callV 129 0 (as := []) (rest := []) rfl mlX12_295 yvX12_advance rfl rfl clX12 (wsh hW rfl) (by decide) (by decide) (Nat.le_of_ble_eq_true rfl) (by decide) (by decide) (fun B9 => ceX12_advance hl B9 hW h) (fun X9 τ9 h9 => VX_out rfl h9) ?_
    rintro v9 σ7 ⟨hW, rfl, h⟩
    refine V_iconst 130 (v := (2 : Int32)) rfl (by decide) ?_
    exact V_iret 131 rfl rfl ⟨hW, _, rfl, h⟩
  have k_j235 : ∀ (x1 : Int32)  (σ : ab_S), Wire σ → wX12_behind_j235 Q E x1 σ → V l mdX12_behind B 4 86 0 0 (ab_End (fun v σ' => Wire σ' ∧ ∃ r : Int32, v = some (.int r) ∧ Q r σ') (fun X σ' => Wire σ' ∧ E X σ')) 235 [(0, .ref 92), (1, .int x1)] [] σ := by
    intro x1  σ hW h
    refine V_iload_n 132 1 rfl rfl rfl ?_
    refine V_if_eq 133 (tgt := 247) rfl (by decide) (fun hc => ?_) (fun hc => ?_)
    · replace h := h.1 hc
      refine V_iconst 138 (v := (0 : Int32)) rfl (by decide) ?_
      exact V_iret 139 rfl rfl ⟨hW, _, rfl, h⟩
    · replace h := h.2 hc
      refine V_pc 239 rfl ?_
      refine V_aload_n 134 0 rfl rfl rfl ?_
      refine V_aload_n 135 0 rfl rfl rfl ?_
      refine V_get (v := .int (σ.2.1 92 41)) 136 41 rfl clX12 flX12_252 (by decide) (wsh hW rfl) (fun _ => rfl) ?_
      refine V_callV 137 1 (as := [.int (σ.2.1 92 41)]) (rest := []) rfl mlX12_287 yvX12_fail rfl rfl clX12 (wsh hW rfl) (by decide) (by decide) (Nat.le_of_ble_eq_true rfl) (by decide) (by decide) (fun B9 => ceX12_fail hl B9 hW h) (fun X9 τ9 h9 => VX_out rfl h9) ?_
      rintro v9 σ8 ⟨hW, rfl, h⟩
      refine V_iconst 138 (v := (0 : Int32)) rfl (by decide) ?_
      exact V_iret 139 rfl rfl ⟨hW, _, rfl, h⟩
  have k_j189 : ∀ (x1 : Int32)  (σ : ab_S), Wire σ → wX12_behind_j189 Q E x1 σ → V l mdX12_behind B 4 86 0 0 (ab_End (fun v σ' => Wire σ' ∧ ∃ r : Int32, v = some (.int r) ∧ Q r σ') (fun X σ' => Wire σ' ∧ E X σ')) 189 [(0, .ref 92), (1, .int x1)] [] σ := by
    intro x1  σ hW h
    refine V_aload_n 103 0 rfl rfl rfl ?_
    refine V_get (v := .int (σ.2.1 92 43)) 104 43 rfl clX12 flX12_264 (by decide) (wsh hW rfl) (fun _ => rfl) ?_
    refine V_bipush 105 (v := (6 : Int32)) rfl (by decide) ?_
    refine V_icmp_ne 106 (tgt := 235) rfl (by decide) (fun hc => ?_) (fun hc => ?_)
    · replace h := h.1 hc
      exact k_j235 x1 σ hW h
    · replace h := h.2 hc
      refine V_pc 198 rfl ?_
      refine V_iload_n 107 1 rfl rfl rfl ?_
      refine V_iconst 108 (v := (3 : Int32)) rfl (by decide) ?_
      refine V_icmp_ne 109 (tgt := 235) rfl (by decide) (fun hc => ?_) (fun hc => ?_)
      · replace h := h.1 hc
        exact k_j235 x1 σ hW h
      · replace h := h.2 hc
        refine V_pc 203 rfl ?_
        exact k_j203 x1 σ hW h
  have k_j176 : ∀ (x1 : Int32)  (σ : ab_S), Wire σ → wX12_behind_j176 Q E x1 σ → V l mdX12_behind B 4 86 0 0 (ab_End (fun v σ' => Wire σ' ∧ ∃ r : Int32, v = some (.int r) ∧ Q r σ') (fun X σ' => Wire σ' ∧ E X σ')) 176 [(0, .ref 92), (1, .int x1)] [] σ := by
    intro x1  σ hW h
    refine V_aload_n 96 0 rfl rfl rfl ?_
    refine V_get (v := .int (σ.2.1 92 43)) 97 43 rfl clX12 flX12_264 (by decide) (wsh hW rfl) (fun _ => rfl) ?_
    refine V_iconst 98 (v := (5 : Int32)) rfl (by decide) ?_
    refine V_icmp_ne 99 (tgt := 189) rfl (by decide) (fun hc => ?_) (fun hc => ?_)
    · replace h := h.1 hc
      exact k_j189 x1 σ hW h
    · replace h := h.2 hc
      refine V_pc 184 rfl ?_
      refine V_iload_n 100 1 rfl rfl rfl ?_
      refine V_iconst 101 (v := (2 : Int32)) rfl (by decide) ?_
      refine V_icmp_eq 102 (tgt := 203) rfl (by decide) (fun hc => ?_) (fun hc => ?_)
      · replace h := h.1 hc
        exact k_j203 x1 σ hW h
      · replace h := h.2 hc
        refine V_pc 189 rfl ?_
        exact k_j189 x1 σ hW h
  have k_j115 : ∀   (σ : ab_S), Wire σ → wX12_behind_j115 Q E  σ → V l mdX12_behind B 4 86 0 0 (ab_End (fun v σ' => Wire σ' ∧ ∃ r : Int32, v = some (.int r) ∧ Q r σ') (fun X σ' => Wire σ' ∧ E X σ')) 115 [(0, .ref 92)] [] σ := by
    intro   σ hW h
    refine V_aload_n 60 0 rfl rfl rfl ?_
    refine V_callV 61 0 (as := []) (rest := []) rfl mlX12_372 yvX12_endChoices rfl rfl clX12 (wsh hW rfl) (by decide) (by decide) (Nat.le_of_ble_eq_true rfl) (by decide) (by decide) (fun B9 => ceX12_endChoices hl B9 hW h) (fun X9 τ9 h9 => VX_out rfl h9) ?_
    rintro v9 σ9 ⟨hW, rfl, h⟩
    refine V_aload_n 62 0 rfl rfl rfl ?_
    refine V_getR 63 46 rfl clX12 flX12_105 (by decide) (wsh hW rfl) (fun _ => rfl) (wrf hW 125 rfl) ?_
    refine V_aload_n 64 0 rfl rfl rfl ?_
    refine V_get (v := .int (σ9.2.1 92 45)) 65 45 rfl clX12 flX12_344 (by decide) (wsh hW rfl) (fun _ => rfl) ?_
    refine V_iconst 66 (v := (1 : Int32)) rfl (by decide) ?_
    refine V_pc 128 rfl ?_
    refine V_isub 67 rfl ?_
    obtain ⟨hin, h⟩ := h
    refine V_iald 68 rfl (wsh hW rfl) hin ?_
    refine V_topi (fun v10 ev10 => ?_)
    replace h := h v10 ev10
    refine V_istore_n 69 (lv' := [(1, .int v10), (0, .ref 92)]) rfl rfl (by decide) rfl ?_
    refine V_aload_n 70 1 rfl rfl rfl ?_
    refine V_get (v := .int (σ9.2.1 92 40)) 71 40 rfl clX12 flX12_267 (by decide) (wsh hW rfl) (fun _ => rfl) ?_
    refine V_bipush 72 (v := (11 : Int32)) rfl (by decide) ?_
    refine V_pc 137 rfl ?_
    refine V_icmp_ne 73 (tgt := 176) rfl (by decide) (fun hc => ?_) (fun hc => ?_)
    · replace h := h.1 hc
      refine V_sub [1, 0] (lv' := [(0, .ref 92), (1, .int v10)]) rfl ?_
      exact k_j176 v10 σ9 hW h
    · replace h := h.2 hc
      refine V_pc 140 rfl ?_
      refine V_iload_n 74 0 rfl rfl rfl ?_
      refine V_iconst 75 (v := (1 : Int32)) rfl (by decide) ?_
      refine V_icmp_ne 76 (tgt := 176) rfl (by decide) (fun hc => ?_) (fun hc => ?_)
      · replace h := h.1 hc
        refine V_sub [1, 0] (lv' := [(0, .ref 92), (1, .int v10)]) rfl ?_
        exact k_j176 v10 σ9 hW h
      · replace h := h.2 hc
        refine V_pc 145 rfl ?_
        refine V_aload_n 77 1 rfl rfl rfl ?_
        refine V_dup 78 rfl rfl ?_
        refine V_get (v := .int (σ9.2.1 92 45)) 79 45 rfl clX12 flX12_344 (by decide) (wsh hW rfl) (fun _ => rfl) ?_
        refine V_iconst 80 (v := (1 : Int32)) rfl (by decide) ?_
        refine V_isub 81 rfl ?_
        refine V_putI 82 45 rfl clX12 flX12_344 (by decide) (wsh hW rfl) rfl (fun _ _ => rfl) rfl rfl ?_
        refine V_nm (fun σ11 eσ11 => ?_)
        replace h := h σ11 eσ11
        have hW := wire_I eσ11 hW
        refine V_aload_n 83 1 rfl rfl rfl ?_
        refine V_dup 84 rfl rfl ?_
        refine V_get (v := .int (σ11.2.1 92 51)) 85 51 rfl clX12 flX12_357 (by decide) (wsh hW rfl) (fun _ => rfl) ?_
        refine V_iconst 86 (v := (1 : Int32)) rfl (by decide) ?_
        refine V_isub 87 rfl ?_
        refine V_pc 162 rfl ?_
        refine V_putI 88 51 rfl clX12 flX12_357 (by decide) (wsh hW rfl) rfl (fun _ _ => rfl) rfl rfl ?_
        refine V_nm (fun σ12 eσ12 => ?_)
        replace h := h σ12 eσ12
        have hW := wire_I eσ12 hW
        refine V_aload_n 89 1 rfl rfl rfl ?_
        refine V_callV 90 0 (as := []) (rest := []) rfl mlX12_295 yvX12_advance rfl rfl clX12 (wsh hW rfl) (by decide) (by decide) (Nat.le_of_ble_eq_true rfl) (by decide) (by decide) (fun B9 => ceX12_advance hl B9 hW h) (fun X9 τ9 h9 => VX_out rfl h9) ?_
        rintro v9 σ13 ⟨hW, rfl, h⟩
        refine V_aload_n 91 1 rfl rfl rfl ?_
        refine V_iconst 92 (v := (4 : Int32)) rfl (by decide) ?_
        refine V_callV 93 1 (as := [.int (4 : Int32)]) (rest := []) rfl mlX12_360 yvX12_settle rfl rfl clX12 (wsh hW rfl) (by decide) (by decide) (Nat.le_of_ble_eq_true rfl) (by decide) (by decide) (fun B9 => ceX12_settle hl B9 hW h) (fun X9 τ9 h9 => VX_out rfl h9) ?_
        rintro v9 σ14 ⟨hW, rfl, h⟩
        refine V_iconst 94 (v := (3 : Int32)) rfl (by decide) ?_
        exact V_iret 95 rfl rfl ⟨hW, _, rfl, h⟩
  have k_j74 : ∀   (σ : ab_S), Wire σ → wX12_behind_j74 Q E  σ → V l mdX12_behind B 4 86 0 0 (ab_End (fun v σ' => Wire σ' ∧ ∃ r : Int32, v = some (.int r) ∧ Q r σ') (fun X σ' => Wire σ' ∧ E X σ')) 74 [(0, .ref 92)] [] σ := by
    intro   σ hW h
    refine V_aload_n 35 0 rfl rfl rfl ?_
    refine V_getR 36 47 rfl clX12 flX12_108 (by decide) (wsh hW rfl) (fun _ => rfl) (wrf hW 126 rfl) ?_
    refine V_aload_n 37 0 rfl rfl rfl ?_
    refine V_get (v := .int (σ.2.1 92 45)) 38 45 rfl clX12 flX12_344 (by decide) (wsh hW rfl) (fun _ => rfl) ?_
    refine V_iconst 39 (v := (1 : Int32)) rfl (by decide) ?_
    refine V_isub 40 rfl ?_
    refine V_pc 84 rfl ?_
    obtain ⟨hin, h⟩ := h
    refine V_zald 41 rfl (wsh hW rfl) hin ?_
    refine V_if_ne 42 (tgt := 115) rfl (by decide) (fun hc => ?_) (fun hc => ?_)
    · replace h := h.1 hc
      exact k_j115 σ hW h
    · replace h := h.2 hc
      refine V_pc 88 rfl ?_
      refine V_aload_n 43 0 rfl rfl rfl ?_
      refine V_iconst 44 (v := (2 : Int32)) rfl (by decide) ?_
      refine V_callV 45 1 (as := [.int (2 : Int32)]) (rest := []) rfl mlX12_360 yvX12_settle rfl rfl clX12 (wsh hW rfl) (by decide) (by decide) (Nat.le_of_ble_eq_true rfl) (by decide) (by decide) (fun B9 => ceX12_settle hl B9 hW h) (fun X9 τ9 h9 => VX_out rfl h9) ?_
      rintro v9 σ15 ⟨hW, rfl, h⟩
      refine V_aload_n 46 0 rfl rfl rfl ?_
      refine V_getR 47 47 rfl clX12 flX12_108 (by decide) (wsh hW rfl) (fun _ => rfl) (wrf hW 126 rfl) ?_
      refine V_aload_n 48 0 rfl rfl rfl ?_
      refine V_get (v := .int (σ15.2.1 92 45)) 49 45 rfl clX12 flX12_344 (by decide) (wsh hW rfl) (fun _ => rfl) ?_
      refine V_iconst 50 (v := (1 : Int32)) rfl (by decide) ?_
      refine V_pc 102 rfl ?_
      refine V_isub 51 rfl ?_
      refine V_iconst 52 (v := (1 : Int32)) rfl (by decide) ?_
      obtain ⟨hin, h⟩ := h
      refine V_zast 53 rfl (wsh hW rfl) hin ?_
      refine V_nm (fun σ16 eσ16 => ?_)
      replace h := h σ16 eσ16
      have hW := wire_I eσ16 hW
      refine V_aload_n 54 0 rfl rfl rfl ?_
      refine V_aload_n 55 0 rfl rfl rfl ?_
      refine V_get (v := .int (σ16.2.1 92 40)) 56 40 rfl clX12 flX12_267 (by decide) (wsh hW rfl) (fun _ => rfl) ?_
      refine V_pc 110 rfl ?_
      refine V_callV 57 1 (as := [.int (σ16.2.1 92 40)]) (rest := []) rfl mlX12_369 yvX12_hold rfl rfl clX12 (wsh hW rfl) (by decide) (by decide) (Nat.le_of_ble_eq_true rfl) (by decide) (by decide) (fun B9 => ceX12_hold hl B9 hW h) (fun X9 τ9 h9 => VX_out rfl h9) ?_
      rintro v9 σ17 ⟨hW, rfl, h⟩
      refine V_iconst 58 (v := (1 : Int32)) rfl (by decide) ?_
      exact V_iret 59 rfl rfl ⟨hW, _, rfl, h⟩
  intro σ hW h
  refine V_aload_n 0 0 rfl rfl rfl ?_
  refine V_get (v := .int (σ.2.1 92 40)) 1 40 rfl clX12 flX12_267 (by decide) (wsh hW rfl) (fun _ => rfl) ?_
  refine V_bipush 2 (v := (15 : Int32)) rfl (by decide) ?_
  refine V_icmp_eq 3 (tgt := 36) rfl (by decide) (fun hc => ?_) (fun hc => ?_)
  · replace h := h.1 hc
    exact k_j36 σ hW h
  · replace h := h.2 hc
    refine V_pc 9 rfl ?_
    refine V_aload_n 4 0 rfl rfl rfl ?_
    refine V_get (v := .int (σ.2.1 92 40)) 5 40 rfl clX12 flX12_267 (by decide) (wsh hW rfl) (fun _ => rfl) ?_
    refine V_bipush 6 (v := (16 : Int32)) rfl (by decide) ?_
    refine V_icmp_eq 7 (tgt := 36) rfl (by decide) (fun hc => ?_) (fun hc => ?_)
    · replace h := h.1 hc
      exact k_j36 σ hW h
    · replace h := h.2 hc
      refine V_pc 18 rfl ?_
      refine V_aload_n 8 0 rfl rfl rfl ?_
      refine V_get (v := .int (σ.2.1 92 40)) 9 40 rfl clX12 flX12_267 (by decide) (wsh hW rfl) (fun _ => rfl) ?_
      refine V_bipush 10 (v := (13 : Int32)) rfl (by decide) ?_
      refine V_icmp_eq 11 (tgt := 36) rfl (by decide) (fun hc => ?_) (fun hc => ?_)
      · replace h := h.1 hc
        exact k_j36 σ hW h
      · replace h := h.2 hc
        refine V_pc 27 rfl ?_
        refine V_aload_n 12 0 rfl rfl rfl ?_
        refine V_get (v := .int (σ.2.1 92 40)) 13 40 rfl clX12 flX12_267 (by decide) (wsh hW rfl) (fun _ => rfl) ?_
        refine V_bipush 14 (v := (14 : Int32)) rfl (by decide) ?_
        refine V_icmp_ne 15 (tgt := 57) rfl (by decide) (fun hc => ?_) (fun hc => ?_)
        · replace h := h.1 hc
          refine V_aload_n 27 0 rfl rfl rfl ?_
          refine V_get (v := .int (σ.2.1 92 40)) 28 40 rfl clX12 flX12_267 (by decide) (wsh hW rfl) (fun _ => rfl) ?_
          refine V_bipush 29 (v := (17 : Int32)) rfl (by decide) ?_
          refine V_icmp_eq 30 (tgt := 74) rfl (by decide) (fun hc => ?_) (fun hc => ?_)
          · replace h := h.1 hc
            exact k_j74 σ hW h
          · replace h := h.2 hc
            refine V_pc 66 rfl ?_
            refine V_aload_n 31 0 rfl rfl rfl ?_
            refine V_get (v := .int (σ.2.1 92 40)) 32 40 rfl clX12 flX12_267 (by decide) (wsh hW rfl) (fun _ => rfl) ?_
            refine V_iconst 33 (v := (4 : Int32)) rfl (by decide) ?_
            refine V_icmp_ne 34 (tgt := 115) rfl (by decide) (fun hc => ?_) (fun hc => ?_)
            · replace h := h.1 hc
              exact k_j115 σ hW h
            · replace h := h.2 hc
              refine V_pc 74 rfl ?_
              exact k_j74 σ hW h
        · replace h := h.2 hc
          refine V_pc 36 rfl ?_
          exact k_j36 σ hW h

def wX12_expression_j92 (a0 : Int32) (Q : ab_S → Prop) (E : String → ab_S → Prop) (Bk : Int32 → Int32 → Int32 → ab_S → Prop) (x3 : Int32) (x4 : Int32) (y0 : Int32) (σ : ab_S) : Prop := Bk y0 x3 x4 σ
def wX12_expression_j69 (a0 : Int32) (Q : ab_S → Prop) (E : String → ab_S → Prop) (Bk : Int32 → Int32 → Int32 → ab_S → Prop) (x3 : Int32) (x4 : Int32) (y0 : Int32) (σ : ab_S) : Prop := wX12_operand a0 x3 (fun u2 σ1 => ((¬ u2 = 0) → wX12_expression_j92 a0 Q E Bk y0 x4 (0 : Int32) σ1) ∧ (¬ (¬ u2 = 0) → wX12_expression_j92 a0 Q E Bk y0 x4 (1 : Int32) σ1)) E σ
def wX12_expression_j64 (a0 : Int32) (Q : ab_S → Prop) (E : String → ab_S → Prop) (Bk : Int32 → Int32 → Int32 → ab_S → Prop) (x3 : Int32) (x4 : Int32) (σ : ab_S) : Prop := wX12_expression_j69 a0 Q E Bk x3 x4 (1 : Int32) σ
def wX12_expression_j55 (a0 : Int32) (Q : ab_S → Prop) (E : String → ab_S → Prop) (Bk : Int32 → Int32 → Int32 → ab_S → Prop) (x3 : Int32) (x4 : Int32) (σ : ab_S) : Prop := ((¬ (σ.2.1 92 40) = (10 : Int32)) → wX12_expression_j69 a0 Q E Bk x3 x4 (0 : Int32) σ) ∧ (¬ (¬ (σ.2.1 92 40) = (10 : Int32)) → wX12_expression_j64 a0 Q E Bk x3 x4 σ)
def wX12_expression_j143 (a0 : Int32) (Q : ab_S → Prop) (E : String → ab_S → Prop) (Bk : Int32 → Int32 → Int32 → ab_S → Prop) (x2 : Int32) (x4 : Int32) (y0 : Int32) (σ : ab_S) : Prop := Bk x2 y0 x4 σ
def wX12_expression_j131 (a0 : Int32) (Q : ab_S → Prop) (E : String → ab_S → Prop) (Bk : Int32 → Int32 → Int32 → ab_S → Prop) (x4 : Int32) (x5 : Int32) (y0 : Int32) (σ : ab_S) : Prop := ((¬ x5 = (2 : Int32)) → wX12_expression_j143 a0 Q E Bk y0 x4 (0 : Int32) σ) ∧ (¬ (¬ x5 = (2 : Int32)) → wX12_expression_j143 a0 Q E Bk y0 x4 (1 : Int32) σ)
def wX12_expression_j126 (a0 : Int32) (Q : ab_S → Prop) (E : String → ab_S → Prop) (Bk : Int32 → Int32 → Int32 → ab_S → Prop) (x4 : Int32) (x5 : Int32) (σ : ab_S) : Prop := wX12_expression_j131 a0 Q E Bk x4 x5 (1 : Int32) σ
def wX12_expression_j112 (a0 : Int32) (Q : ab_S → Prop) (E : String → ab_S → Prop) (Bk : Int32 → Int32 → Int32 → ab_S → Prop) (x5 : Int32) (y0 : Int32) (σ : ab_S) : Prop := ((x5 = (1 : Int32)) → wX12_expression_j126 a0 Q E Bk y0 x5 σ) ∧ (¬ (x5 = (1 : Int32)) → ((¬ x5 = (2 : Int32)) → wX12_expression_j131 a0 Q E Bk y0 x5 (0 : Int32) σ) ∧ (¬ (¬ x5 = (2 : Int32)) → wX12_expression_j126 a0 Q E Bk y0 x5 σ))
def wX12_expression_l27_b (a0 : Int32) (Q : ab_S → Prop) (E : String → ab_S → Prop) (Bk : Int32 → Int32 → Int32 → ab_S → Prop) (x2 : Int32) (x3 : Int32) (x4 : Int32) (σ : ab_S) : Prop := ((x4 = 0) → Q σ) ∧ (¬ (x4 = 0) → wX12_good (fun u4 σ3 => ((u4 = 0) → Q σ3) ∧ (¬ (u4 = 0) → ((x2 = 0) → wX12_behind (fun u6 σ5 => ((u6 ≤ 0) → wX12_expression_j112 a0 Q E Bk u6 (0 : Int32) σ5) ∧ (¬ (u6 ≤ 0) → wX12_expression_j112 a0 Q E Bk u6 (1 : Int32) σ5)) E σ3) ∧ (¬ (x2 = 0) → ((x3 = 0) → wX12_expression_j55 a0 Q E Bk x3 x4 σ3) ∧ (¬ (x3 = 0) → (((σ3.2.1 92 43) = (4 : Int32)) → wX12_expression_j64 a0 Q E Bk x3 x4 σ3) ∧ (¬ ((σ3.2.1 92 43) = (4 : Int32)) → wX12_expression_j55 a0 Q E Bk x3 x4 σ3))))) E σ)
def wX12_expression_l27 (a0 : Int32) (Q : ab_S → Prop) (E : String → ab_S → Prop) : Nat → Int32 → Int32 → Int32 → ab_S → Prop
  | 0, _, _, _, _ => False
  | n + 1, x2, x3, x4, σ => wX12_expression_l27_b a0 Q E (wX12_expression_l27 a0 Q E n) x2 x3 x4 σ
def wX12_expression (a0 : Int32) (Q : ab_S → Prop) (E : String → ab_S → Prop) (σ : ab_S) : Prop := (∀ σ7 : ab_S, σ7 = ab_I σ 92 45 (0 : Int32) → (∀ σ8 : ab_S, σ8 = ab_I σ7 92 49 (0 : Int32) → (∀ σ9 : ab_S, σ9 = ab_I σ8 92 51 (0 : Int32) → wX12_frame (0 : Int32) (fun σ10 => ∃ n, wX12_expression_l27 a0 Q E n (1 : Int32) (1 : Int32) (1 : Int32) σ10) E σ9)))
set_option maxHeartbeats 4000000 in
set_option maxRecDepth 100000 in
theorem ceX12_expression {l : Launch} (hl : l.stackTraces = false) (B : Nat) {a0 : Int32}  {Q : ab_S → Prop} {E : String → ab_S → Prop} {σ : ab_S} (hW : Wire σ) (h : wX12_expression a0 Q E σ) : ab_Mt l yX12_expression mdX12_expression B 6 137 0 0 [.ref 92, .int a0] σ (fun v σ' => Wire σ' ∧ v = none ∧ Q σ') (fun X σ' => Wire σ' ∧ E X σ') := by
  refine V_met hl ⟨rfl, rfl, by decide⟩ rfl dkX12_expression (Nat.le_of_ble_eq_true rfl) ?_
  show V l mdX12_expression B 6 137 0 0 (ab_End _ _) 0 [(0, .ref 92), (1, .int a0)] [] σ
  revert h hW
  revert σ
  have k_l27 : ∀ (n : Nat) (x2 : Int32) (x3 : Int32) (x4 : Int32)  (σ : ab_S), Wire σ → wX12_expression_l27 a0 Q E n x2 x3 x4 σ → V l mdX12_expression B 6 137 0 0 (ab_End (fun v σ' => Wire σ' ∧ v = none ∧ Q σ') (fun X σ' => Wire σ' ∧ E X σ')) 27 [(0, .ref 92), (1, .int a0), (2, .int x2), (3, .int x3), (4, .int x4)] [] σ := by
    have step : ∀ (Bk : Int32 → Int32 → Int32 → ab_S → Prop) (k_Bk : ∀ (x2 : Int32) (x3 : Int32) (x4 : Int32)  (σ : ab_S), Wire σ → Bk x2 x3 x4 σ → V l mdX12_expression B 6 137 0 0 (ab_End (fun v σ' => Wire σ' ∧ v = none ∧ Q σ') (fun X σ' => Wire σ' ∧ E X σ')) 27 [(0, .ref 92), (1, .int a0), (2, .int x2), (3, .int x3), (4, .int x4)] [] σ), ∀ (x2 : Int32) (x3 : Int32) (x4 : Int32)  (σ : ab_S), Wire σ → wX12_expression_l27_b a0 Q E Bk x2 x3 x4 σ → V l mdX12_expression B 6 137 0 0 (ab_End (fun v σ' => Wire σ' ∧ v = none ∧ Q σ') (fun X σ' => Wire σ' ∧ E X σ')) 27 [(0, .ref 92), (1, .int a0), (2, .int x2), (3, .int x3), (4, .int x4)] [] σ := by
      intro Bk k_Bk
      have k_j92 : ∀ (x3 : Int32) (x4 : Int32) (y0 : Int32)  (σ : ab_S), Wire σ → wX12_expression_j92 a0 Q E Bk x3 x4 y0 σ → V l mdX12_expression B 6 137 0 0 (ab_End (fun v σ' => Wire σ' ∧ v = none ∧ Q σ') (fun X σ' => Wire σ' ∧ E X σ')) 92 [(0, .ref 92), (1, .int a0), (3, .int x3), (4, .int x4)] [.int y0] σ := by
        intro x3 x4 y0  σ hW h
        refine V_istore_n 51 (lv' := [(2, .int y0), (0, .ref 92), (1, .int a0), (3, .int x3), (4, .int x4)]) rfl rfl (by decide) rfl ?_
        refine V_goto 52 (tgt := 27) rfl (by decide) ?_
        refine V_sub [1, 2, 0, 3, 4] (lv' := [(0, .ref 92), (1, .int a0), (2, .int y0), (3, .int x3), (4, .int x4)]) rfl ?_
        exact k_Bk y0 x3 x4  σ hW h
      have k_j69 : ∀ (x3 : Int32) (x4 : Int32) (y0 : Int32)  (σ : ab_S), Wire σ → wX12_expression_j69 a0 Q E Bk x3 x4 y0 σ → V l mdX12_expression B 6 137 0 0 (ab_End (fun v σ' => Wire σ' ∧ v = none ∧ Q σ') (fun X σ' => Wire σ' ∧ E X σ')) 69 [(0, .ref 92), (1, .int a0), (3, .int x3), (4, .int x4)] [.int y0] σ := by
        intro x3 x4 y0  σ hW h
        refine V_istore 38 (lv' := [(5, .int y0), (0, .ref 92), (1, .int a0), (3, .int x3), (4, .int x4)]) rfl (by decide) rfl ?_
        refine V_aload_n 39 1 rfl rfl rfl ?_
        refine V_iload_n 40 2 rfl rfl rfl ?_
        refine V_iload_n 41 3 rfl rfl rfl ?_
        refine V_callV 42 2 (as := [.int a0, .int x3]) (rest := []) rfl mlX12_375 yvX12_operand rfl rfl clX12 (wsh hW rfl) (by decide) (by decide) (Nat.le_of_ble_eq_true rfl) (by decide) (by decide) (fun B9 => ceX12_operand hl B9 hW h) (fun X9 τ9 h9 => VX_out rfl h9) ?_
        rintro v9 σ1 ⟨hW, u2, rfl, h⟩
        refine V_istore 43 (lv' := [(6, .int u2), (5, .int y0), (0, .ref 92), (1, .int a0), (3, .int x3), (4, .int x4)]) rfl (by decide) rfl ?_
        refine V_iload 44 1 rfl rfl ?_
        refine V_istore_n 45 (lv' := [(3, .int y0), (6, .int u2), (5, .int y0), (0, .ref 92), (1, .int a0), (4, .int x4)]) rfl rfl (by decide) rfl ?_
        refine V_iload 46 1 rfl rfl ?_
        refine V_if_ne 47 (tgt := 91) rfl (by decide) (fun hc => ?_) (fun hc => ?_)
        · replace h := h.1 hc
          refine V_iconst 50 (v := (0 : Int32)) rfl (by decide) ?_
          refine V_sub [3, 4, 0, 5] (lv' := [(0, .ref 92), (1, .int a0), (3, .int y0), (4, .int x4)]) rfl ?_
          exact k_j92 y0 x4 (0 : Int32) σ1 hW h
        · replace h := h.2 hc
          refine V_pc 87 rfl ?_
          refine V_iconst 48 (v := (1 : Int32)) rfl (by decide) ?_
          refine V_goto 49 (tgt := 92) rfl (by decide) ?_
          refine V_sub [3, 4, 0, 5] (lv' := [(0, .ref 92), (1, .int a0), (3, .int y0), (4, .int x4)]) rfl ?_
          exact k_j92 y0 x4 (1 : Int32) σ1 hW h
      have k_j64 : ∀ (x3 : Int32) (x4 : Int32)  (σ : ab_S), Wire σ → wX12_expression_j64 a0 Q E Bk x3 x4 σ → V l mdX12_expression B 6 137 0 0 (ab_End (fun v σ' => Wire σ' ∧ v = none ∧ Q σ') (fun X σ' => Wire σ' ∧ E X σ')) 64 [(0, .ref 92), (1, .int a0), (3, .int x3), (4, .int x4)] [] σ := by
        intro x3 x4  σ hW h
        refine V_iconst 35 (v := (1 : Int32)) rfl (by decide) ?_
        refine V_goto 36 (tgt := 69) rfl (by decide) ?_
        exact k_j69 x3 x4 (1 : Int32) σ hW h
      have k_j55 : ∀ (x3 : Int32) (x4 : Int32)  (σ : ab_S), Wire σ → wX12_expression_j55 a0 Q E Bk x3 x4 σ → V l mdX12_expression B 6 137 0 0 (ab_End (fun v σ' => Wire σ' ∧ v = none ∧ Q σ') (fun X σ' => Wire σ' ∧ E X σ')) 55 [(0, .ref 92), (1, .int a0), (3, .int x3), (4, .int x4)] [] σ := by
        intro x3 x4  σ hW h
        refine V_aload_n 31 0 rfl rfl rfl ?_
        refine V_get (v := .int (σ.2.1 92 40)) 32 40 rfl clX12 flX12_267 (by decide) (wsh hW rfl) (fun _ => rfl) ?_
        refine V_bipush 33 (v := (10 : Int32)) rfl (by decide) ?_
        refine V_icmp_ne 34 (tgt := 68) rfl (by decide) (fun hc => ?_) (fun hc => ?_)
        · replace h := h.1 hc
          refine V_iconst 37 (v := (0 : Int32)) rfl (by decide) ?_
          exact k_j69 x3 x4 (0 : Int32) σ hW h
        · replace h := h.2 hc
          refine V_pc 64 rfl ?_
          exact k_j64 x3 x4 σ hW h
      have k_j143 : ∀ (x2 : Int32) (x4 : Int32) (y0 : Int32)  (σ : ab_S), Wire σ → wX12_expression_j143 a0 Q E Bk x2 x4 y0 σ → V l mdX12_expression B 6 137 0 0 (ab_End (fun v σ' => Wire σ' ∧ v = none ∧ Q σ') (fun X σ' => Wire σ' ∧ E X σ')) 143 [(0, .ref 92), (1, .int a0), (2, .int x2), (4, .int x4)] [.int y0] σ := by
        intro x2 x4 y0  σ hW h
        refine V_istore_n 78 (lv' := [(3, .int y0), (0, .ref 92), (1, .int a0), (2, .int x2), (4, .int x4)]) rfl rfl (by decide) rfl ?_
        refine V_goto 79 (tgt := 27) rfl (by decide) ?_
        refine V_sub [1, 2, 3, 0, 4] (lv' := [(0, .ref 92), (1, .int a0), (2, .int x2), (3, .int y0), (4, .int x4)]) rfl ?_
        exact k_Bk x2 y0 x4  σ hW h
      have k_j131 : ∀ (x4 : Int32) (x5 : Int32) (y0 : Int32)  (σ : ab_S), Wire σ → wX12_expression_j131 a0 Q E Bk x4 x5 y0 σ → V l mdX12_expression B 6 137 0 0 (ab_End (fun v σ' => Wire σ' ∧ v = none ∧ Q σ') (fun X σ' => Wire σ' ∧ E X σ')) 131 [(0, .ref 92), (1, .int a0), (4, .int x4), (5, .int x5)] [.int y0] σ := by
        intro x4 x5 y0  σ hW h
        refine V_istore_n 71 (lv' := [(2, .int y0), (0, .ref 92), (1, .int a0), (4, .int x4), (5, .int x5)]) rfl rfl (by decide) rfl ?_
        refine V_iload 72 4 rfl rfl ?_
        refine V_iconst 73 (v := (2 : Int32)) rfl (by decide) ?_
        refine V_icmp_ne 74 (tgt := 142) rfl (by decide) (fun hc => ?_) (fun hc => ?_)
        · replace h := h.1 hc
          refine V_iconst 77 (v := (0 : Int32)) rfl (by decide) ?_
          refine V_sub [1, 2, 0, 3] (lv' := [(0, .ref 92), (1, .int a0), (2, .int y0), (4, .int x4)]) rfl ?_
          exact k_j143 y0 x4 (0 : Int32) σ hW h
        · replace h := h.2 hc
          refine V_pc 138 rfl ?_
          refine V_iconst 75 (v := (1 : Int32)) rfl (by decide) ?_
          refine V_goto 76 (tgt := 143) rfl (by decide) ?_
          refine V_sub [1, 2, 0, 3] (lv' := [(0, .ref 92), (1, .int a0), (2, .int y0), (4, .int x4)]) rfl ?_
          exact k_j143 y0 x4 (1 : Int32) σ hW h
      have k_j126 : ∀ (x4 : Int32) (x5 : Int32)  (σ : ab_S), Wire σ → wX12_expression_j126 a0 Q E Bk x4 x5 σ → V l mdX12_expression B 6 137 0 0 (ab_End (fun v σ' => Wire σ' ∧ v = none ∧ Q σ') (fun X σ' => Wire σ' ∧ E X σ')) 126 [(0, .ref 92), (1, .int a0), (4, .int x4), (5, .int x5)] [] σ := by
        intro x4 x5  σ hW h
        refine V_iconst 68 (v := (1 : Int32)) rfl (by decide) ?_
        refine V_goto 69 (tgt := 131) rfl (by decide) ?_
        exact k_j131 x4 x5 (1 : Int32) σ hW h
      have k_j112 : ∀ (x5 : Int32) (y0 : Int32)  (σ : ab_S), Wire σ → wX12_expression_j112 a0 Q E Bk x5 y0 σ → V l mdX12_expression B 6 137 0 0 (ab_End (fun v σ' => Wire σ' ∧ v = none ∧ Q σ') (fun X σ' => Wire σ' ∧ E X σ')) 112 [(0, .ref 92), (1, .int a0), (5, .int x5)] [.int y0] σ := by
        intro x5 y0  σ hW h
        refine V_istore 61 (lv' := [(4, .int y0), (0, .ref 92), (1, .int a0), (5, .int x5)]) rfl (by decide) rfl ?_
        refine V_iload 62 3 rfl rfl ?_
        refine V_iconst 63 (v := (1 : Int32)) rfl (by decide) ?_
        refine V_icmp_eq 64 (tgt := 126) rfl (by decide) (fun hc => ?_) (fun hc => ?_)
        · replace h := h.1 hc
          refine V_sub [1, 2, 0, 3] (lv' := [(0, .ref 92), (1, .int a0), (4, .int y0), (5, .int x5)]) rfl ?_
          exact k_j126 y0 x5 σ hW h
        · replace h := h.2 hc
          refine V_pc 120 rfl ?_
          refine V_iload 65 3 rfl rfl ?_
          refine V_iconst 66 (v := (2 : Int32)) rfl (by decide) ?_
          refine V_icmp_ne 67 (tgt := 130) rfl (by decide) (fun hc => ?_) (fun hc => ?_)
          · replace h := h.1 hc
            refine V_iconst 70 (v := (0 : Int32)) rfl (by decide) ?_
            refine V_sub [1, 2, 0, 3] (lv' := [(0, .ref 92), (1, .int a0), (4, .int y0), (5, .int x5)]) rfl ?_
            exact k_j131 y0 x5 (0 : Int32) σ hW h
          · replace h := h.2 hc
            refine V_pc 126 rfl ?_
            refine V_sub [1, 2, 0, 3] (lv' := [(0, .ref 92), (1, .int a0), (4, .int y0), (5, .int x5)]) rfl ?_
            exact k_j126 y0 x5 σ hW h
      intro x2 x3 x4  σ hW h
      refine V_iload 18 4 rfl rfl ?_
      refine V_if_eq 19 (tgt := 147) rfl (by decide) (fun hc => ?_) (fun hc => ?_)
      · replace h := h.1 hc
        exact V_vret 80 rfl rfl ⟨hW, rfl, h⟩
      · replace h := h.2 hc
        refine V_pc 32 rfl ?_
        refine V_aload_n 20 0 rfl rfl rfl ?_
        refine V_callV 21 0 (as := []) (rest := []) rfl mlX12_291 yvX12_good rfl rfl clX12 (wsh hW rfl) (by decide) (by decide) (Nat.le_of_ble_eq_true rfl) (by decide) (by decide) (fun B9 => ceX12_good hl B9 hW h) (fun X9 τ9 h9 => VX_out rfl h9) ?_
        rintro v9 σ3 ⟨hW, u4, rfl, h⟩
        refine V_if_eq 22 (tgt := 147) rfl (by decide) (fun hc => ?_) (fun hc => ?_)
        · replace h := h.1 hc
          exact V_vret 80 rfl rfl ⟨hW, rfl, h⟩
        · replace h := h.2 hc
          refine V_pc 39 rfl ?_
          refine V_iload_n 23 2 rfl rfl rfl ?_
          refine V_if_eq 24 (tgt := 96) rfl (by decide) (fun hc => ?_) (fun hc => ?_)
          · replace h := h.1 hc
            refine V_aload_n 53 0 rfl rfl rfl ?_
            refine V_callV 54 0 (as := []) (rest := []) rfl mlX12_379 yvX12_behind rfl rfl clX12 (wsh hW rfl) (by decide) (by decide) (Nat.le_of_ble_eq_true rfl) (by decide) (by decide) (fun B9 => ceX12_behind hl B9 hW h) (fun X9 τ9 h9 => VX_out rfl h9) ?_
            rintro v9 σ5 ⟨hW, u6, rfl, h⟩
            refine V_istore 55 (lv' := [(5, .int u6), (0, .ref 92), (1, .int a0), (2, .int x2), (3, .int x3), (4, .int x4)]) rfl (by decide) rfl ?_
            refine V_iload 56 0 rfl rfl ?_
            refine V_if_le 57 (tgt := 111) rfl (by decide) (fun hc => ?_) (fun hc => ?_)
            · replace h := h.1 hc
              refine V_iconst 60 (v := (0 : Int32)) rfl (by decide) ?_
              refine V_sub [1, 2, 0] (lv' := [(0, .ref 92), (1, .int a0), (5, .int u6)]) rfl ?_
              exact k_j112 u6 (0 : Int32) σ5 hW h
            · replace h := h.2 hc
              refine V_pc 107 rfl ?_
              refine V_iconst 58 (v := (1 : Int32)) rfl (by decide) ?_
              refine V_goto 59 (tgt := 112) rfl (by decide) ?_
              refine V_sub [1, 2, 0] (lv' := [(0, .ref 92), (1, .int a0), (5, .int u6)]) rfl ?_
              exact k_j112 u6 (1 : Int32) σ5 hW h
          · replace h := h.2 hc
            refine V_pc 43 rfl ?_
            refine V_iload_n 25 3 rfl rfl rfl ?_
            refine V_if_eq 26 (tgt := 55) rfl (by decide) (fun hc => ?_) (fun hc => ?_)
            · replace h := h.1 hc
              refine V_sub [0, 1, 3, 4] (lv' := [(0, .ref 92), (1, .int a0), (3, .int x3), (4, .int x4)]) rfl ?_
              exact k_j55 x3 x4 σ3 hW h
            · replace h := h.2 hc
              refine V_pc 47 rfl ?_
              refine V_aload_n 27 0 rfl rfl rfl ?_
              refine V_get (v := .int (σ3.2.1 92 43)) 28 43 rfl clX12 flX12_264 (by decide) (wsh hW rfl) (fun _ => rfl) ?_
              refine V_iconst 29 (v := (4 : Int32)) rfl (by decide) ?_
              refine V_icmp_eq 30 (tgt := 64) rfl (by decide) (fun hc => ?_) (fun hc => ?_)
              · replace h := h.1 hc
                refine V_sub [0, 1, 3, 4] (lv' := [(0, .ref 92), (1, .int a0), (3, .int x3), (4, .int x4)]) rfl ?_
                exact k_j64 x3 x4 σ3 hW h
              · replace h := h.2 hc
                refine V_pc 55 rfl ?_
                refine V_sub [0, 1, 3, 4] (lv' := [(0, .ref 92), (1, .int a0), (3, .int x3), (4, .int x4)]) rfl ?_
                exact k_j55 x3 x4 σ3 hW h
    intro n
    induction n with
    | zero => intro x2 x3 x4  σ hW h; exact absurd h id
    | succ n ih => exact step  _ ih
  intro σ hW h
  refine V_aload_n 0 0 rfl rfl rfl ?_
  refine V_iconst 1 (v := (0 : Int32)) rfl (by decide) ?_
  refine V_putI 2 45 rfl clX12 flX12_344 (by decide) (wsh hW rfl) rfl (fun _ _ => rfl) rfl rfl ?_
  refine V_nm (fun σ7 eσ7 => ?_)
  replace h := h σ7 eσ7
  have hW := wire_I eσ7 hW
  refine V_aload_n 3 0 rfl rfl rfl ?_
  refine V_iconst 4 (v := (0 : Int32)) rfl (by decide) ?_
  refine V_putI 5 49 rfl clX12 flX12_347 (by decide) (wsh hW rfl) rfl (fun _ _ => rfl) rfl rfl ?_
  refine V_nm (fun σ8 eσ8 => ?_)
  replace h := h σ8 eσ8
  have hW := wire_I eσ8 hW
  refine V_aload_n 6 0 rfl rfl rfl ?_
  refine V_iconst 7 (v := (0 : Int32)) rfl (by decide) ?_
  refine V_putI 8 51 rfl clX12 flX12_357 (by decide) (wsh hW rfl) rfl (fun _ _ => rfl) rfl rfl ?_
  refine V_nm (fun σ9 eσ9 => ?_)
  replace h := h σ9 eσ9
  have hW := wire_I eσ9 hW
  refine V_aload_n 9 0 rfl rfl rfl ?_
  refine V_iconst 10 (v := (0 : Int32)) rfl (by decide) ?_
  refine V_callV 11 1 (as := [.int (0 : Int32)]) (rest := []) rfl mlX12_366 yvX12_frame rfl rfl clX12 (wsh hW rfl) (by decide) (by decide) (Nat.le_of_ble_eq_true rfl) (by decide) (by decide) (fun B9 => ceX12_frame hl B9 hW h) (fun X9 τ9 h9 => VX_out rfl h9) ?_
  rintro v9 σ10 ⟨hW, rfl, h⟩
  refine V_iconst 12 (v := (1 : Int32)) rfl (by decide) ?_
  refine V_istore_n 13 (lv' := [(2, .int (1 : Int32)), (0, .ref 92), (1, .int a0)]) rfl rfl (by decide) rfl ?_
  refine V_iconst 14 (v := (1 : Int32)) rfl (by decide) ?_
  refine V_istore_n 15 (lv' := [(3, .int (1 : Int32)), (2, .int (1 : Int32)), (0, .ref 92), (1, .int a0)]) rfl rfl (by decide) rfl ?_
  refine V_iconst 16 (v := (1 : Int32)) rfl (by decide) ?_
  refine V_pc 25 rfl ?_
  refine V_istore 17 (lv' := [(4, .int (1 : Int32)), (3, .int (1 : Int32)), (2, .int (1 : Int32)), (0, .ref 92), (1, .int a0)]) rfl (by decide) rfl ?_
  refine V_sub [3, 4, 2, 1, 0] (lv' := [(0, .ref 92), (1, .int a0), (2, .int (1 : Int32)), (3, .int (1 : Int32)), (4, .int (1 : Int32))]) rfl ?_
  obtain ⟨n, h⟩ := h
  exact k_l27 n (1 : Int32) (1 : Int32) (1 : Int32) σ10 hW h

def wX12_rule (a0 : Int32) (Q : ab_S → Prop) (E : String → ab_S → Prop) (σ : ab_S) : Prop := (((σ.2.1 92 40) = (2 : Int32)) → ∀ v1 : Int32, v1 = (σ.2.1 92 41) → wX12_numberHere (fun u3 σ2 => wX12_advance (fun σ4 => wX12_attributeHere a0 u3 v1 (1 : Int32) (fun u6 σ5 => wX12_need (4 : Int32) (fun σ7 => wX12_good (fun u9 σ8 => ((¬ u9 = 0) → vp_in (((32 : Int32) * a0) + u6) 992 ∧ (∀ σ10 : ab_S, σ10 = ab_I σ8 105 (((32 : Int32) * a0) + u6).toNatClampNeg (σ8.2.1 92 21) → wX12_expression a0 (fun σ11 => vp_in (((32 : Int32) * a0) + u6) 992 ∧ (∀ σ12 : ab_S, σ12 = ab_I σ11 106 (((32 : Int32) * a0) + u6).toNatClampNeg (σ11.2.1 92 21) → wX12_need (5 : Int32) (fun σ13 => Q σ13) E σ12)) E σ10)) ∧ (¬ (¬ u9 = 0) → Q σ8)) E σ7) E σ5) E σ4) E σ2) E σ) ∧ (¬ ((σ.2.1 92 40) = (2 : Int32)) → wX12_fail (σ.2.1 92 41) (fun σ14 => Q σ14) E σ)
set_option maxHeartbeats 4000000 in
set_option maxRecDepth 100000 in
theorem ceX12_rule {l : Launch} (hl : l.stackTraces = false) (B : Nat) {a0 : Int32}  {Q : ab_S → Prop} {E : String → ab_S → Prop} {σ : ab_S} (hW : Wire σ) (h : wX12_rule a0 Q E σ) : ab_Mt l yX12_rule mdX12_rule B 7 163 0 0 [.ref 92, .int a0] σ (fun v σ' => Wire σ' ∧ v = none ∧ Q σ') (fun X σ' => Wire σ' ∧ E X σ') := by
  refine V_met hl ⟨rfl, rfl, by decide⟩ rfl dkX12_rule (Nat.le_of_ble_eq_true rfl) ?_
  show V l mdX12_rule B 7 163 0 0 (ab_End _ _) 0 [(0, .ref 92), (1, .int a0)] [] σ
  refine V_aload_n 0 0 rfl rfl rfl ?_
  refine V_get (v := .int (σ.2.1 92 40)) 1 40 rfl clX12 flX12_267 (by decide) (wsh hW rfl) (fun _ => rfl) ?_
  refine V_iconst 2 (v := (2 : Int32)) rfl (by decide) ?_
  refine V_icmp_eq 3 (tgt := 17) rfl (by decide) (fun hc => ?_) (fun hc => ?_)
  · replace h := h.1 hc
    refine V_aload_n 9 0 rfl rfl rfl ?_
    refine V_get (v := .int (σ.2.1 92 41)) 10 41 rfl clX12 flX12_252 (by decide) (wsh hW rfl) (fun _ => rfl) ?_
    refine V_topi (fun v1 ev1 => ?_)
    replace h := h v1 ev1
    refine V_istore_n 11 (lv' := [(2, .int v1), (0, .ref 92), (1, .int a0)]) rfl rfl (by decide) rfl ?_
    refine V_aload_n 12 1 rfl rfl rfl ?_
    refine V_callV 13 0 (as := []) (rest := []) rfl mlX12_331 yvX12_numberHere rfl rfl clX12 (wsh hW rfl) (by decide) (by decide) (Nat.le_of_ble_eq_true rfl) (by decide) (by decide) (fun B9 => ceX12_numberHere hl B9 hW h) (fun X9 τ9 h9 => VX_out rfl h9) ?_
    rintro v9 σ2 ⟨hW, u3, rfl, h⟩
    refine V_istore_n 14 (lv' := [(3, .int u3), (2, .int v1), (0, .ref 92), (1, .int a0)]) rfl rfl (by decide) rfl ?_
    refine V_aload_n 15 2 rfl rfl rfl ?_
    refine V_callV 16 0 (as := []) (rest := []) rfl mlX12_295 yvX12_advance rfl rfl clX12 (wsh hW rfl) (by decide) (by decide) (Nat.le_of_ble_eq_true rfl) (by decide) (by decide) (fun B9 => ceX12_advance hl B9 hW h) (fun X9 τ9 h9 => VX_out rfl h9) ?_
    rintro v9 σ4 ⟨hW, rfl, h⟩
    refine V_aload_n 17 2 rfl rfl rfl ?_
    refine V_iload_n 18 3 rfl rfl rfl ?_
    refine V_iload_n 19 0 rfl rfl rfl ?_
    refine V_iload_n 20 1 rfl rfl rfl ?_
    refine V_iconst 21 (v := (1 : Int32)) rfl (by decide) ?_
    refine V_pc 36 rfl ?_
    refine V_callV 22 4 (as := [.int a0, .int u3, .int v1, .int (1 : Int32)]) (rest := []) rfl mlX12_334 yvX12_attributeHere rfl rfl clX12 (wsh hW rfl) (by decide) (by decide) (Nat.le_of_ble_eq_true rfl) (by decide) (by decide) (fun B9 => ceX12_attributeHere hl B9 hW h) (fun X9 τ9 h9 => VX_out rfl h9) ?_
    rintro v9 σ5 ⟨hW, u6, rfl, h⟩
    refine V_istore 23 (lv' := [(4, .int u6), (3, .int u3), (2, .int v1), (0, .ref 92), (1, .int a0)]) rfl (by decide) rfl ?_
    refine V_aload_n 24 3 rfl rfl rfl ?_
    refine V_iconst 25 (v := (4 : Int32)) rfl (by decide) ?_
    refine V_callV 26 1 (as := [.int (4 : Int32)]) (rest := []) rfl mlX12_313 yvX12_need rfl rfl clX12 (wsh hW rfl) (by decide) (by decide) (Nat.le_of_ble_eq_true rfl) (by decide) (by decide) (fun B9 => ceX12_need hl B9 hW h) (fun X9 τ9 h9 => VX_out rfl h9) ?_
    rintro v9 σ7 ⟨hW, rfl, h⟩
    refine V_aload_n 27 3 rfl rfl rfl ?_
    refine V_callV 28 0 (as := []) (rest := []) rfl mlX12_291 yvX12_good rfl rfl clX12 (wsh hW rfl) (by decide) (by decide) (Nat.le_of_ble_eq_true rfl) (by decide) (by decide) (fun B9 => ceX12_good hl B9 hW h) (fun X9 τ9 h9 => VX_out rfl h9) ?_
    rintro v9 σ8 ⟨hW, u9, rfl, h⟩
    refine V_if_ne 29 (tgt := 54) rfl (by decide) (fun hc => ?_) (fun hc => ?_)
    · replace h := h.1 hc
      refine V_aload_n 31 3 rfl rfl rfl ?_
      refine V_getR 32 19 rfl clX12 flX12_48 (by decide) (wsh hW rfl) (fun _ => rfl) (wrf hW 106 rfl) ?_
      refine V_bipush 33 (v := (32 : Int32)) rfl (by decide) ?_
      refine V_iload_n 34 4 rfl rfl rfl ?_
      refine V_imul 35 rfl ?_
      refine V_iload 36 0 rfl rfl ?_
      refine V_pc 64 rfl ?_
      refine V_iadd 37 rfl ?_
      refine V_aload_n 38 3 rfl rfl rfl ?_
      refine V_get (v := .int (σ8.2.1 92 21)) 39 21 rfl clX12 flX12_338 (by decide) (wsh hW rfl) (fun _ => rfl) ?_
      obtain ⟨hin, h⟩ := h
      refine V_iast 40 rfl (wsh hW rfl) hin ?_
      refine V_nm (fun σ10 eσ10 => ?_)
      replace h := h σ10 eσ10
      have hW := wire_I eσ10 hW
      refine V_aload_n 41 3 rfl rfl rfl ?_
      refine V_iload_n 42 4 rfl rfl rfl ?_
      refine V_pc 72 rfl ?_
      refine V_callV 43 1 (as := [.int a0]) (rest := []) rfl mlX12_341 yvX12_expression rfl rfl clX12 (wsh hW rfl) (by decide) (by decide) (Nat.le_of_ble_eq_true rfl) (by decide) (by decide) (fun B9 => ceX12_expression hl B9 hW h) (fun X9 τ9 h9 => VX_out rfl h9) ?_
      rintro v9 σ11 ⟨hW, rfl, h⟩
      refine V_aload_n 44 3 rfl rfl rfl ?_
      refine V_getR 45 20 rfl clX12 flX12_51 (by decide) (wsh hW rfl) (fun _ => rfl) (wrf hW 107 rfl) ?_
      refine V_bipush 46 (v := (32 : Int32)) rfl (by decide) ?_
      refine V_iload_n 47 4 rfl rfl rfl ?_
      refine V_imul 48 rfl ?_
      refine V_pc 83 rfl ?_
      refine V_iload 49 0 rfl rfl ?_
      refine V_iadd 50 rfl ?_
      refine V_aload_n 51 3 rfl rfl rfl ?_
      refine V_get (v := .int (σ11.2.1 92 21)) 52 21 rfl clX12 flX12_338 (by decide) (wsh hW rfl) (fun _ => rfl) ?_
      obtain ⟨hin, h⟩ := h
      refine V_iast 53 rfl (wsh hW rfl) hin ?_
      refine V_nm (fun σ12 eσ12 => ?_)
      replace h := h σ12 eσ12
      have hW := wire_I eσ12 hW
      refine V_aload_n 54 3 rfl rfl rfl ?_
      refine V_pc 92 rfl ?_
      refine V_iconst 55 (v := (5 : Int32)) rfl (by decide) ?_
      refine V_callV 56 1 (as := [.int (5 : Int32)]) (rest := []) rfl mlX12_313 yvX12_need rfl rfl clX12 (wsh hW rfl) (by decide) (by decide) (Nat.le_of_ble_eq_true rfl) (by decide) (by decide) (fun B9 => ceX12_need hl B9 hW h) (fun X9 τ9 h9 => VX_out rfl h9) ?_
      rintro v9 σ13 ⟨hW, rfl, h⟩
      exact V_vret 57 rfl rfl ⟨hW, rfl, h⟩
    · replace h := h.2 hc
      refine V_pc 53 rfl ?_
      exact V_vret 30 rfl rfl ⟨hW, rfl, h⟩
  · replace h := h.2 hc
    refine V_pc 8 rfl ?_
    refine V_aload_n 4 0 rfl rfl rfl ?_
    refine V_aload_n 5 0 rfl rfl rfl ?_
    refine V_get (v := .int (σ.2.1 92 41)) 6 41 rfl clX12 flX12_252 (by decide) (wsh hW rfl) (fun _ => rfl) ?_
    refine V_callV 7 1 (as := [.int (σ.2.1 92 41)]) (rest := []) rfl mlX12_287 yvX12_fail rfl rfl clX12 (wsh hW rfl) (by decide) (by decide) (Nat.le_of_ble_eq_true rfl) (by decide) (by decide) (fun B9 => ceX12_fail hl B9 hW h) (fun X9 τ9 h9 => VX_out rfl h9) ?_
    rintro v9 σ14 ⟨hW, rfl, h⟩
    exact V_vret 8 rfl rfl ⟨hW, rfl, h⟩

def wX12_isWhole_j84 (a0 : Int32) (Q : Int32 → ab_S → Prop) (E : String → ab_S → Prop) (Bk : Int32 → Int32 → ab_S → Prop) (x2 : Int32) (x3 : Int32) (σ : ab_S) : Prop := ∀ v1 : Int32, v1 = (x3 + 1) → Bk x2 v1 σ
def wX12_isWhole_j77 (a0 : Int32) (Q : Int32 → ab_S → Prop) (E : String → ab_S → Prop) (K84 : Int32 → Int32 → ab_S → Prop) (Bk : Int32 → Int32 → Int32 → ab_S → Prop) (x3 : Int32) (x4 : Int32) (y0 : Int32) (σ : ab_S) : Prop := ∀ v2 : Int32, v2 = (x4 + 1) → Bk y0 x3 v2 σ
def wX12_isWhole_j72 (a0 : Int32) (Q : Int32 → ab_S → Prop) (E : String → ab_S → Prop) (K84 : Int32 → Int32 → ab_S → Prop) (Bk : Int32 → Int32 → Int32 → ab_S → Prop) (x3 : Int32) (x4 : Int32) (σ : ab_S) : Prop := wX12_isWhole_j77 a0 Q E K84 Bk x3 x4 (1 : Int32) σ
def wX12_isWhole_j76 (a0 : Int32) (Q : Int32 → ab_S → Prop) (E : String → ab_S → Prop) (K84 : Int32 → Int32 → ab_S → Prop) (Bk : Int32 → Int32 → Int32 → ab_S → Prop) (x3 : Int32) (x4 : Int32) (σ : ab_S) : Prop := wX12_isWhole_j77 a0 Q E K84 Bk x3 x4 (0 : Int32) σ
def wX12_isWhole_l17_b (a0 : Int32) (Q : Int32 → ab_S → Prop) (E : String → ab_S → Prop) (K84 : Int32 → Int32 → ab_S → Prop) (Bk : Int32 → Int32 → Int32 → ab_S → Prop) (x2 : Int32) (x3 : Int32) (x4 : Int32) (σ : ab_S) : Prop := vp_in (((4 : Int32) * a0) + x3) 124 ∧ (vp_in (σ.2.1 104 (((4 : Int32) * a0) + x3).toNatClampNeg) 13 ∧ ((((σ.2.1 99 (σ.2.1 104 (((4 : Int32) * a0) + x3).toNatClampNeg).toNatClampNeg) ≤ x4) → K84 x2 x3 σ) ∧ (¬ ((σ.2.1 99 (σ.2.1 104 (((4 : Int32) * a0) + x3).toNatClampNeg).toNatClampNeg) ≤ x4) → ((x2 = 0) → wX12_isWhole_j76 a0 Q E K84 Bk x3 x4 σ) ∧ (¬ (x2 = 0) → wX12_isDefined a0 x3 x4 (fun u4 σ3 => ((u4 = 0) → wX12_isWhole_j72 a0 Q E K84 Bk x3 x4 σ3) ∧ (¬ (u4 = 0) → vp_in ((((32 : Int32) * a0) + ((8 : Int32) * x3)) + x4) 992 ∧ ((((σ3.2.1 105 ((((32 : Int32) * a0) + ((8 : Int32) * x3)) + x4).toNatClampNeg) < 0) → wX12_isWhole_j76 a0 Q E K84 Bk x3 x4 σ3) ∧ (¬ ((σ3.2.1 105 ((((32 : Int32) * a0) + ((8 : Int32) * x3)) + x4).toNatClampNeg) < 0) → wX12_isWhole_j72 a0 Q E K84 Bk x3 x4 σ3)))) E σ))))
def wX12_isWhole_l17 (a0 : Int32) (Q : Int32 → ab_S → Prop) (E : String → ab_S → Prop) (K84 : Int32 → Int32 → ab_S → Prop) : Nat → Int32 → Int32 → Int32 → ab_S → Prop
  | 0, _, _, _, _ => False
  | n + 1, x2, x3, x4, σ => wX12_isWhole_l17_b a0 Q E K84 (wX12_isWhole_l17 a0 Q E K84 n) x2 x3 x4 σ
def wX12_isWhole_l4_b (a0 : Int32) (Q : Int32 → ab_S → Prop) (E : String → ab_S → Prop) (Bk : Int32 → Int32 → ab_S → Prop) (x2 : Int32) (x3 : Int32) (σ : ab_S) : Prop := vp_in a0 31 ∧ ((((σ.2.1 103 a0.toNatClampNeg) < x3) → (x2 = 0 ∨ x2 = 1) ∧ Q x2 σ) ∧ (¬ ((σ.2.1 103 a0.toNatClampNeg) < x3) → ∃ n, wX12_isWhole_l17 a0 Q E (wX12_isWhole_j84 a0 Q E Bk) n x2 x3 (0 : Int32) σ))
def wX12_isWhole_l4 (a0 : Int32) (Q : Int32 → ab_S → Prop) (E : String → ab_S → Prop) : Nat → Int32 → Int32 → ab_S → Prop
  | 0, _, _, _ => False
  | n + 1, x2, x3, σ => wX12_isWhole_l4_b a0 Q E (wX12_isWhole_l4 a0 Q E n) x2 x3 σ
def wX12_isWhole (a0 : Int32) (Q : Int32 → ab_S → Prop) (E : String → ab_S → Prop) (σ : ab_S) : Prop := ∃ n, wX12_isWhole_l4 a0 Q E n (1 : Int32) (0 : Int32) σ
set_option maxHeartbeats 4000000 in
set_option maxRecDepth 100000 in
theorem ceX12_isWhole {l : Launch} (hl : l.stackTraces = false) (B : Nat) {a0 : Int32}  {Q : Int32 → ab_S → Prop} {E : String → ab_S → Prop} {σ : ab_S} (hW : Wire σ) (h : wX12_isWhole a0 Q E σ) : ab_Mt l yX12_isWhole mdX12_isWhole B 1 24 0 0 [.ref 92, .int a0] σ (fun v σ' => Wire σ' ∧ ∃ r : Int32, v = some (.int r) ∧ Q r σ') (fun X σ' => Wire σ' ∧ E X σ') := by
  refine V_met hl ⟨rfl, rfl, by decide⟩ rfl dkX12_isWhole (Nat.le_of_ble_eq_true rfl) ?_
  show V l mdX12_isWhole B 1 24 0 0 (ab_End _ _) 0 [(0, .ref 92), (1, .int a0)] [] σ
  revert h hW
  revert σ
  have k_l4 : ∀ (n : Nat) (x2 : Int32) (x3 : Int32)  (σ : ab_S), Wire σ → wX12_isWhole_l4 a0 Q E n x2 x3 σ → V l mdX12_isWhole B 1 24 0 0 (ab_End (fun v σ' => Wire σ' ∧ ∃ r : Int32, v = some (.int r) ∧ Q r σ') (fun X σ' => Wire σ' ∧ E X σ')) 4 [(0, .ref 92), (1, .int a0), (2, .int x2), (3, .int x3)] [] σ := by
    have step : ∀ (Bk : Int32 → Int32 → ab_S → Prop) (k_Bk : ∀ (x2 : Int32) (x3 : Int32)  (σ : ab_S), Wire σ → Bk x2 x3 σ → V l mdX12_isWhole B 1 24 0 0 (ab_End (fun v σ' => Wire σ' ∧ ∃ r : Int32, v = some (.int r) ∧ Q r σ') (fun X σ' => Wire σ' ∧ E X σ')) 4 [(0, .ref 92), (1, .int a0), (2, .int x2), (3, .int x3)] [] σ), ∀ (x2 : Int32) (x3 : Int32)  (σ : ab_S), Wire σ → wX12_isWhole_l4_b a0 Q E Bk x2 x3 σ → V l mdX12_isWhole B 1 24 0 0 (ab_End (fun v σ' => Wire σ' ∧ ∃ r : Int32, v = some (.int r) ∧ Q r σ') (fun X σ' => Wire σ' ∧ E X σ')) 4 [(0, .ref 92), (1, .int a0), (2, .int x2), (3, .int x3)] [] σ := by
      intro Bk k_Bk
      have k_j84 : ∀ (x2 : Int32) (x3 : Int32)  (σ : ab_S), Wire σ → wX12_isWhole_j84 a0 Q E Bk x2 x3 σ → V l mdX12_isWhole B 1 24 0 0 (ab_End (fun v σ' => Wire σ' ∧ ∃ r : Int32, v = some (.int r) ∧ Q r σ') (fun X σ' => Wire σ' ∧ E X σ')) 84 [(0, .ref 92), (1, .int a0), (2, .int x2), (3, .int x3)] [] σ := by
        intro x2 x3  σ hW h
        obtain ⟨v1, ev1⟩ : ∃ z : Int32, z = (x3 + 1) := ⟨_, rfl⟩
        replace h := h v1 ev1
        refine V_iinc 52 3 (v := v1) (lv' := [(3, .int v1), (0, .ref 92), (1, .int a0), (2, .int x2)]) rfl rfl ((in_1 _).trans ev1.symm) (by decide) rfl ?_
        refine V_goto 53 (tgt := 4) rfl (by decide) ?_
        refine V_sub [1, 2, 3, 0] (lv' := [(0, .ref 92), (1, .int a0), (2, .int x2), (3, .int v1)]) rfl ?_
        exact k_Bk x2 v1  σ hW h
      have k_l17 : ∀ (n : Nat) (x2 : Int32) (x3 : Int32) (x4 : Int32)  (σ : ab_S), Wire σ → wX12_isWhole_l17 a0 Q E (wX12_isWhole_j84 a0 Q E Bk) n x2 x3 x4 σ → V l mdX12_isWhole B 1 24 0 0 (ab_End (fun v σ' => Wire σ' ∧ ∃ r : Int32, v = some (.int r) ∧ Q r σ') (fun X σ' => Wire σ' ∧ E X σ')) 17 [(0, .ref 92), (1, .int a0), (2, .int x2), (3, .int x3), (4, .int x4)] [] σ := by
        have step : ∀ (K84 : Int32 → Int32 → ab_S → Prop) (k_K84 : ∀ (x2 : Int32) (x3 : Int32)  (σ : ab_S), Wire σ → K84 x2 x3 σ → V l mdX12_isWhole B 1 24 0 0 (ab_End (fun v σ' => Wire σ' ∧ ∃ r : Int32, v = some (.int r) ∧ Q r σ') (fun X σ' => Wire σ' ∧ E X σ')) 84 [(0, .ref 92), (1, .int a0), (2, .int x2), (3, .int x3)] [] σ), ∀ (Bk : Int32 → Int32 → Int32 → ab_S → Prop) (k_Bk : ∀ (x2 : Int32) (x3 : Int32) (x4 : Int32)  (σ : ab_S), Wire σ → Bk x2 x3 x4 σ → V l mdX12_isWhole B 1 24 0 0 (ab_End (fun v σ' => Wire σ' ∧ ∃ r : Int32, v = some (.int r) ∧ Q r σ') (fun X σ' => Wire σ' ∧ E X σ')) 17 [(0, .ref 92), (1, .int a0), (2, .int x2), (3, .int x3), (4, .int x4)] [] σ), ∀ (x2 : Int32) (x3 : Int32) (x4 : Int32)  (σ : ab_S), Wire σ → wX12_isWhole_l17_b a0 Q E K84 Bk x2 x3 x4 σ → V l mdX12_isWhole B 1 24 0 0 (ab_End (fun v σ' => Wire σ' ∧ ∃ r : Int32, v = some (.int r) ∧ Q r σ') (fun X σ' => Wire σ' ∧ E X σ')) 17 [(0, .ref 92), (1, .int a0), (2, .int x2), (3, .int x3), (4, .int x4)] [] σ := by
          intro K84 k_K84 Bk k_Bk
          have k_j77 : ∀ (x3 : Int32) (x4 : Int32) (y0 : Int32)  (σ : ab_S), Wire σ → wX12_isWhole_j77 a0 Q E K84 Bk x3 x4 y0 σ → V l mdX12_isWhole B 1 24 0 0 (ab_End (fun v σ' => Wire σ' ∧ ∃ r : Int32, v = some (.int r) ∧ Q r σ') (fun X σ' => Wire σ' ∧ E X σ')) 77 [(0, .ref 92), (1, .int a0), (3, .int x3), (4, .int x4)] [.int y0] σ := by
            intro x3 x4 y0  σ hW h
            refine V_istore_n 49 (lv' := [(2, .int y0), (0, .ref 92), (1, .int a0), (3, .int x3), (4, .int x4)]) rfl rfl (by decide) rfl ?_
            obtain ⟨v2, ev2⟩ : ∃ z : Int32, z = (x4 + 1) := ⟨_, rfl⟩
            replace h := h v2 ev2
            refine V_iinc 50 4 (v := v2) (lv' := [(4, .int v2), (2, .int y0), (0, .ref 92), (1, .int a0), (3, .int x3)]) rfl rfl ((in_1 _).trans ev2.symm) (by decide) rfl ?_
            refine V_goto 51 (tgt := 17) rfl (by decide) ?_
            refine V_sub [2, 3, 1, 4, 0] (lv' := [(0, .ref 92), (1, .int a0), (2, .int y0), (3, .int x3), (4, .int v2)]) rfl ?_
            exact k_Bk y0 x3 v2  σ hW h
          have k_j72 : ∀ (x3 : Int32) (x4 : Int32)  (σ : ab_S), Wire σ → wX12_isWhole_j72 a0 Q E K84 Bk x3 x4 σ → V l mdX12_isWhole B 1 24 0 0 (ab_End (fun v σ' => Wire σ' ∧ ∃ r : Int32, v = some (.int r) ∧ Q r σ') (fun X σ' => Wire σ' ∧ E X σ')) 72 [(0, .ref 92), (1, .int a0), (3, .int x3), (4, .int x4)] [] σ := by
            intro x3 x4  σ hW h
            refine V_iconst 46 (v := (1 : Int32)) rfl (by decide) ?_
            refine V_goto 47 (tgt := 77) rfl (by decide) ?_
            exact k_j77 x3 x4 (1 : Int32) σ hW h
          have k_j76 : ∀ (x3 : Int32) (x4 : Int32)  (σ : ab_S), Wire σ → wX12_isWhole_j76 a0 Q E K84 Bk x3 x4 σ → V l mdX12_isWhole B 1 24 0 0 (ab_End (fun v σ' => Wire σ' ∧ ∃ r : Int32, v = some (.int r) ∧ Q r σ') (fun X σ' => Wire σ' ∧ E X σ')) 76 [(0, .ref 92), (1, .int a0), (3, .int x3), (4, .int x4)] [] σ := by
            intro x3 x4  σ hW h
            refine V_iconst 48 (v := (0 : Int32)) rfl (by decide) ?_
            exact k_j77 x3 x4 (0 : Int32) σ hW h
          intro x2 x3 x4  σ hW h
          refine V_iload 12 4 rfl rfl ?_
          refine V_aload_n 13 0 rfl rfl rfl ?_
          refine V_getR 14 12 rfl clX12 flX12_29 (by decide) (wsh hW rfl) (fun _ => rfl) (wrf hW 100 rfl) ?_
          refine V_aload_n 15 0 rfl rfl rfl ?_
          refine V_getR 16 18 rfl clX12 flX12_45 (by decide) (wsh hW rfl) (fun _ => rfl) (wrf hW 105 rfl) ?_
          refine V_iconst 17 (v := (4 : Int32)) rfl (by decide) ?_
          refine V_pc 28 rfl ?_
          refine V_iload_n 18 1 rfl rfl rfl ?_
          refine V_imul 19 rfl ?_
          refine V_iload_n 20 3 rfl rfl rfl ?_
          refine V_iadd 21 rfl ?_
          obtain ⟨hin, h⟩ := h
          refine V_iald 22 rfl (wsh hW rfl) hin ?_
          obtain ⟨hin, h⟩ := h
          refine V_iald 23 rfl (wsh hW rfl) hin ?_
          refine V_pc 34 rfl ?_
          refine V_icmp_ge 24 (tgt := 84) rfl (by decide) (fun hc => ?_) (fun hc => ?_)
          · replace h := h.1 hc
            refine V_sub [0, 1, 2, 3] (lv' := [(0, .ref 92), (1, .int a0), (2, .int x2), (3, .int x3)]) rfl ?_
            exact k_K84 x2 x3  σ hW h
          · replace h := h.2 hc
            refine V_pc 37 rfl ?_
            refine V_iload_n 25 2 rfl rfl rfl ?_
            refine V_if_eq 26 (tgt := 76) rfl (by decide) (fun hc => ?_) (fun hc => ?_)
            · replace h := h.1 hc
              refine V_sub [0, 1, 3, 4] (lv' := [(0, .ref 92), (1, .int a0), (3, .int x3), (4, .int x4)]) rfl ?_
              exact k_j76 x3 x4 σ hW h
            · replace h := h.2 hc
              refine V_pc 41 rfl ?_
              refine V_aload_n 27 0 rfl rfl rfl ?_
              refine V_iload_n 28 1 rfl rfl rfl ?_
              refine V_iload_n 29 3 rfl rfl rfl ?_
              refine V_iload 30 4 rfl rfl ?_
              refine V_callV 31 3 (as := [.int a0, .int x3, .int x4]) (rest := []) rfl mlX12_328 yvX12_isDefined rfl rfl clX12 (wsh hW rfl) (by decide) (by decide) (Nat.le_of_ble_eq_true rfl) (by decide) (by decide) (fun B9 => ceX12_isDefined hl B9 hW h) (fun X9 τ9 h9 => VX_out rfl h9) ?_
              rintro v9 σ3 ⟨hW, u4, rfl, h⟩
              refine V_if_eq 32 (tgt := 72) rfl (by decide) (fun hc => ?_) (fun hc => ?_)
              · replace h := h.1 hc
                refine V_sub [0, 1, 3, 4] (lv' := [(0, .ref 92), (1, .int a0), (3, .int x3), (4, .int x4)]) rfl ?_
                exact k_j72 x3 x4 σ3 hW h
              · replace h := h.2 hc
                refine V_pc 52 rfl ?_
                refine V_aload_n 33 0 rfl rfl rfl ?_
                refine V_getR 34 19 rfl clX12 flX12_48 (by decide) (wsh hW rfl) (fun _ => rfl) (wrf hW 106 rfl) ?_
                refine V_bipush 35 (v := (32 : Int32)) rfl (by decide) ?_
                refine V_iload_n 36 1 rfl rfl rfl ?_
                refine V_imul 37 rfl ?_
                refine V_bipush 38 (v := (8 : Int32)) rfl (by decide) ?_
                refine V_pc 62 rfl ?_
                refine V_iload_n 39 3 rfl rfl rfl ?_
                refine V_imul 40 rfl ?_
                refine V_iadd 41 rfl ?_
                refine V_iload 42 4 rfl rfl ?_
                refine V_iadd 43 rfl ?_
                obtain ⟨hin, h⟩ := h
                refine V_iald 44 rfl (wsh hW rfl) hin ?_
                refine V_pc 69 rfl ?_
                refine V_if_lt 45 (tgt := 76) rfl (by decide) (fun hc => ?_) (fun hc => ?_)
                · replace h := h.1 hc
                  refine V_sub [0, 1, 3, 4] (lv' := [(0, .ref 92), (1, .int a0), (3, .int x3), (4, .int x4)]) rfl ?_
                  exact k_j76 x3 x4 σ3 hW h
                · replace h := h.2 hc
                  refine V_pc 72 rfl ?_
                  refine V_sub [0, 1, 3, 4] (lv' := [(0, .ref 92), (1, .int a0), (3, .int x3), (4, .int x4)]) rfl ?_
                  exact k_j72 x3 x4 σ3 hW h
        intro n
        induction n with
        | zero => intro x2 x3 x4  σ hW h; exact absurd h id
        | succ n ih => exact step _ k_j84 _ ih
      intro x2 x3  σ hW h
      refine V_iload_n 4 3 rfl rfl rfl ?_
      refine V_aload_n 5 0 rfl rfl rfl ?_
      refine V_getR 6 17 rfl clX12 flX12_42 (by decide) (wsh hW rfl) (fun _ => rfl) (wrf hW 104 rfl) ?_
      refine V_iload_n 7 1 rfl rfl rfl ?_
      obtain ⟨hin, h⟩ := h
      refine V_iald 8 rfl (wsh hW rfl) hin ?_
      refine V_icmp_gt 9 (tgt := 90) rfl (by decide) (fun hc => ?_) (fun hc => ?_)
      · replace h := h.1 hc
        refine V_iload_n 54 2 rfl rfl rfl ?_
        exact V_zret 55 rfl rfl (nb1 h.1) ⟨hW, _, rfl, h.2⟩
      · replace h := h.2 hc
        refine V_pc 14 rfl ?_
        refine V_iconst 10 (v := (0 : Int32)) rfl (by decide) ?_
        refine V_istore 11 (lv' := [(4, .int (0 : Int32)), (0, .ref 92), (1, .int a0), (2, .int x2), (3, .int x3)]) rfl (by decide) rfl ?_
        refine V_sub [1, 2, 3, 4, 0] (lv' := [(0, .ref 92), (1, .int a0), (2, .int x2), (3, .int x3), (4, .int (0 : Int32))]) rfl ?_
        obtain ⟨n, h⟩ := h
        exact k_l17 n x2 x3 (0 : Int32) σ hW h
    intro n
    induction n with
    | zero => intro x2 x3  σ hW h; exact absurd h id
    | succ n ih => exact step  _ ih
  intro σ hW h
  refine V_iconst 0 (v := (1 : Int32)) rfl (by decide) ?_
  refine V_istore_n 1 (lv' := [(2, .int (1 : Int32)), (0, .ref 92), (1, .int a0)]) rfl rfl (by decide) rfl ?_
  refine V_iconst 2 (v := (0 : Int32)) rfl (by decide) ?_
  refine V_istore_n 3 (lv' := [(3, .int (0 : Int32)), (2, .int (1 : Int32)), (0, .ref 92), (1, .int a0)]) rfl rfl (by decide) rfl ?_
  refine V_sub [2, 3, 1, 0] (lv' := [(0, .ref 92), (1, .int a0), (2, .int (1 : Int32)), (3, .int (0 : Int32))]) rfl ?_
  obtain ⟨n, h⟩ := h
  exact k_l4 n (1 : Int32) (0 : Int32) σ hW h

def wX12_production_j135 (Q : ab_S → Prop) (E : String → ab_S → Prop)  (σ : ab_S) : Prop := wX12_fail (σ.2.1 92 41) (fun σ1 => Q σ1) E σ
def wX12_production_j257 (Q : ab_S → Prop) (E : String → ab_S → Prop)  (σ : ab_S) : Prop := wX12_need (9 : Int32) (fun σ2 => (∀ σ3 : ab_S, σ3 = ab_I σ2 92 14 ((σ2.2.1 92 14) + (1 : Int32)) → Q σ3)) E σ
def wX12_production_j234 (Q : ab_S → Prop) (E : String → ab_S → Prop) (x1 : Int32) (σ : ab_S) : Prop := wX12_good (fun u5 σ4 => ((u5 = 0) → wX12_production_j257 Q E σ4) ∧ (¬ (u5 = 0) → wX12_isWhole x1 (fun u7 σ6 => ((¬ u7 = 0) → wX12_production_j257 Q E σ6) ∧ (¬ (¬ u7 = 0) → wX12_fail (σ6.2.1 92 41) (fun σ8 => wX12_production_j257 Q E σ8) E σ6)) E σ4)) E σ
def wX12_production_l210_b (Q : ab_S → Prop) (E : String → ab_S → Prop) (K234 : Int32 → ab_S → Prop) (Bk : Int32 → ab_S → Prop) (x1 : Int32) (σ : ab_S) : Prop := wX12_good (fun u10 σ9 => ((u10 = 0) → K234 x1 σ9) ∧ (¬ (u10 = 0) → (((σ9.2.1 92 40) = (9 : Int32)) → K234 x1 σ9) ∧ (¬ ((σ9.2.1 92 40) = (9 : Int32)) → wX12_rule x1 (fun σ11 => Bk x1 σ11) E σ9))) E σ
def wX12_production_l210 (Q : ab_S → Prop) (E : String → ab_S → Prop) (K234 : Int32 → ab_S → Prop) : Nat → Int32 → ab_S → Prop
  | 0, _, _ => False
  | n + 1, x1, σ => wX12_production_l210_b Q E K234 (wX12_production_l210 Q E K234 n) x1 σ
def wX12_production_l186_b (Q : ab_S → Prop) (E : String → ab_S → Prop) (K210 : Int32 → ab_S → Prop) (Bk : Int32 → Int32 → ab_S → Prop) (x1 : Int32) (x2 : Int32) (σ : ab_S) : Prop := (((32 : Int32) ≤ x2) → K210 x1 σ) ∧ (¬ ((32 : Int32) ≤ x2) → vp_in (((32 : Int32) * x1) + x2) 992 ∧ (∀ σ12 : ab_S, σ12 = ab_I σ 105 (((32 : Int32) * x1) + x2).toNatClampNeg (-1 : Int32) → ∀ v13 : Int32, v13 = (x2 + 1) → Bk x1 v13 σ12))
def wX12_production_l186 (Q : ab_S → Prop) (E : String → ab_S → Prop) (K210 : Int32 → ab_S → Prop) : Nat → Int32 → Int32 → ab_S → Prop
  | 0, _, _, _ => False
  | n + 1, x1, x2, σ => wX12_production_l186_b Q E K210 (wX12_production_l186 Q E K210 n) x1 x2 σ
def wX12_production_j178 (Q : ab_S → Prop) (E : String → ab_S → Prop) (x1 : Int32) (σ : ab_S) : Prop := wX12_need (8 : Int32) (fun σ14 => ∃ n, wX12_production_l186 Q E (fun x1 τ => ∃ n, wX12_production_l210 Q E (wX12_production_j234 Q E) n x1 τ) n x1 (0 : Int32) σ14) E σ
def wX12_production_l110_b (Q : ab_S → Prop) (E : String → ab_S → Prop) (K135 : ab_S → Prop) (K178 : Int32 → ab_S → Prop) (Bk : Int32 → ab_S → Prop) (x1 : Int32) (σ : ab_S) : Prop := wX12_good (fun u16 σ15 => ((u16 = 0) → K178 x1 σ15) ∧ (¬ (u16 = 0) → ((¬ (σ15.2.1 92 40) = (1 : Int32)) → K178 x1 σ15) ∧ (¬ (¬ (σ15.2.1 92 40) = (1 : Int32)) → vp_in x1 31 ∧ (((¬ (σ15.2.1 103 x1.toNatClampNeg) = (3 : Int32)) → wX12_symbolHere (fun u18 σ17 => vp_in x1 31 ∧ (vp_in x1 31 ∧ (∀ σ19 : ab_S, σ19 = ab_I σ17 103 x1.toNatClampNeg ((σ17.2.1 103 x1.toNatClampNeg) + (1 : Int32)) → vp_in x1 31 ∧ (vp_in (((4 : Int32) * x1) + (σ19.2.1 103 x1.toNatClampNeg)) 124 ∧ (∀ σ20 : ab_S, σ20 = ab_I σ19 104 (((4 : Int32) * x1) + (σ19.2.1 103 x1.toNatClampNeg)).toNatClampNeg u18 → Bk x1 σ20))))) E σ15) ∧ (¬ (¬ (σ15.2.1 103 x1.toNatClampNeg) = (3 : Int32)) → K135 σ15))))) E σ
def wX12_production_l110 (Q : ab_S → Prop) (E : String → ab_S → Prop) (K135 : ab_S → Prop) (K178 : Int32 → ab_S → Prop) : Nat → Int32 → ab_S → Prop
  | 0, _, _ => False
  | n + 1, x1, σ => wX12_production_l110_b Q E K135 K178 (wX12_production_l110 Q E K135 K178 n) x1 σ
def wX12_production_j103 (Q : ab_S → Prop) (E : String → ab_S → Prop) (x1 : Int32) (σ : ab_S) : Prop := vp_in x1 31 ∧ (∀ σ21 : ab_S, σ21 = ab_I σ 103 x1.toNatClampNeg (0 : Int32) → ∃ n, wX12_production_l110 Q E (wX12_production_j135 Q E) (wX12_production_j178 Q E) n x1 σ21)
def wX12_production_j89 (Q : ab_S → Prop) (E : String → ab_S → Prop) (x1 : Int32) (y0 : Int32) (y1 : Int32) (σ : ab_S) : Prop := vp_in y1 31 ∧ (∀ σ22 : ab_S, σ22 = ab_I σ 102 y1.toNatClampNeg (vp_nar .boolean y0) → vp_in x1 31 ∧ ((((σ22.2.1 102 x1.toNatClampNeg) = 0) → wX12_production_j103 Q E x1 σ22) ∧ (¬ ((σ22.2.1 102 x1.toNatClampNeg) = 0) → wX12_advance (fun σ23 => wX12_production_j103 Q E x1 σ23) E σ22)))
def wX12_production_j88 (Q : ab_S → Prop) (E : String → ab_S → Prop) (x1 : Int32) (y0 : Int32) (σ : ab_S) : Prop := wX12_production_j89 Q E x1 (0 : Int32) y0 σ
def wX12_production_j57 (Q : ab_S → Prop) (E : String → ab_S → Prop) (x1 : Int32) (y0 : Int32) (y1 : Int32) (σ : ab_S) : Prop := vp_in y1 124 ∧ (∀ σ24 : ab_S, σ24 = ab_I σ 104 y1.toNatClampNeg y0 → wX12_need (4 : Int32) (fun σ25 => wX12_good (fun u27 σ26 => ((u27 = 0) → wX12_production_j88 Q E x1 x1 σ26) ∧ (¬ (u27 = 0) → ((¬ (σ26.2.1 92 40) = (12 : Int32)) → wX12_production_j88 Q E x1 x1 σ26) ∧ (¬ (¬ (σ26.2.1 92 40) = (12 : Int32)) → wX12_production_j89 Q E x1 (1 : Int32) x1 σ26))) E σ25) E σ24)
def wX12_production  (Q : ab_S → Prop) (E : String → ab_S → Prop) (σ : ab_S) : Prop := ∀ v28 : Int32, v28 = (σ.2.1 92 14) → ((¬ v28 = (30 : Int32)) → wX12_declare 101 248 (0 : Int32) v28 (fun σ29 => wX12_need (3 : Int32) (fun σ30 => wX12_good (fun u32 σ31 => ((u32 = 0) → wX12_production_j57 Q E v28 (0 : Int32) ((4 : Int32) * v28) σ31) ∧ (¬ (u32 = 0) → wX12_symbolHere (fun u34 σ33 => wX12_production_j57 Q E v28 u34 ((4 : Int32) * v28) σ33) E σ31)) E σ30) E σ29) E σ) ∧ (¬ (¬ v28 = (30 : Int32)) → wX12_fail (σ.2.1 92 41) (fun σ35 => Q σ35) E σ)
set_option maxHeartbeats 4000000 in
set_option maxRecDepth 100000 in
theorem ceX12_production {l : Launch} (hl : l.stackTraces = false) (B : Nat)   {Q : ab_S → Prop} {E : String → ab_S → Prop} {σ : ab_S} (hW : Wire σ) (h : wX12_production  Q E σ) : ab_Mt l yX12_production mdX12_production B 8 187 0 0 [.ref 92] σ (fun v σ' => Wire σ' ∧ v = none ∧ Q σ') (fun X σ' => Wire σ' ∧ E X σ') := by
  refine V_met hl ⟨rfl, rfl, by decide⟩ rfl dkX12_production (Nat.le_of_ble_eq_true rfl) ?_
  show V l mdX12_production B 8 187 0 0 (ab_End _ _) 0 [(0, .ref 92)] [] σ
  revert h hW
  revert σ
  have k_j135 : ∀   (σ : ab_S), Wire σ → wX12_production_j135 Q E  σ → V l mdX12_production B 8 187 0 0 (ab_End (fun v σ' => Wire σ' ∧ v = none ∧ Q σ') (fun X σ' => Wire σ' ∧ E X σ')) 135 [(0, .ref 92)] [] σ := by
    intro   σ hW h
    refine V_aload_n 75 0 rfl rfl rfl ?_
    refine V_aload_n 76 0 rfl rfl rfl ?_
    refine V_get (v := .int (σ.2.1 92 41)) 77 41 rfl clX12 flX12_252 (by decide) (wsh hW rfl) (fun _ => rfl) ?_
    refine V_callV 78 1 (as := [.int (σ.2.1 92 41)]) (rest := []) rfl mlX12_287 yvX12_fail rfl rfl clX12 (wsh hW rfl) (by decide) (by decide) (Nat.le_of_ble_eq_true rfl) (by decide) (by decide) (fun B9 => ceX12_fail hl B9 hW h) (fun X9 τ9 h9 => VX_out rfl h9) ?_
    rintro v9 σ1 ⟨hW, rfl, h⟩
    exact V_vret 79 rfl rfl ⟨hW, rfl, h⟩
  have k_j257 : ∀   (σ : ab_S), Wire σ → wX12_production_j257 Q E  σ → V l mdX12_production B 8 187 0 0 (ab_End (fun v σ' => Wire σ' ∧ v = none ∧ Q σ') (fun X σ' => Wire σ' ∧ E X σ')) 257 [(0, .ref 92)] [] σ := by
    intro   σ hW h
    refine V_aload_n 145 0 rfl rfl rfl ?_
    refine V_bipush 146 (v := (9 : Int32)) rfl (by decide) ?_
    refine V_callV 147 1 (as := [.int (9 : Int32)]) (rest := []) rfl mlX12_313 yvX12_need rfl rfl clX12 (wsh hW rfl) (by decide) (by decide) (Nat.le_of_ble_eq_true rfl) (by decide) (by decide) (fun B9 => ceX12_need hl B9 hW h) (fun X9 τ9 h9 => VX_out rfl h9) ?_
    rintro v9 σ2 ⟨hW, rfl, h⟩
    refine V_aload_n 148 0 rfl rfl rfl ?_
    refine V_dup 149 rfl rfl ?_
    refine V_get (v := .int (σ2.2.1 92 14)) 150 14 rfl clX12 flX12_316 (by decide) (wsh hW rfl) (fun _ => rfl) ?_
    refine V_iconst 151 (v := (1 : Int32)) rfl (by decide) ?_
    refine V_iadd 152 rfl ?_
    refine V_pc 270 rfl ?_
    refine V_putI 153 14 rfl clX12 flX12_316 (by decide) (wsh hW rfl) rfl (fun _ _ => rfl) rfl rfl ?_
    refine V_nm (fun σ3 eσ3 => ?_)
    replace h := h σ3 eσ3
    have hW := wire_I eσ3 hW
    exact V_vret 154 rfl rfl ⟨hW, rfl, h⟩
  have k_j234 : ∀ (x1 : Int32)  (σ : ab_S), Wire σ → wX12_production_j234 Q E x1 σ → V l mdX12_production B 8 187 0 0 (ab_End (fun v σ' => Wire σ' ∧ v = none ∧ Q σ') (fun X σ' => Wire σ' ∧ E X σ')) 234 [(0, .ref 92), (1, .int x1)] [] σ := by
    intro x1  σ hW h
    refine V_aload_n 134 0 rfl rfl rfl ?_
    refine V_callV 135 0 (as := []) (rest := []) rfl mlX12_291 yvX12_good rfl rfl clX12 (wsh hW rfl) (by decide) (by decide) (Nat.le_of_ble_eq_true rfl) (by decide) (by decide) (fun B9 => ceX12_good hl B9 hW h) (fun X9 τ9 h9 => VX_out rfl h9) ?_
    rintro v9 σ4 ⟨hW, u5, rfl, h⟩
    refine V_if_eq 136 (tgt := 257) rfl (by decide) (fun hc => ?_) (fun hc => ?_)
    · replace h := h.1 hc
      refine V_sub [0] (lv' := [(0, .ref 92)]) rfl ?_
      exact k_j257 σ4 hW h
    · replace h := h.2 hc
      refine V_pc 241 rfl ?_
      refine V_aload_n 137 0 rfl rfl rfl ?_
      refine V_iload_n 138 1 rfl rfl rfl ?_
      refine V_callV 139 1 (as := [.int x1]) (rest := []) rfl mlX12_325 yvX12_isWhole rfl rfl clX12 (wsh hW rfl) (by decide) (by decide) (Nat.le_of_ble_eq_true rfl) (by decide) (by decide) (fun B9 => ceX12_isWhole hl B9 hW h) (fun X9 τ9 h9 => VX_out rfl h9) ?_
      rintro v9 σ6 ⟨hW, u7, rfl, h⟩
      refine V_if_ne 140 (tgt := 257) rfl (by decide) (fun hc => ?_) (fun hc => ?_)
      · replace h := h.1 hc
        refine V_sub [0] (lv' := [(0, .ref 92)]) rfl ?_
        exact k_j257 σ6 hW h
      · replace h := h.2 hc
        refine V_pc 249 rfl ?_
        refine V_aload_n 141 0 rfl rfl rfl ?_
        refine V_aload_n 142 0 rfl rfl rfl ?_
        refine V_get (v := .int (σ6.2.1 92 41)) 143 41 rfl clX12 flX12_252 (by decide) (wsh hW rfl) (fun _ => rfl) ?_
        refine V_callV 144 1 (as := [.int (σ6.2.1 92 41)]) (rest := []) rfl mlX12_287 yvX12_fail rfl rfl clX12 (wsh hW rfl) (by decide) (by decide) (Nat.le_of_ble_eq_true rfl) (by decide) (by decide) (fun B9 => ceX12_fail hl B9 hW h) (fun X9 τ9 h9 => VX_out rfl h9) ?_
        rintro v9 σ8 ⟨hW, rfl, h⟩
        refine V_sub [0] (lv' := [(0, .ref 92)]) rfl ?_
        exact k_j257 σ8 hW h
  have k_l210 : ∀ (n : Nat) (x1 : Int32)  (σ : ab_S), Wire σ → wX12_production_l210 Q E (wX12_production_j234 Q E) n x1 σ → V l mdX12_production B 8 187 0 0 (ab_End (fun v σ' => Wire σ' ∧ v = none ∧ Q σ') (fun X σ' => Wire σ' ∧ E X σ')) 210 [(0, .ref 92), (1, .int x1)] [] σ := by
    have step : ∀ (K234 : Int32 → ab_S → Prop) (k_K234 : ∀ (x1 : Int32)  (σ : ab_S), Wire σ → K234 x1 σ → V l mdX12_production B 8 187 0 0 (ab_End (fun v σ' => Wire σ' ∧ v = none ∧ Q σ') (fun X σ' => Wire σ' ∧ E X σ')) 234 [(0, .ref 92), (1, .int x1)] [] σ), ∀ (Bk : Int32 → ab_S → Prop) (k_Bk : ∀ (x1 : Int32)  (σ : ab_S), Wire σ → Bk x1 σ → V l mdX12_production B 8 187 0 0 (ab_End (fun v σ' => Wire σ' ∧ v = none ∧ Q σ') (fun X σ' => Wire σ' ∧ E X σ')) 210 [(0, .ref 92), (1, .int x1)] [] σ), ∀ (x1 : Int32)  (σ : ab_S), Wire σ → wX12_production_l210_b Q E K234 Bk x1 σ → V l mdX12_production B 8 187 0 0 (ab_End (fun v σ' => Wire σ' ∧ v = none ∧ Q σ') (fun X σ' => Wire σ' ∧ E X σ')) 210 [(0, .ref 92), (1, .int x1)] [] σ := by
      intro K234 k_K234 Bk k_Bk
      intro x1  σ hW h
      refine V_aload_n 123 0 rfl rfl rfl ?_
      refine V_callV 124 0 (as := []) (rest := []) rfl mlX12_291 yvX12_good rfl rfl clX12 (wsh hW rfl) (by decide) (by decide) (Nat.le_of_ble_eq_true rfl) (by decide) (by decide) (fun B9 => ceX12_good hl B9 hW h) (fun X9 τ9 h9 => VX_out rfl h9) ?_
      rintro v9 σ9 ⟨hW, u10, rfl, h⟩
      refine V_if_eq 125 (tgt := 234) rfl (by decide) (fun hc => ?_) (fun hc => ?_)
      · replace h := h.1 hc
        exact k_K234 x1  σ9 hW h
      · replace h := h.2 hc
        refine V_pc 217 rfl ?_
        refine V_aload_n 126 0 rfl rfl rfl ?_
        refine V_get (v := .int (σ9.2.1 92 40)) 127 40 rfl clX12 flX12_267 (by decide) (wsh hW rfl) (fun _ => rfl) ?_
        refine V_bipush 128 (v := (9 : Int32)) rfl (by decide) ?_
        refine V_icmp_eq 129 (tgt := 234) rfl (by decide) (fun hc => ?_) (fun hc => ?_)
        · replace h := h.1 hc
          exact k_K234 x1  σ9 hW h
        · replace h := h.2 hc
          refine V_pc 226 rfl ?_
          refine V_aload_n 130 0 rfl rfl rfl ?_
          refine V_iload_n 131 1 rfl rfl rfl ?_
          refine V_callV 132 1 (as := [.int x1]) (rest := []) rfl mlX12_322 yvX12_rule rfl rfl clX12 (wsh hW rfl) (by decide) (by decide) (Nat.le_of_ble_eq_true rfl) (by decide) (by decide) (fun B9 => ceX12_rule hl B9 hW h) (fun X9 τ9 h9 => VX_out rfl h9) ?_
          rintro v9 σ11 ⟨hW, rfl, h⟩
          refine V_goto 133 (tgt := 210) rfl (by decide) ?_
          exact k_Bk x1  σ11 hW h
    intro n
    induction n with
    | zero => intro x1  σ hW h; exact absurd h id
    | succ n ih => exact step _ k_j234 _ ih
  have k_l186 : ∀ (n : Nat) (x1 : Int32) (x2 : Int32)  (σ : ab_S), Wire σ → wX12_production_l186 Q E (fun x1 τ => ∃ n, wX12_production_l210 Q E (wX12_production_j234 Q E) n x1 τ) n x1 x2 σ → V l mdX12_production B 8 187 0 0 (ab_End (fun v σ' => Wire σ' ∧ v = none ∧ Q σ') (fun X σ' => Wire σ' ∧ E X σ')) 186 [(0, .ref 92), (1, .int x1), (2, .int x2)] [] σ := by
    have step : ∀ (K210 : Int32 → ab_S → Prop) (k_K210 : ∀ (x1 : Int32)  (σ : ab_S), Wire σ → K210 x1 σ → V l mdX12_production B 8 187 0 0 (ab_End (fun v σ' => Wire σ' ∧ v = none ∧ Q σ') (fun X σ' => Wire σ' ∧ E X σ')) 210 [(0, .ref 92), (1, .int x1)] [] σ), ∀ (Bk : Int32 → Int32 → ab_S → Prop) (k_Bk : ∀ (x1 : Int32) (x2 : Int32)  (σ : ab_S), Wire σ → Bk x1 x2 σ → V l mdX12_production B 8 187 0 0 (ab_End (fun v σ' => Wire σ' ∧ v = none ∧ Q σ') (fun X σ' => Wire σ' ∧ E X σ')) 186 [(0, .ref 92), (1, .int x1), (2, .int x2)] [] σ), ∀ (x1 : Int32) (x2 : Int32)  (σ : ab_S), Wire σ → wX12_production_l186_b Q E K210 Bk x1 x2 σ → V l mdX12_production B 8 187 0 0 (ab_End (fun v σ' => Wire σ' ∧ v = none ∧ Q σ') (fun X σ' => Wire σ' ∧ E X σ')) 186 [(0, .ref 92), (1, .int x1), (2, .int x2)] [] σ := by
      intro K210 k_K210 Bk k_Bk
      intro x1 x2  σ hW h
      refine V_iload_n 109 2 rfl rfl rfl ?_
      refine V_bipush 110 (v := (32 : Int32)) rfl (by decide) ?_
      refine V_icmp_ge 111 (tgt := 210) rfl (by decide) (fun hc => ?_) (fun hc => ?_)
      · replace h := h.1 hc
        refine V_sub [0, 1] (lv' := [(0, .ref 92), (1, .int x1)]) rfl ?_
        exact k_K210 x1  σ hW h
      · replace h := h.2 hc
        refine V_pc 192 rfl ?_
        refine V_aload_n 112 0 rfl rfl rfl ?_
        refine V_getR 113 19 rfl clX12 flX12_48 (by decide) (wsh hW rfl) (fun _ => rfl) (wrf hW 106 rfl) ?_
        refine V_bipush 114 (v := (32 : Int32)) rfl (by decide) ?_
        refine V_iload_n 115 1 rfl rfl rfl ?_
        refine V_imul 116 rfl ?_
        refine V_iload_n 117 2 rfl rfl rfl ?_
        refine V_pc 201 rfl ?_
        refine V_iadd 118 rfl ?_
        refine V_iconst 119 (v := (-1 : Int32)) rfl (by decide) ?_
        obtain ⟨hin, h⟩ := h
        refine V_iast 120 rfl (wsh hW rfl) hin ?_
        refine V_nm (fun σ12 eσ12 => ?_)
        replace h := h σ12 eσ12
        have hW := wire_I eσ12 hW
        obtain ⟨v13, ev13⟩ : ∃ z : Int32, z = (x2 + 1) := ⟨_, rfl⟩
        replace h := h v13 ev13
        refine V_iinc 121 2 (v := v13) (lv' := [(2, .int v13), (0, .ref 92), (1, .int x1)]) rfl rfl ((in_1 _).trans ev13.symm) (by decide) rfl ?_
        refine V_goto 122 (tgt := 186) rfl (by decide) ?_
        refine V_sub [1, 2, 0] (lv' := [(0, .ref 92), (1, .int x1), (2, .int v13)]) rfl ?_
        exact k_Bk x1 v13  σ12 hW h
    intro n
    induction n with
    | zero => intro x1 x2  σ hW h; exact absurd h id
    | succ n ih => exact step _ (fun x1  τ hW9 h9 => by obtain ⟨n9, h9⟩ := h9; exact k_l210 n9 x1  τ hW9 h9) _ ih
  have k_j178 : ∀ (x1 : Int32)  (σ : ab_S), Wire σ → wX12_production_j178 Q E x1 σ → V l mdX12_production B 8 187 0 0 (ab_End (fun v σ' => Wire σ' ∧ v = none ∧ Q σ') (fun X σ' => Wire σ' ∧ E X σ')) 178 [(0, .ref 92), (1, .int x1)] [] σ := by
    intro x1  σ hW h
    refine V_aload_n 104 0 rfl rfl rfl ?_
    refine V_bipush 105 (v := (8 : Int32)) rfl (by decide) ?_
    refine V_callV 106 1 (as := [.int (8 : Int32)]) (rest := []) rfl mlX12_313 yvX12_need rfl rfl clX12 (wsh hW rfl) (by decide) (by decide) (Nat.le_of_ble_eq_true rfl) (by decide) (by decide) (fun B9 => ceX12_need hl B9 hW h) (fun X9 τ9 h9 => VX_out rfl h9) ?_
    rintro v9 σ14 ⟨hW, rfl, h⟩
    refine V_iconst 107 (v := (0 : Int32)) rfl (by decide) ?_
    refine V_istore_n 108 (lv' := [(2, .int (0 : Int32)), (0, .ref 92), (1, .int x1)]) rfl rfl (by decide) rfl ?_
    refine V_sub [1, 2, 0] (lv' := [(0, .ref 92), (1, .int x1), (2, .int (0 : Int32))]) rfl ?_
    obtain ⟨n, h⟩ := h
    exact k_l186 n x1 (0 : Int32) σ14 hW h
  have k_l110 : ∀ (n : Nat) (x1 : Int32)  (σ : ab_S), Wire σ → wX12_production_l110 Q E (wX12_production_j135 Q E) (wX12_production_j178 Q E) n x1 σ → V l mdX12_production B 8 187 0 0 (ab_End (fun v σ' => Wire σ' ∧ v = none ∧ Q σ') (fun X σ' => Wire σ' ∧ E X σ')) 110 [(0, .ref 92), (1, .int x1)] [] σ := by
    have step : ∀ (K135 : ab_S → Prop) (k_K135 : ∀   (σ : ab_S), Wire σ → K135  σ → V l mdX12_production B 8 187 0 0 (ab_End (fun v σ' => Wire σ' ∧ v = none ∧ Q σ') (fun X σ' => Wire σ' ∧ E X σ')) 135 [(0, .ref 92)] [] σ), ∀ (K178 : Int32 → ab_S → Prop) (k_K178 : ∀ (x1 : Int32)  (σ : ab_S), Wire σ → K178 x1 σ → V l mdX12_production B 8 187 0 0 (ab_End (fun v σ' => Wire σ' ∧ v = none ∧ Q σ') (fun X σ' => Wire σ' ∧ E X σ')) 178 [(0, .ref 92), (1, .int x1)] [] σ), ∀ (Bk : Int32 → ab_S → Prop) (k_Bk : ∀ (x1 : Int32)  (σ : ab_S), Wire σ → Bk x1 σ → V l mdX12_production B 8 187 0 0 (ab_End (fun v σ' => Wire σ' ∧ v = none ∧ Q σ') (fun X σ' => Wire σ' ∧ E X σ')) 110 [(0, .ref 92), (1, .int x1)] [] σ), ∀ (x1 : Int32)  (σ : ab_S), Wire σ → wX12_production_l110_b Q E K135 K178 Bk x1 σ → V l mdX12_production B 8 187 0 0 (ab_End (fun v σ' => Wire σ' ∧ v = none ∧ Q σ') (fun X σ' => Wire σ' ∧ E X σ')) 110 [(0, .ref 92), (1, .int x1)] [] σ := by
      intro K135 k_K135 K178 k_K178 Bk k_Bk
      intro x1  σ hW h
      refine V_aload_n 62 0 rfl rfl rfl ?_
      refine V_callV 63 0 (as := []) (rest := []) rfl mlX12_291 yvX12_good rfl rfl clX12 (wsh hW rfl) (by decide) (by decide) (Nat.le_of_ble_eq_true rfl) (by decide) (by decide) (fun B9 => ceX12_good hl B9 hW h) (fun X9 τ9 h9 => VX_out rfl h9) ?_
      rintro v9 σ15 ⟨hW, u16, rfl, h⟩
      refine V_if_eq 64 (tgt := 178) rfl (by decide) (fun hc => ?_) (fun hc => ?_)
      · replace h := h.1 hc
        exact k_K178 x1  σ15 hW h
      · replace h := h.2 hc
        refine V_pc 117 rfl ?_
        refine V_aload_n 65 0 rfl rfl rfl ?_
        refine V_get (v := .int (σ15.2.1 92 40)) 66 40 rfl clX12 flX12_267 (by decide) (wsh hW rfl) (fun _ => rfl) ?_
        refine V_iconst 67 (v := (1 : Int32)) rfl (by decide) ?_
        refine V_icmp_ne 68 (tgt := 178) rfl (by decide) (fun hc => ?_) (fun hc => ?_)
        · replace h := h.1 hc
          exact k_K178 x1  σ15 hW h
        · replace h := h.2 hc
          refine V_pc 125 rfl ?_
          refine V_aload_n 69 0 rfl rfl rfl ?_
          refine V_getR 70 17 rfl clX12 flX12_42 (by decide) (wsh hW rfl) (fun _ => rfl) (wrf hW 104 rfl) ?_
          refine V_iload_n 71 1 rfl rfl rfl ?_
          obtain ⟨hin, h⟩ := h
          refine V_iald 72 rfl (wsh hW rfl) hin ?_
          refine V_iconst 73 (v := (3 : Int32)) rfl (by decide) ?_
          refine V_icmp_ne 74 (tgt := 144) rfl (by decide) (fun hc => ?_) (fun hc => ?_)
          · replace h := h.1 hc
            refine V_aload_n 80 0 rfl rfl rfl ?_
            refine V_callV 81 0 (as := []) (rest := []) rfl mlX12_319 yvX12_symbolHere rfl rfl clX12 (wsh hW rfl) (by decide) (by decide) (Nat.le_of_ble_eq_true rfl) (by decide) (by decide) (fun B9 => ceX12_symbolHere hl B9 hW h) (fun X9 τ9 h9 => VX_out rfl h9) ?_
            rintro v9 σ17 ⟨hW, u18, rfl, h⟩
            refine V_istore_n 82 (lv' := [(2, .int u18), (0, .ref 92), (1, .int x1)]) rfl rfl (by decide) rfl ?_
            refine V_aload_n 83 1 rfl rfl rfl ?_
            refine V_getR 84 17 rfl clX12 flX12_42 (by decide) (wsh hW rfl) (fun _ => rfl) (wrf hW 104 rfl) ?_
            refine V_iload_n 85 2 rfl rfl rfl ?_
            refine V_dup2 86 rfl rfl rfl ?_
            refine V_pc 155 rfl ?_
            obtain ⟨hin, h⟩ := h
            refine V_iald 87 rfl (wsh hW rfl) hin ?_
            refine V_iconst 88 (v := (1 : Int32)) rfl (by decide) ?_
            refine V_iadd 89 rfl ?_
            obtain ⟨hin, h⟩ := h
            refine V_iast 90 rfl (wsh hW rfl) hin ?_
            refine V_nm (fun σ19 eσ19 => ?_)
            replace h := h σ19 eσ19
            have hW := wire_I eσ19 hW
            refine V_aload_n 91 1 rfl rfl rfl ?_
            refine V_getR 92 18 rfl clX12 flX12_45 (by decide) (wsh hW rfl) (fun _ => rfl) (wrf hW 105 rfl) ?_
            refine V_pc 163 rfl ?_
            refine V_iconst 93 (v := (4 : Int32)) rfl (by decide) ?_
            refine V_iload_n 94 2 rfl rfl rfl ?_
            refine V_imul 95 rfl ?_
            refine V_aload_n 96 1 rfl rfl rfl ?_
            refine V_getR 97 17 rfl clX12 flX12_42 (by decide) (wsh hW rfl) (fun _ => rfl) (wrf hW 104 rfl) ?_
            refine V_iload_n 98 2 rfl rfl rfl ?_
            refine V_pc 171 rfl ?_
            obtain ⟨hin, h⟩ := h
            refine V_iald 99 rfl (wsh hW rfl) hin ?_
            refine V_iadd 100 rfl ?_
            refine V_iload_n 101 0 rfl rfl rfl ?_
            obtain ⟨hin, h⟩ := h
            refine V_iast 102 rfl (wsh hW rfl) hin ?_
            refine V_nm (fun σ20 eσ20 => ?_)
            replace h := h σ20 eσ20
            have hW := wire_I eσ20 hW
            refine V_goto 103 (tgt := 110) rfl (by decide) ?_
            refine V_sub [1, 2] (lv' := [(0, .ref 92), (1, .int x1)]) rfl ?_
            exact k_Bk x1  σ20 hW h
          · replace h := h.2 hc
            refine V_pc 135 rfl ?_
            refine V_sub [0] (lv' := [(0, .ref 92)]) rfl ?_
            exact k_K135  σ15 hW h
    intro n
    induction n with
    | zero => intro x1  σ hW h; exact absurd h id
    | succ n ih => exact step _ k_j135 _ k_j178 _ ih
  have k_j103 : ∀ (x1 : Int32)  (σ : ab_S), Wire σ → wX12_production_j103 Q E x1 σ → V l mdX12_production B 8 187 0 0 (ab_End (fun v σ' => Wire σ' ∧ v = none ∧ Q σ') (fun X σ' => Wire σ' ∧ E X σ')) 103 [(0, .ref 92), (1, .int x1)] [] σ := by
    intro x1  σ hW h
    refine V_aload_n 57 0 rfl rfl rfl ?_
    refine V_getR 58 17 rfl clX12 flX12_42 (by decide) (wsh hW rfl) (fun _ => rfl) (wrf hW 104 rfl) ?_
    refine V_iload_n 59 1 rfl rfl rfl ?_
    refine V_iconst 60 (v := (0 : Int32)) rfl (by decide) ?_
    obtain ⟨hin, h⟩ := h
    refine V_iast 61 rfl (wsh hW rfl) hin ?_
    refine V_nm (fun σ21 eσ21 => ?_)
    replace h := h σ21 eσ21
    have hW := wire_I eσ21 hW
    obtain ⟨n, h⟩ := h
    exact k_l110 n x1 σ21 hW h
  have k_j89 : ∀ (x1 : Int32) (y0 : Int32) (y1 : Int32)  (σ : ab_S), Wire σ → wX12_production_j89 Q E x1 y0 y1 σ → V l mdX12_production B 8 187 0 0 (ab_End (fun v σ' => Wire σ' ∧ v = none ∧ Q σ') (fun X σ' => Wire σ' ∧ E X σ')) 89 [(0, .ref 92), (1, .int x1)] [.int y0, .int y1, .ref 102] σ := by
    intro x1 y0 y1  σ hW h
    obtain ⟨hin, h⟩ := h
    refine V_zast 49 rfl (wsh hW rfl) hin ?_
    refine V_nm (fun σ22 eσ22 => ?_)
    replace h := h σ22 eσ22
    have hW := wire_I eσ22 hW
    refine V_aload_n 50 0 rfl rfl rfl ?_
    refine V_getR 51 16 rfl clX12 flX12_38 (by decide) (wsh hW rfl) (fun _ => rfl) (wrf hW 103 rfl) ?_
    refine V_iload_n 52 1 rfl rfl rfl ?_
    obtain ⟨hin, h⟩ := h
    refine V_zald 53 rfl (wsh hW rfl) hin ?_
    refine V_if_eq 54 (tgt := 103) rfl (by decide) (fun hc => ?_) (fun hc => ?_)
    · replace h := h.1 hc
      exact k_j103 x1 σ22 hW h
    · replace h := h.2 hc
      refine V_pc 99 rfl ?_
      refine V_aload_n 55 0 rfl rfl rfl ?_
      refine V_callV 56 0 (as := []) (rest := []) rfl mlX12_295 yvX12_advance rfl rfl clX12 (wsh hW rfl) (by decide) (by decide) (Nat.le_of_ble_eq_true rfl) (by decide) (by decide) (fun B9 => ceX12_advance hl B9 hW h) (fun X9 τ9 h9 => VX_out rfl h9) ?_
      rintro v9 σ23 ⟨hW, rfl, h⟩
      exact k_j103 x1 σ23 hW h
  have k_j88 : ∀ (x1 : Int32) (y0 : Int32)  (σ : ab_S), Wire σ → wX12_production_j88 Q E x1 y0 σ → V l mdX12_production B 8 187 0 0 (ab_End (fun v σ' => Wire σ' ∧ v = none ∧ Q σ') (fun X σ' => Wire σ' ∧ E X σ')) 88 [(0, .ref 92), (1, .int x1)] [.int y0, .ref 102] σ := by
    intro x1 y0  σ hW h
    refine V_iconst 48 (v := (0 : Int32)) rfl (by decide) ?_
    exact k_j89 x1 (0 : Int32) y0 σ hW h
  have k_j57 : ∀ (x1 : Int32) (y0 : Int32) (y1 : Int32)  (σ : ab_S), Wire σ → wX12_production_j57 Q E x1 y0 y1 σ → V l mdX12_production B 8 187 0 0 (ab_End (fun v σ' => Wire σ' ∧ v = none ∧ Q σ') (fun X σ' => Wire σ' ∧ E X σ')) 57 [(0, .ref 92), (1, .int x1)] [.int y0, .int y1, .ref 104] σ := by
    intro x1 y0 y1  σ hW h
    obtain ⟨hin, h⟩ := h
    refine V_iast 32 rfl (wsh hW rfl) hin ?_
    refine V_nm (fun σ24 eσ24 => ?_)
    replace h := h σ24 eσ24
    have hW := wire_I eσ24 hW
    refine V_aload_n 33 0 rfl rfl rfl ?_
    refine V_iconst 34 (v := (4 : Int32)) rfl (by decide) ?_
    refine V_callV 35 1 (as := [.int (4 : Int32)]) (rest := []) rfl mlX12_313 yvX12_need rfl rfl clX12 (wsh hW rfl) (by decide) (by decide) (Nat.le_of_ble_eq_true rfl) (by decide) (by decide) (fun B9 => ceX12_need hl B9 hW h) (fun X9 τ9 h9 => VX_out rfl h9) ?_
    rintro v9 σ25 ⟨hW, rfl, h⟩
    refine V_aload_n 36 0 rfl rfl rfl ?_
    refine V_getR 37 16 rfl clX12 flX12_38 (by decide) (wsh hW rfl) (fun _ => rfl) (wrf hW 103 rfl) ?_
    refine V_iload_n 38 1 rfl rfl rfl ?_
    refine V_aload_n 39 0 rfl rfl rfl ?_
    refine V_callV 40 0 (as := []) (rest := [.int x1, .ref 102]) rfl mlX12_291 yvX12_good rfl rfl clX12 (wsh hW rfl) (by decide) (by decide) (Nat.le_of_ble_eq_true rfl) (by decide) (by decide) (fun B9 => ceX12_good hl B9 hW h) (fun X9 τ9 h9 => VX_out rfl h9) ?_
    rintro v9 σ26 ⟨hW, u27, rfl, h⟩
    refine V_if_eq 41 (tgt := 88) rfl (by decide) (fun hc => ?_) (fun hc => ?_)
    · replace h := h.1 hc
      exact k_j88 x1 x1 σ26 hW h
    · replace h := h.2 hc
      refine V_pc 75 rfl ?_
      refine V_aload_n 42 0 rfl rfl rfl ?_
      refine V_get (v := .int (σ26.2.1 92 40)) 43 40 rfl clX12 flX12_267 (by decide) (wsh hW rfl) (fun _ => rfl) ?_
      refine V_bipush 44 (v := (12 : Int32)) rfl (by decide) ?_
      refine V_icmp_ne 45 (tgt := 88) rfl (by decide) (fun hc => ?_) (fun hc => ?_)
      · replace h := h.1 hc
        exact k_j88 x1 x1 σ26 hW h
      · replace h := h.2 hc
        refine V_pc 84 rfl ?_
        refine V_iconst 46 (v := (1 : Int32)) rfl (by decide) ?_
        refine V_goto 47 (tgt := 89) rfl (by decide) ?_
        exact k_j89 x1 (1 : Int32) x1 σ26 hW h
  intro σ hW h
  refine V_aload_n 0 0 rfl rfl rfl ?_
  refine V_get (v := .int (σ.2.1 92 14)) 1 14 rfl clX12 flX12_316 (by decide) (wsh hW rfl) (fun _ => rfl) ?_
  refine V_topi (fun v28 ev28 => ?_)
  replace h := h v28 ev28
  refine V_istore_n 2 (lv' := [(1, .int v28), (0, .ref 92)]) rfl rfl (by decide) rfl ?_
  refine V_iload_n 3 0 rfl rfl rfl ?_
  refine V_bipush 4 (v := (30 : Int32)) rfl (by decide) ?_
  refine V_icmp_ne 5 (tgt := 20) rfl (by decide) (fun hc => ?_) (fun hc => ?_)
  · replace h := h.1 hc
    refine V_aload_n 11 1 rfl rfl rfl ?_
    refine V_aload_n 12 1 rfl rfl rfl ?_
    refine V_getR 13 15 rfl clX12 flX12_35 (by decide) (wsh hW rfl) (fun _ => rfl) (wrf hW 102 rfl) ?_
    refine V_iconst 14 (v := (0 : Int32)) rfl (by decide) ?_
    refine V_iload_n 15 0 rfl rfl rfl ?_
    refine V_callV 16 3 (as := [.ref 101, .int (0 : Int32), .int v28]) (rest := []) rfl mlX12_302 yvX12_declare rfl rfl clX12 (wsh hW rfl) (by decide) (by decide) (Nat.le_of_ble_eq_true rfl) (by decide) (by decide) (fun B9 => ceX12_declare hl B9 rfl hW h) (fun X9 τ9 h9 => VX_out rfl h9) ?_
    rintro v9 σ29 ⟨hW, rfl, h⟩
    refine V_aload_n 17 1 rfl rfl rfl ?_
    refine V_iconst 18 (v := (3 : Int32)) rfl (by decide) ?_
    refine V_callV 19 1 (as := [.int (3 : Int32)]) (rest := []) rfl mlX12_313 yvX12_need rfl rfl clX12 (wsh hW rfl) (by decide) (by decide) (Nat.le_of_ble_eq_true rfl) (by decide) (by decide) (fun B9 => ceX12_need hl B9 hW h) (fun X9 τ9 h9 => VX_out rfl h9) ?_
    rintro v9 σ30 ⟨hW, rfl, h⟩
    refine V_aload_n 20 1 rfl rfl rfl ?_
    refine V_getR 21 18 rfl clX12 flX12_45 (by decide) (wsh hW rfl) (fun _ => rfl) (wrf hW 105 rfl) ?_
    refine V_iconst 22 (v := (4 : Int32)) rfl (by decide) ?_
    refine V_iload_n 23 0 rfl rfl rfl ?_
    refine V_imul 24 rfl ?_
    refine V_pc 42 rfl ?_
    refine V_aload_n 25 1 rfl rfl rfl ?_
    refine V_callV 26 0 (as := []) (rest := [.int ((4 : Int32) * v28), .ref 104]) rfl mlX12_291 yvX12_good rfl rfl clX12 (wsh hW rfl) (by decide) (by decide) (Nat.le_of_ble_eq_true rfl) (by decide) (by decide) (fun B9 => ceX12_good hl B9 hW h) (fun X9 τ9 h9 => VX_out rfl h9) ?_
    rintro v9 σ31 ⟨hW, u32, rfl, h⟩
    refine V_if_eq 27 (tgt := 56) rfl (by decide) (fun hc => ?_) (fun hc => ?_)
    · replace h := h.1 hc
      refine V_iconst 31 (v := (0 : Int32)) rfl (by decide) ?_
      refine V_sub [1, 0] (lv' := [(0, .ref 92), (1, .int v28)]) rfl ?_
      exact k_j57 v28 (0 : Int32) ((4 : Int32) * v28) σ31 hW h
    · replace h := h.2 hc
      refine V_pc 49 rfl ?_
      refine V_aload_n 28 1 rfl rfl rfl ?_
      refine V_callV 29 0 (as := []) (rest := [.int ((4 : Int32) * v28), .ref 104]) rfl mlX12_319 yvX12_symbolHere rfl rfl clX12 (wsh hW rfl) (by decide) (by decide) (Nat.le_of_ble_eq_true rfl) (by decide) (by decide) (fun B9 => ceX12_symbolHere hl B9 hW h) (fun X9 τ9 h9 => VX_out rfl h9) ?_
      rintro v9 σ33 ⟨hW, u34, rfl, h⟩
      refine V_goto 30 (tgt := 57) rfl (by decide) ?_
      refine V_sub [1, 0] (lv' := [(0, .ref 92), (1, .int v28)]) rfl ?_
      exact k_j57 v28 u34 ((4 : Int32) * v28) σ33 hW h
  · replace h := h.2 hc
    refine V_pc 11 rfl ?_
    refine V_aload_n 6 1 rfl rfl rfl ?_
    refine V_aload_n 7 1 rfl rfl rfl ?_
    refine V_get (v := .int (σ.2.1 92 41)) 8 41 rfl clX12 flX12_252 (by decide) (wsh hW rfl) (fun _ => rfl) ?_
    refine V_callV 9 1 (as := [.int (σ.2.1 92 41)]) (rest := []) rfl mlX12_287 yvX12_fail rfl rfl clX12 (wsh hW rfl) (by decide) (by decide) (Nat.le_of_ble_eq_true rfl) (by decide) (by decide) (fun B9 => ceX12_fail hl B9 hW h) (fun X9 τ9 h9 => VX_out rfl h9) ?_
    rintro v9 σ35 ⟨hW, rfl, h⟩
    exact V_vret 10 rfl rfl ⟨hW, rfl, h⟩

def wX12_readGrammar_j99 (Q : ab_S → Prop) (E : String → ab_S → Prop) (Bk : Int32 → ab_S → Prop) (y0 : Int32) (σ : ab_S) : Prop := Bk y0 σ
def wX12_readGrammar_j98 (Q : ab_S → Prop) (E : String → ab_S → Prop) (Bk : Int32 → ab_S → Prop)  (σ : ab_S) : Prop := wX12_readGrammar_j99 Q E Bk (0 : Int32) σ
def wX12_readGrammar_l72_b (Q : ab_S → Prop) (E : String → ab_S → Prop) (Bk : Int32 → ab_S → Prop) (x1 : Int32) (σ : ab_S) : Prop := ((x1 = 0) → Q σ) ∧ (¬ (x1 = 0) → wX12_production (fun σ1 => wX12_good (fun u3 σ2 => ((u3 = 0) → wX12_readGrammar_j98 Q E Bk σ2) ∧ (¬ (u3 = 0) → (((σ2.2.1 92 40) = 0) → wX12_readGrammar_j98 Q E Bk σ2) ∧ (¬ ((σ2.2.1 92 40) = 0) → wX12_readGrammar_j99 Q E Bk (1 : Int32) σ2))) E σ1) E σ)
def wX12_readGrammar_l72 (Q : ab_S → Prop) (E : String → ab_S → Prop) : Nat → Int32 → ab_S → Prop
  | 0, _, _ => False
  | n + 1, x1, σ => wX12_readGrammar_l72_b Q E (wX12_readGrammar_l72 Q E n) x1 σ
def wX12_readGrammar_j67 (Q : ab_S → Prop) (E : String → ab_S → Prop)  (σ : ab_S) : Prop := wX12_good (fun u5 σ4 => ∃ n, wX12_readGrammar_l72 Q E n u5 σ4) E σ
def wX12_readGrammar_l45_b (Q : ab_S → Prop) (E : String → ab_S → Prop) (K67 : ab_S → Prop) (Bk : ab_S → Prop)  (σ : ab_S) : Prop := wX12_good (fun u7 σ6 => ((u7 = 0) → K67 σ6) ∧ (¬ (u7 = 0) → ((¬ (σ6.2.1 92 43) = (1 : Int32)) → K67 σ6) ∧ (¬ (¬ (σ6.2.1 92 43) = (1 : Int32)) → wX12_symbolStatement (fun σ8 => Bk σ8) E σ6))) E σ
def wX12_readGrammar_l45 (Q : ab_S → Prop) (E : String → ab_S → Prop) (K67 : ab_S → Prop) : Nat → ab_S → Prop
  | 0, _ => False
  | n + 1, σ => wX12_readGrammar_l45_b Q E K67 (wX12_readGrammar_l45 Q E K67 n)  σ
def wX12_readGrammar  (Q : ab_S → Prop) (E : String → ab_S → Prop) (σ : ab_S) : Prop := (∀ σ9 : ab_S, σ9 = ab_I σ 92 44 (-1 : Int32) → (∀ σ10 : ab_S, σ10 = ab_I σ9 92 9 (0 : Int32) → (∀ σ11 : ab_S, σ11 = ab_I σ10 92 14 (0 : Int32) → (∀ σ12 : ab_S, σ12 = ab_I σ11 92 21 (0 : Int32) → (∀ σ13 : ab_S, σ13 = ab_I σ12 92 42 (0 : Int32) → wX12_advance (fun σ14 => (((σ14.2.1 92 43) = (1 : Int32)) → ∃ n, wX12_readGrammar_l45 Q E (wX12_readGrammar_j67 Q E) n σ14) ∧ (¬ ((σ14.2.1 92 43) = (1 : Int32)) → wX12_fail (σ14.2.1 92 41) (fun σ15 => ∃ n, wX12_readGrammar_l45 Q E (wX12_readGrammar_j67 Q E) n σ15) E σ14)) E σ13)))))
set_option maxHeartbeats 4000000 in
set_option maxRecDepth 100000 in
theorem ceX12_readGrammar {l : Launch} (hl : l.stackTraces = false) (B : Nat)   {Q : ab_S → Prop} {E : String → ab_S → Prop} {σ : ab_S} (hW : Wire σ) (h : wX12_readGrammar  Q E σ) : ab_Mt l yX12_readGrammar mdX12_readGrammar B 9 209 0 0 [.ref 92] σ (fun v σ' => Wire σ' ∧ v = none ∧ Q σ') (fun X σ' => Wire σ' ∧ E X σ') := by
  refine V_met hl ⟨rfl, rfl, by decide⟩ rfl dkX12_readGrammar (Nat.le_of_ble_eq_true rfl) ?_
  show V l mdX12_readGrammar B 9 209 0 0 (ab_End _ _) 0 [(0, .ref 92)] [] σ
  revert h hW
  revert σ
  have k_l72 : ∀ (n : Nat) (x1 : Int32)  (σ : ab_S), Wire σ → wX12_readGrammar_l72 Q E n x1 σ → V l mdX12_readGrammar B 9 209 0 0 (ab_End (fun v σ' => Wire σ' ∧ v = none ∧ Q σ') (fun X σ' => Wire σ' ∧ E X σ')) 72 [(0, .ref 92), (1, .int x1)] [] σ := by
    have step : ∀ (Bk : Int32 → ab_S → Prop) (k_Bk : ∀ (x1 : Int32)  (σ : ab_S), Wire σ → Bk x1 σ → V l mdX12_readGrammar B 9 209 0 0 (ab_End (fun v σ' => Wire σ' ∧ v = none ∧ Q σ') (fun X σ' => Wire σ' ∧ E X σ')) 72 [(0, .ref 92), (1, .int x1)] [] σ), ∀ (x1 : Int32)  (σ : ab_S), Wire σ → wX12_readGrammar_l72_b Q E Bk x1 σ → V l mdX12_readGrammar B 9 209 0 0 (ab_End (fun v σ' => Wire σ' ∧ v = none ∧ Q σ') (fun X σ' => Wire σ' ∧ E X σ')) 72 [(0, .ref 92), (1, .int x1)] [] σ := by
      intro Bk k_Bk
      have k_j99 : ∀ (y0 : Int32)  (σ : ab_S), Wire σ → wX12_readGrammar_j99 Q E Bk y0 σ → V l mdX12_readGrammar B 9 209 0 0 (ab_End (fun v σ' => Wire σ' ∧ v = none ∧ Q σ') (fun X σ' => Wire σ' ∧ E X σ')) 99 [(0, .ref 92)] [.int y0] σ := by
        intro y0  σ hW h
        refine V_istore_n 51 (lv' := [(1, .int y0), (0, .ref 92)]) rfl rfl (by decide) rfl ?_
        refine V_goto 52 (tgt := 72) rfl (by decide) ?_
        refine V_sub [1, 0] (lv' := [(0, .ref 92), (1, .int y0)]) rfl ?_
        exact k_Bk y0  σ hW h
      have k_j98 : ∀   (σ : ab_S), Wire σ → wX12_readGrammar_j98 Q E Bk  σ → V l mdX12_readGrammar B 9 209 0 0 (ab_End (fun v σ' => Wire σ' ∧ v = none ∧ Q σ') (fun X σ' => Wire σ' ∧ E X σ')) 98 [(0, .ref 92)] [] σ := by
        intro   σ hW h
        refine V_iconst 50 (v := (0 : Int32)) rfl (by decide) ?_
        exact k_j99 (0 : Int32) σ hW h
      intro x1  σ hW h
      refine V_iload_n 38 1 rfl rfl rfl ?_
      refine V_if_eq 39 (tgt := 103) rfl (by decide) (fun hc => ?_) (fun hc => ?_)
      · replace h := h.1 hc
        exact V_vret 53 rfl rfl ⟨hW, rfl, h⟩
      · replace h := h.2 hc
        refine V_pc 76 rfl ?_
        refine V_aload_n 40 0 rfl rfl rfl ?_
        refine V_callV 41 0 (as := []) (rest := []) rfl mlX12_385 yvX12_production rfl rfl clX12 (wsh hW rfl) (by decide) (by decide) (Nat.le_of_ble_eq_true rfl) (by decide) (by decide) (fun B9 => ceX12_production hl B9 hW h) (fun X9 τ9 h9 => VX_out rfl h9) ?_
        rintro v9 σ1 ⟨hW, rfl, h⟩
        refine V_aload_n 42 0 rfl rfl rfl ?_
        refine V_callV 43 0 (as := []) (rest := []) rfl mlX12_291 yvX12_good rfl rfl clX12 (wsh hW rfl) (by decide) (by decide) (Nat.le_of_ble_eq_true rfl) (by decide) (by decide) (fun B9 => ceX12_good hl B9 hW h) (fun X9 τ9 h9 => VX_out rfl h9) ?_
        rintro v9 σ2 ⟨hW, u3, rfl, h⟩
        refine V_if_eq 44 (tgt := 98) rfl (by decide) (fun hc => ?_) (fun hc => ?_)
        · replace h := h.1 hc
          refine V_sub [0] (lv' := [(0, .ref 92)]) rfl ?_
          exact k_j98 σ2 hW h
        · replace h := h.2 hc
          refine V_pc 87 rfl ?_
          refine V_aload_n 45 0 rfl rfl rfl ?_
          refine V_get (v := .int (σ2.2.1 92 40)) 46 40 rfl clX12 flX12_267 (by decide) (wsh hW rfl) (fun _ => rfl) ?_
          refine V_if_eq 47 (tgt := 98) rfl (by decide) (fun hc => ?_) (fun hc => ?_)
          · replace h := h.1 hc
            refine V_sub [0] (lv' := [(0, .ref 92)]) rfl ?_
            exact k_j98 σ2 hW h
          · replace h := h.2 hc
            refine V_pc 94 rfl ?_
            refine V_iconst 48 (v := (1 : Int32)) rfl (by decide) ?_
            refine V_goto 49 (tgt := 99) rfl (by decide) ?_
            refine V_sub [0] (lv' := [(0, .ref 92)]) rfl ?_
            exact k_j99 (1 : Int32) σ2 hW h
    intro n
    induction n with
    | zero => intro x1  σ hW h; exact absurd h id
    | succ n ih => exact step  _ ih
  have k_j67 : ∀   (σ : ab_S), Wire σ → wX12_readGrammar_j67 Q E  σ → V l mdX12_readGrammar B 9 209 0 0 (ab_End (fun v σ' => Wire σ' ∧ v = none ∧ Q σ') (fun X σ' => Wire σ' ∧ E X σ')) 67 [(0, .ref 92)] [] σ := by
    intro   σ hW h
    refine V_aload_n 35 0 rfl rfl rfl ?_
    refine V_callV 36 0 (as := []) (rest := []) rfl mlX12_291 yvX12_good rfl rfl clX12 (wsh hW rfl) (by decide) (by decide) (Nat.le_of_ble_eq_true rfl) (by decide) (by decide) (fun B9 => ceX12_good hl B9 hW h) (fun X9 τ9 h9 => VX_out rfl h9) ?_
    rintro v9 σ4 ⟨hW, u5, rfl, h⟩
    refine V_istore_n 37 (lv' := [(1, .int u5), (0, .ref 92)]) rfl rfl (by decide) rfl ?_
    refine V_sub [1, 0] (lv' := [(0, .ref 92), (1, .int u5)]) rfl ?_
    obtain ⟨n, h⟩ := h
    exact k_l72 n u5 σ4 hW h
  have k_l45 : ∀ (n : Nat)   (σ : ab_S), Wire σ → wX12_readGrammar_l45 Q E (wX12_readGrammar_j67 Q E) n  σ → V l mdX12_readGrammar B 9 209 0 0 (ab_End (fun v σ' => Wire σ' ∧ v = none ∧ Q σ') (fun X σ' => Wire σ' ∧ E X σ')) 45 [(0, .ref 92)] [] σ := by
    have step : ∀ (K67 : ab_S → Prop) (k_K67 : ∀   (σ : ab_S), Wire σ → K67  σ → V l mdX12_readGrammar B 9 209 0 0 (ab_End (fun v σ' => Wire σ' ∧ v = none ∧ Q σ') (fun X σ' => Wire σ' ∧ E X σ')) 67 [(0, .ref 92)] [] σ), ∀ (Bk : ab_S → Prop) (k_Bk : ∀   (σ : ab_S), Wire σ → Bk  σ → V l mdX12_readGrammar B 9 209 0 0 (ab_End (fun v σ' => Wire σ' ∧ v = none ∧ Q σ') (fun X σ' => Wire σ' ∧ E X σ')) 45 [(0, .ref 92)] [] σ), ∀   (σ : ab_S), Wire σ → wX12_readGrammar_l45_b Q E K67 Bk  σ → V l mdX12_readGrammar B 9 209 0 0 (ab_End (fun v σ' => Wire σ' ∧ v = none ∧ Q σ') (fun X σ' => Wire σ' ∧ E X σ')) 45 [(0, .ref 92)] [] σ := by
      intro K67 k_K67 Bk k_Bk
      intro   σ hW h
      refine V_aload_n 25 0 rfl rfl rfl ?_
      refine V_callV 26 0 (as := []) (rest := []) rfl mlX12_291 yvX12_good rfl rfl clX12 (wsh hW rfl) (by decide) (by decide) (Nat.le_of_ble_eq_true rfl) (by decide) (by decide) (fun B9 => ceX12_good hl B9 hW h) (fun X9 τ9 h9 => VX_out rfl h9) ?_
      rintro v9 σ6 ⟨hW, u7, rfl, h⟩
      refine V_if_eq 27 (tgt := 67) rfl (by decide) (fun hc => ?_) (fun hc => ?_)
      · replace h := h.1 hc
        exact k_K67  σ6 hW h
      · replace h := h.2 hc
        refine V_pc 52 rfl ?_
        refine V_aload_n 28 0 rfl rfl rfl ?_
        refine V_get (v := .int (σ6.2.1 92 43)) 29 43 rfl clX12 flX12_264 (by decide) (wsh hW rfl) (fun _ => rfl) ?_
        refine V_iconst 30 (v := (1 : Int32)) rfl (by decide) ?_
        refine V_icmp_ne 31 (tgt := 67) rfl (by decide) (fun hc => ?_) (fun hc => ?_)
        · replace h := h.1 hc
          exact k_K67  σ6 hW h
        · replace h := h.2 hc
          refine V_pc 60 rfl ?_
          refine V_aload_n 32 0 rfl rfl rfl ?_
          refine V_callV 33 0 (as := []) (rest := []) rfl mlX12_382 yvX12_symbolStatement rfl rfl clX12 (wsh hW rfl) (by decide) (by decide) (Nat.le_of_ble_eq_true rfl) (by decide) (by decide) (fun B9 => ceX12_symbolStatement hl B9 hW h) (fun X9 τ9 h9 => VX_out rfl h9) ?_
          rintro v9 σ8 ⟨hW, rfl, h⟩
          refine V_goto 34 (tgt := 45) rfl (by decide) ?_
          exact k_Bk  σ8 hW h
    intro n
    induction n with
    | zero => intro   σ hW h; exact absurd h id
    | succ n ih => exact step _ k_j67 _ ih
  intro σ hW h
  refine V_aload_n 0 0 rfl rfl rfl ?_
  refine V_iconst 1 (v := (-1 : Int32)) rfl (by decide) ?_
  refine V_putI 2 44 rfl clX12 flX12_284 (by decide) (wsh hW rfl) rfl (fun _ _ => rfl) rfl rfl ?_
  refine V_nm (fun σ9 eσ9 => ?_)
  replace h := h σ9 eσ9
  have hW := wire_I eσ9 hW
  refine V_aload_n 3 0 rfl rfl rfl ?_
  refine V_iconst 4 (v := (0 : Int32)) rfl (by decide) ?_
  refine V_putI 5 9 rfl clX12 flX12_306 (by decide) (wsh hW rfl) rfl (fun _ _ => rfl) rfl rfl ?_
  refine V_nm (fun σ10 eσ10 => ?_)
  replace h := h σ10 eσ10
  have hW := wire_I eσ10 hW
  refine V_aload_n 6 0 rfl rfl rfl ?_
  refine V_iconst 7 (v := (0 : Int32)) rfl (by decide) ?_
  refine V_putI 8 14 rfl clX12 flX12_316 (by decide) (wsh hW rfl) rfl (fun _ _ => rfl) rfl rfl ?_
  refine V_nm (fun σ11 eσ11 => ?_)
  replace h := h σ11 eσ11
  have hW := wire_I eσ11 hW
  refine V_aload_n 9 0 rfl rfl rfl ?_
  refine V_iconst 10 (v := (0 : Int32)) rfl (by decide) ?_
  refine V_putI 11 21 rfl clX12 flX12_338 (by decide) (wsh hW rfl) rfl (fun _ _ => rfl) rfl rfl ?_
  refine V_nm (fun σ12 eσ12 => ?_)
  replace h := h σ12 eσ12
  have hW := wire_I eσ12 hW
  refine V_aload_n 12 0 rfl rfl rfl ?_
  refine V_iconst 13 (v := (0 : Int32)) rfl (by decide) ?_
  refine V_putI 14 42 rfl clX12 flX12_255 (by decide) (wsh hW rfl) rfl (fun _ _ => rfl) rfl rfl ?_
  refine V_nm (fun σ13 eσ13 => ?_)
  replace h := h σ13 eσ13
  have hW := wire_I eσ13 hW
  refine V_aload_n 15 0 rfl rfl rfl ?_
  refine V_callV 16 0 (as := []) (rest := []) rfl mlX12_295 yvX12_advance rfl rfl clX12 (wsh hW rfl) (by decide) (by decide) (Nat.le_of_ble_eq_true rfl) (by decide) (by decide) (fun B9 => ceX12_advance hl B9 hW h) (fun X9 τ9 h9 => VX_out rfl h9) ?_
  rintro v9 σ14 ⟨hW, rfl, h⟩
  refine V_aload_n 17 0 rfl rfl rfl ?_
  refine V_get (v := .int (σ14.2.1 92 43)) 18 43 rfl clX12 flX12_264 (by decide) (wsh hW rfl) (fun _ => rfl) ?_
  refine V_iconst 19 (v := (1 : Int32)) rfl (by decide) ?_
  refine V_icmp_eq 20 (tgt := 45) rfl (by decide) (fun hc => ?_) (fun hc => ?_)
  · replace h := h.1 hc
    obtain ⟨n, h⟩ := h
    exact k_l45 n σ14 hW h
  · replace h := h.2 hc
    refine V_pc 37 rfl ?_
    refine V_aload_n 21 0 rfl rfl rfl ?_
    refine V_aload_n 22 0 rfl rfl rfl ?_
    refine V_get (v := .int (σ14.2.1 92 41)) 23 41 rfl clX12 flX12_252 (by decide) (wsh hW rfl) (fun _ => rfl) ?_
    refine V_callV 24 1 (as := [.int (σ14.2.1 92 41)]) (rest := []) rfl mlX12_287 yvX12_fail rfl rfl clX12 (wsh hW rfl) (by decide) (by decide) (Nat.le_of_ble_eq_true rfl) (by decide) (by decide) (fun B9 => ceX12_fail hl B9 hW h) (fun X9 τ9 h9 => VX_out rfl h9) ?_
    rintro v9 σ15 ⟨hW, rfl, h⟩
    obtain ⟨n, h⟩ := h
    exact k_l45 n σ15 hW h

def wX12_direct_j113 (a0 : Int32) (Q : ab_S → Prop) (E : String → ab_S → Prop) (Bk : Int32 → ab_S → Prop) (x2 : Int32) (σ : ab_S) : Prop := ∀ v1 : Int32, v1 = (x2 + 1) → Bk v1 σ
def wX12_direct_j106 (a0 : Int32) (Q : ab_S → Prop) (E : String → ab_S → Prop) (K113 : Int32 → ab_S → Prop) (Bk : Int32 → Int32 → ab_S → Prop) (x2 : Int32) (x3 : Int32) (y0 : Int64) (y1 : Int32) (σ : ab_S) : Prop := vp_in y1 992 ∧ (∀ σ2 : ab_S, σ2 = ab_L σ 109 y1.toNatClampNeg y0 → ∀ v3 : Int32, v3 = (x3 + 1) → Bk x2 v3 σ2)
def wX12_direct_l32_b (a0 : Int32) (Q : ab_S → Prop) (E : String → ab_S → Prop) (K113 : Int32 → ab_S → Prop) (Bk : Int32 → Int32 → ab_S → Prop) (x2 : Int32) (x3 : Int32) (σ : ab_S) : Prop := ((x3 < 0) → K113 x2 σ) ∧ (¬ (x3 < 0) → vp_in (((32 : Int32) * a0) + x2) 992 ∧ ((((σ.2.1 106 (((32 : Int32) * a0) + x2).toNatClampNeg) ≤ x3) → K113 x2 σ) ∧ (¬ ((σ.2.1 106 (((32 : Int32) * a0) + x2).toNatClampNeg) ≤ x3) → vp_in x3 2500 ∧ (((¬ (σ.2.1 107 x3.toNatClampNeg) = (50 : Int32)) → vp_in (((32 : Int32) * a0) + x2) 992 ∧ (wX12_direct_j106 a0 Q E K113 Bk x2 x3 (σ.2.2.1 109 (((32 : Int32) * a0) + x2).toNatClampNeg) (((32 : Int32) * a0) + x2) σ)) ∧ (¬ (¬ (σ.2.1 107 x3.toNatClampNeg) = (50 : Int32)) → vp_in (((32 : Int32) * a0) + x2) 992 ∧ (vp_in x3 2500 ∧ (wX12_direct_j106 a0 Q E K113 Bk x2 x3 ((σ.2.2.1 109 (((32 : Int32) * a0) + x2).toNatClampNeg) ||| ((1 : Int64) <<< ((σ.2.1 108 x3.toNatClampNeg).toInt64 &&& 63))) (((32 : Int32) * a0) + x2) σ)))))))
def wX12_direct_l32 (a0 : Int32) (Q : ab_S → Prop) (E : String → ab_S → Prop) (K113 : Int32 → ab_S → Prop) : Nat → Int32 → Int32 → ab_S → Prop
  | 0, _, _, _ => False
  | n + 1, x2, x3, σ => wX12_direct_l32_b a0 Q E K113 (wX12_direct_l32 a0 Q E K113 n) x2 x3 σ
def wX12_direct_l2_b (a0 : Int32) (Q : ab_S → Prop) (E : String → ab_S → Prop) (Bk : Int32 → ab_S → Prop) (x2 : Int32) (σ : ab_S) : Prop := (((32 : Int32) ≤ x2) → Q σ) ∧ (¬ ((32 : Int32) ≤ x2) → vp_in (((32 : Int32) * a0) + x2) 992 ∧ (∀ σ4 : ab_S, σ4 = ab_L σ 109 (((32 : Int32) * a0) + x2).toNatClampNeg (0 : Int64) → vp_in (((32 : Int32) * a0) + x2) 992 ∧ (∀ v5 : Int32, v5 = (σ4.2.1 105 (((32 : Int32) * a0) + x2).toNatClampNeg) → ∃ n, wX12_direct_l32 a0 Q E (wX12_direct_j113 a0 Q E Bk) n x2 v5 σ4)))
def wX12_direct_l2 (a0 : Int32) (Q : ab_S → Prop) (E : String → ab_S → Prop) : Nat → Int32 → ab_S → Prop
  | 0, _, _ => False
  | n + 1, x2, σ => wX12_direct_l2_b a0 Q E (wX12_direct_l2 a0 Q E n) x2 σ
def wX12_direct (a0 : Int32) (Q : ab_S → Prop) (E : String → ab_S → Prop) (σ : ab_S) : Prop := ∃ n, wX12_direct_l2 a0 Q E n (0 : Int32) σ
set_option maxHeartbeats 4000000 in
set_option maxRecDepth 100000 in
theorem ceX12_direct {l : Launch} (hl : l.stackTraces = false) (B : Nat) {a0 : Int32}  {Q : ab_S → Prop} {E : String → ab_S → Prop} {σ : ab_S} (hW : Wire σ) (h : wX12_direct a0 Q E σ) : ab_Mt l yX12_direct mdX12_direct B 0 0 0 0 [.ref 92, .int a0] σ (fun v σ' => Wire σ' ∧ v = none ∧ Q σ') (fun X σ' => Wire σ' ∧ E X σ') := by
  refine V_met hl ⟨rfl, rfl, by decide⟩ rfl dkX12_direct (Nat.le_of_ble_eq_true rfl) ?_
  show V l mdX12_direct B 0 0 0 0 (ab_End _ _) 0 [(0, .ref 92), (1, .int a0)] [] σ
  revert h hW
  revert σ
  have k_l2 : ∀ (n : Nat) (x2 : Int32)  (σ : ab_S), Wire σ → wX12_direct_l2 a0 Q E n x2 σ → V l mdX12_direct B 0 0 0 0 (ab_End (fun v σ' => Wire σ' ∧ v = none ∧ Q σ') (fun X σ' => Wire σ' ∧ E X σ')) 2 [(0, .ref 92), (1, .int a0), (2, .int x2)] [] σ := by
    have step : ∀ (Bk : Int32 → ab_S → Prop) (k_Bk : ∀ (x2 : Int32)  (σ : ab_S), Wire σ → Bk x2 σ → V l mdX12_direct B 0 0 0 0 (ab_End (fun v σ' => Wire σ' ∧ v = none ∧ Q σ') (fun X σ' => Wire σ' ∧ E X σ')) 2 [(0, .ref 92), (1, .int a0), (2, .int x2)] [] σ), ∀ (x2 : Int32)  (σ : ab_S), Wire σ → wX12_direct_l2_b a0 Q E Bk x2 σ → V l mdX12_direct B 0 0 0 0 (ab_End (fun v σ' => Wire σ' ∧ v = none ∧ Q σ') (fun X σ' => Wire σ' ∧ E X σ')) 2 [(0, .ref 92), (1, .int a0), (2, .int x2)] [] σ := by
      intro Bk k_Bk
      have k_j113 : ∀ (x2 : Int32)  (σ : ab_S), Wire σ → wX12_direct_j113 a0 Q E Bk x2 σ → V l mdX12_direct B 0 0 0 0 (ab_End (fun v σ' => Wire σ' ∧ v = none ∧ Q σ') (fun X σ' => Wire σ' ∧ E X σ')) 113 [(0, .ref 92), (1, .int a0), (2, .int x2)] [] σ := by
        intro x2  σ hW h
        obtain ⟨v1, ev1⟩ : ∃ z : Int32, z = (x2 + 1) := ⟨_, rfl⟩
        replace h := h v1 ev1
        refine V_iinc 75 2 (v := v1) (lv' := [(2, .int v1), (0, .ref 92), (1, .int a0)]) rfl rfl ((in_1 _).trans ev1.symm) (by decide) rfl ?_
        refine V_goto 76 (tgt := 2) rfl (by decide) ?_
        refine V_sub [1, 2, 0] (lv' := [(0, .ref 92), (1, .int a0), (2, .int v1)]) rfl ?_
        exact k_Bk v1  σ hW h
      have k_l32 : ∀ (n : Nat) (x2 : Int32) (x3 : Int32)  (σ : ab_S), Wire σ → wX12_direct_l32 a0 Q E (wX12_direct_j113 a0 Q E Bk) n x2 x3 σ → V l mdX12_direct B 0 0 0 0 (ab_End (fun v σ' => Wire σ' ∧ v = none ∧ Q σ') (fun X σ' => Wire σ' ∧ E X σ')) 32 [(0, .ref 92), (1, .int a0), (2, .int x2), (3, .int x3)] [] σ := by
        have step : ∀ (K113 : Int32 → ab_S → Prop) (k_K113 : ∀ (x2 : Int32)  (σ : ab_S), Wire σ → K113 x2 σ → V l mdX12_direct B 0 0 0 0 (ab_End (fun v σ' => Wire σ' ∧ v = none ∧ Q σ') (fun X σ' => Wire σ' ∧ E X σ')) 113 [(0, .ref 92), (1, .int a0), (2, .int x2)] [] σ), ∀ (Bk : Int32 → Int32 → ab_S → Prop) (k_Bk : ∀ (x2 : Int32) (x3 : Int32)  (σ : ab_S), Wire σ → Bk x2 x3 σ → V l mdX12_direct B 0 0 0 0 (ab_End (fun v σ' => Wire σ' ∧ v = none ∧ Q σ') (fun X σ' => Wire σ' ∧ E X σ')) 32 [(0, .ref 92), (1, .int a0), (2, .int x2), (3, .int x3)] [] σ), ∀ (x2 : Int32) (x3 : Int32)  (σ : ab_S), Wire σ → wX12_direct_l32_b a0 Q E K113 Bk x2 x3 σ → V l mdX12_direct B 0 0 0 0 (ab_End (fun v σ' => Wire σ' ∧ v = none ∧ Q σ') (fun X σ' => Wire σ' ∧ E X σ')) 32 [(0, .ref 92), (1, .int a0), (2, .int x2), (3, .int x3)] [] σ := by
          intro K113 k_K113 Bk k_Bk
          have k_j106 : ∀ (x2 : Int32) (x3 : Int32) (y0 : Int64) (y1 : Int32)  (σ : ab_S), Wire σ → wX12_direct_j106 a0 Q E K113 Bk x2 x3 y0 y1 σ → V l mdX12_direct B 0 0 0 0 (ab_End (fun v σ' => Wire σ' ∧ v = none ∧ Q σ') (fun X σ' => Wire σ' ∧ E X σ')) 106 [(0, .ref 92), (1, .int a0), (2, .int x2), (3, .int x3)] [.long y0, .int y1, .ref 109] σ := by
            intro x2 x3 y0 y1  σ hW h
            obtain ⟨hin, h⟩ := h
            refine V_last 72 rfl (wsh hW rfl) hin ?_
            refine V_nm (fun σ2 eσ2 => ?_)
            replace h := h σ2 eσ2
            have hW := wire_L eσ2 hW
            obtain ⟨v3, ev3⟩ : ∃ z : Int32, z = (x3 + 1) := ⟨_, rfl⟩
            replace h := h v3 ev3
            refine V_iinc 73 3 (v := v3) (lv' := [(3, .int v3), (0, .ref 92), (1, .int a0), (2, .int x2)]) rfl rfl ((in_1 _).trans ev3.symm) (by decide) rfl ?_
            refine V_goto 74 (tgt := 32) rfl (by decide) ?_
            refine V_sub [1, 2, 3, 0] (lv' := [(0, .ref 92), (1, .int a0), (2, .int x2), (3, .int v3)]) rfl ?_
            exact k_Bk x2 v3  σ2 hW h
          intro x2 x3  σ hW h
          refine V_iload_n 23 3 rfl rfl rfl ?_
          refine V_if_lt 24 (tgt := 113) rfl (by decide) (fun hc => ?_) (fun hc => ?_)
          · replace h := h.1 hc
            refine V_sub [0, 1, 2] (lv' := [(0, .ref 92), (1, .int a0), (2, .int x2)]) rfl ?_
            exact k_K113 x2  σ hW h
          · replace h := h.2 hc
            refine V_pc 36 rfl ?_
            refine V_iload_n 25 3 rfl rfl rfl ?_
            refine V_aload_n 26 0 rfl rfl rfl ?_
            refine V_getR 27 20 rfl clX12 flX12_51 (by decide) (wsh hW rfl) (fun _ => rfl) (wrf hW 107 rfl) ?_
            refine V_bipush 28 (v := (32 : Int32)) rfl (by decide) ?_
            refine V_iload_n 29 1 rfl rfl rfl ?_
            refine V_imul 30 rfl ?_
            refine V_pc 45 rfl ?_
            refine V_iload_n 31 2 rfl rfl rfl ?_
            refine V_iadd 32 rfl ?_
            obtain ⟨hin, h⟩ := h
            refine V_iald 33 rfl (wsh hW rfl) hin ?_
            refine V_icmp_ge 34 (tgt := 113) rfl (by decide) (fun hc => ?_) (fun hc => ?_)
            · replace h := h.1 hc
              refine V_sub [0, 1, 2] (lv' := [(0, .ref 92), (1, .int a0), (2, .int x2)]) rfl ?_
              exact k_K113 x2  σ hW h
            · replace h := h.2 hc
              refine V_pc 51 rfl ?_
              refine V_aload_n 35 0 rfl rfl rfl ?_
              refine V_getR 36 24 rfl clX12 flX12_60 (by decide) (wsh hW rfl) (fun _ => rfl) (wrf hW 110 rfl) ?_
              refine V_bipush 37 (v := (32 : Int32)) rfl (by decide) ?_
              refine V_iload_n 38 1 rfl rfl rfl ?_
              refine V_imul 39 rfl ?_
              refine V_iload_n 40 2 rfl rfl rfl ?_
              refine V_pc 60 rfl ?_
              refine V_iadd 41 rfl ?_
              refine V_aload_n 42 0 rfl rfl rfl ?_
              refine V_getR 43 22 rfl clX12 flX12_54 (by decide) (wsh hW rfl) (fun _ => rfl) (wrf hW 108 rfl) ?_
              refine V_iload_n 44 3 rfl rfl rfl ?_
              obtain ⟨hin, h⟩ := h
              refine V_iald 45 rfl (wsh hW rfl) hin ?_
              refine V_bipush 46 (v := (50 : Int32)) rfl (by decide) ?_
              refine V_pc 69 rfl ?_
              refine V_icmp_ne 47 (tgt := 95) rfl (by decide) (fun hc => ?_) (fun hc => ?_)
              · replace h := h.1 hc
                refine V_aload_n 64 0 rfl rfl rfl ?_
                refine V_getR 65 24 rfl clX12 flX12_60 (by decide) (wsh hW rfl) (fun _ => rfl) (wrf hW 110 rfl) ?_
                refine V_bipush 66 (v := (32 : Int32)) rfl (by decide) ?_
                refine V_iload_n 67 1 rfl rfl rfl ?_
                refine V_imul 68 rfl ?_
                refine V_iload_n 69 2 rfl rfl rfl ?_
                refine V_pc 104 rfl ?_
                refine V_iadd 70 rfl ?_
                obtain ⟨hin, h⟩ := h
                refine V_lald 71 rfl (wsh hW rfl) hin ?_
                exact k_j106 x2 x3 (σ.2.2.1 109 (((32 : Int32) * a0) + x2).toNatClampNeg) (((32 : Int32) * a0) + x2) σ hW h
              · replace h := h.2 hc
                refine V_pc 72 rfl ?_
                refine V_aload_n 48 0 rfl rfl rfl ?_
                refine V_getR 49 24 rfl clX12 flX12_60 (by decide) (wsh hW rfl) (fun _ => rfl) (wrf hW 110 rfl) ?_
                refine V_bipush 50 (v := (32 : Int32)) rfl (by decide) ?_
                refine V_iload_n 51 1 rfl rfl rfl ?_
                refine V_imul 52 rfl ?_
                refine V_iload_n 53 2 rfl rfl rfl ?_
                refine V_pc 81 rfl ?_
                refine V_iadd 54 rfl ?_
                obtain ⟨hin, h⟩ := h
                refine V_lald 55 rfl (wsh hW rfl) hin ?_
                refine V_lconst 56 (v := (1 : Int64)) rfl (by decide) ?_
                refine V_aload_n 57 0 rfl rfl rfl ?_
                refine V_getR 58 23 rfl clX12 flX12_57 (by decide) (wsh hW rfl) (fun _ => rfl) (wrf hW 109 rfl) ?_
                refine V_iload_n 59 3 rfl rfl rfl ?_
                refine V_pc 89 rfl ?_
                obtain ⟨hin, h⟩ := h
                refine V_iald 60 rfl (wsh hW rfl) hin ?_
                refine V_lshl 61 rfl ?_
                refine V_lor 62 rfl ?_
                refine V_goto 63 (tgt := 106) rfl (by decide) ?_
                exact k_j106 x2 x3 ((σ.2.2.1 109 (((32 : Int32) * a0) + x2).toNatClampNeg) ||| ((1 : Int64) <<< ((σ.2.1 108 x3.toNatClampNeg).toInt64 &&& 63))) (((32 : Int32) * a0) + x2) σ hW h
        intro n
        induction n with
        | zero => intro x2 x3  σ hW h; exact absurd h id
        | succ n ih => exact step _ k_j113 _ ih
      intro x2  σ hW h
      refine V_iload_n 2 2 rfl rfl rfl ?_
      refine V_bipush 3 (v := (32 : Int32)) rfl (by decide) ?_
      refine V_icmp_ge 4 (tgt := 119) rfl (by decide) (fun hc => ?_) (fun hc => ?_)
      · replace h := h.1 hc
        exact V_vret 77 rfl rfl ⟨hW, rfl, h⟩
      · replace h := h.2 hc
        refine V_pc 8 rfl ?_
        refine V_aload_n 5 0 rfl rfl rfl ?_
        refine V_getR 6 24 rfl clX12 flX12_60 (by decide) (wsh hW rfl) (fun _ => rfl) (wrf hW 110 rfl) ?_
        refine V_bipush 7 (v := (32 : Int32)) rfl (by decide) ?_
        refine V_iload_n 8 1 rfl rfl rfl ?_
        refine V_imul 9 rfl ?_
        refine V_iload_n 10 2 rfl rfl rfl ?_
        refine V_pc 17 rfl ?_
        refine V_iadd 11 rfl ?_
        refine V_lconst 12 (v := (0 : Int64)) rfl (by decide) ?_
        obtain ⟨hin, h⟩ := h
        refine V_last 13 rfl (wsh hW rfl) hin ?_
        refine V_nm (fun σ4 eσ4 => ?_)
        replace h := h σ4 eσ4
        have hW := wire_L eσ4 hW
        refine V_aload_n 14 0 rfl rfl rfl ?_
        refine V_getR 15 19 rfl clX12 flX12_48 (by decide) (wsh hW rfl) (fun _ => rfl) (wrf hW 106 rfl) ?_
        refine V_bipush 16 (v := (32 : Int32)) rfl (by decide) ?_
        refine V_pc 26 rfl ?_
        refine V_iload_n 17 1 rfl rfl rfl ?_
        refine V_imul 18 rfl ?_
        refine V_iload_n 19 2 rfl rfl rfl ?_
        refine V_iadd 20 rfl ?_
        obtain ⟨hin, h⟩ := h
        refine V_iald 21 rfl (wsh hW rfl) hin ?_
        refine V_topi (fun v5 ev5 => ?_)
        replace h := h v5 ev5
        refine V_istore_n 22 (lv' := [(3, .int v5), (0, .ref 92), (1, .int a0), (2, .int x2)]) rfl rfl (by decide) rfl ?_
        refine V_sub [1, 2, 3, 0] (lv' := [(0, .ref 92), (1, .int a0), (2, .int x2), (3, .int v5)]) rfl ?_
        obtain ⟨n, h⟩ := h
        exact k_l32 n x2 v5 σ4 hW h
    intro n
    induction n with
    | zero => intro x2  σ hW h; exact absurd h id
    | succ n ih => exact step  _ ih
  intro σ hW h
  refine V_iconst 0 (v := (0 : Int32)) rfl (by decide) ?_
  refine V_istore_n 1 (lv' := [(2, .int (0 : Int32)), (0, .ref 92), (1, .int a0)]) rfl rfl (by decide) rfl ?_
  refine V_sub [1, 2, 0] (lv' := [(0, .ref 92), (1, .int a0), (2, .int (0 : Int32))]) rfl ?_
  obtain ⟨n, h⟩ := h
  exact k_l2 n (0 : Int32) σ hW h
