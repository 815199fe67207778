def wX1_readProduction_j150 (Q : Int32 → ab_S → Prop) (E : String → ab_S → Prop)  (σ : ab_S) : Prop := ∃ q1, σ.2.2.2 7 1 = some q1 ∧ isG q1 ∧ (vp_in (σ.2.1 7 2) 30 ∧ (∃ q2, σ.2.2.2 7 1 = some q2 ∧ isG q2 ∧ (wX0_definable q2 (σ.2.1 7 2) (fun u4 σ3 => ((¬ (σ.2.1 (q1 + 9) (σ.2.1 7 2).toNatClampNeg) = u4) → Q (0 : Int32) σ3) ∧ (¬ (¬ (σ.2.1 (q1 + 9) (σ.2.1 7 2).toNatClampNeg) = u4) → wX6_take (125 : Int32) (fun u6 σ5 => ((u6 = 0) → Q (0 : Int32) σ5) ∧ (¬ (u6 = 0) → Q (1 : Int32) σ5)) E σ3)) E σ)))
def wX1_readProduction_l118_b (Q : Int32 → ab_S → Prop) (E : String → ab_S → Prop) (K150 : ab_S → Prop) (Bk : Int32 → ab_S → Prop) (x1 : Int32) (σ : ab_S) : Prop := (((32 : Int32) < x1) → K150 σ) ∧ (¬ ((32 : Int32) < x1) → ((¬ (σ.2.1 3 6) = (3 : Int32)) → K150 σ) ∧ (¬ (¬ (σ.2.1 3 6) = (3 : Int32)) → wX1_readRule (fun u8 σ7 => ((¬ u8 = 0) → ∀ v9 : Int32, v9 = (x1 + 1) → Bk v9 σ7) ∧ (¬ (¬ u8 = 0) → Q (0 : Int32) σ7)) E σ))
def wX1_readProduction_l118 (Q : Int32 → ab_S → Prop) (E : String → ab_S → Prop) (K150 : ab_S → Prop) : Nat → Int32 → ab_S → Prop
  | 0, _, _ => False
  | n + 1, x1, σ => wX1_readProduction_l118_b Q E K150 (wX1_readProduction_l118 Q E K150 n) x1 σ
def wX1_readProduction  (Q : Int32 → ab_S → Prop) (E : String → ab_S → Prop) (σ : ab_S) : Prop := ((¬ (σ.2.1 3 6) = (2 : Int32)) → Q (0 : Int32) σ) ∧ (¬ (¬ (σ.2.1 3 6) = (2 : Int32)) → ∃ q10, σ.2.2.2 7 1 = some q10 ∧ isG q10 ∧ (wX0_findProduction q10 (σ.2.2.1 3 9) (fun u12 σ11 => ((u12 = (-1 : Int32)) → ∃ q13, σ11.2.2.2 7 1 = some q13 ∧ isG q13 ∧ ((∀ σ14 : ab_S, σ14 = ab_I σ11 7 2 (σ11.2.1 q13 5) → ∃ q15, σ14.2.2.2 7 1 = some q15 ∧ isG q15 ∧ (wX0_addProduction q15 (σ14.2.2.1 3 9) (fun σ16 => wX6_advance (fun σ17 => wX6_take (58 : Int32) (fun u19 σ18 => ((u19 = 0) → Q (0 : Int32) σ18) ∧ (¬ (u19 = 0) → wX1_readOccurrence (0 : Int32) (fun u21 σ20 => ((u21 = 0) → Q (0 : Int32) σ20) ∧ (¬ (u21 = 0) → wX6_take (61 : Int32) (fun u23 σ22 => ((u23 = 0) → Q (0 : Int32) σ22) ∧ (¬ (u23 = 0) → wX1_readRight (fun u25 σ24 => ((u25 = 0) → Q (0 : Int32) σ24) ∧ (¬ (u25 = 0) → wX6_take (123 : Int32) (fun u27 σ26 => ((¬ u27 = 0) → ∃ n, wX1_readProduction_l118 Q E (wX1_readProduction_j150 Q E) n (0 : Int32) σ26) ∧ (¬ (¬ u27 = 0) → Q (0 : Int32) σ26)) E σ24)) E σ22)) E σ20)) E σ18)) E σ17) E σ16) E σ14)))) ∧ (¬ (u12 = (-1 : Int32)) → Q (0 : Int32) σ11)) E σ))
set_option maxHeartbeats 4000000 in
set_option maxRecDepth 100000 in
theorem ceX1_readProduction {l : Launch} (hl : l.stackTraces = false) (B : Nat)   {Q : Int32 → ab_S → Prop} {E : String → ab_S → Prop} {σ : ab_S} (hW : Wire σ) (h : wX1_readProduction  Q E σ) : ab_Mt l yX1_readProduction mdX1_readProduction B 611 12122 0 0 [.ref 7] σ (fun v σ' => Wire σ' ∧ ∃ r : Int32, v = some (.int r) ∧ Q r σ') (fun X σ' => Wire σ' ∧ E X σ') := by
  refine V_met hl ⟨rfl, rfl, by decide⟩ rfl dkX1_readProduction (Nat.le_of_ble_eq_true rfl) ?_
  show V l mdX1_readProduction B 611 12122 0 0 (ab_End _ _) 0 [(0, .ref 7)] [] σ
  revert h hW
  revert σ
  have k_j150 : ∀   (σ : ab_S), Wire σ → wX1_readProduction_j150 Q E  σ → V l mdX1_readProduction B 611 12122 0 0 (ab_End (fun v σ' => Wire σ' ∧ ∃ r : Int32, v = some (.int r) ∧ Q r σ') (fun X σ' => Wire σ' ∧ E X σ')) 150 [(0, .ref 7)] [] σ := by
    intro   σ hW h
    refine V_aload_n 70 0 rfl rfl rfl ?_
    obtain ⟨q1, eq1, hq1, h⟩ := h
    refine V_getR 71 1 rfl clX1 flX1_15 (by decide) (wsh hW rfl) (fun _ => rfl) eq1 ?_
    refine V_getR 72 10 rfl clX0 flX1_102 (by decide) (wG hW hq1) (fun _ => rfl) (wG_f10 hW hq1) ?_
    refine V_aload_n 73 0 rfl rfl rfl ?_
    refine V_get (v := .int (σ.2.1 7 2)) 74 2 rfl clX1 flX1_87 (by decide) (wsh hW rfl) (fun _ => rfl) ?_
    obtain ⟨hin, h⟩ := h
    refine V_iald 75 rfl (wG_a9 hW hq1) hin ?_
    refine V_pc 162 rfl ?_
    refine V_aload_n 76 0 rfl rfl rfl ?_
    obtain ⟨q2, eq2, hq2, h⟩ := h
    refine V_getR 77 1 rfl clX1 flX1_15 (by decide) (wsh hW rfl) (fun _ => rfl) eq2 ?_
    refine V_aload_n 78 0 rfl rfl rfl ?_
    refine V_get (v := .int (σ.2.1 7 2)) 79 2 rfl clX1 flX1_87 (by decide) (wsh hW rfl) (fun _ => rfl) ?_
    refine V_callV 80 1 (as := [.int (σ.2.1 7 2)]) (rest := [.int (σ.2.1 (q1 + 9) (σ.2.1 7 2).toNatClampNeg)]) rfl mlX1_105 yvX0_definable rfl rfl clX0 (wG hW hq2) (by decide) (by decide) (Nat.le_of_ble_eq_true rfl) (by decide) (by decide) (fun B9 => ceX0_definable hl B9 hq2 hW h) (fun X9 τ9 h9 => VX_out rfl h9) ?_
    rintro v9 σ3 ⟨hW, u4, rfl, h⟩
    refine V_icmp_ne 81 (tgt := 192) rfl (by decide) (fun hc => ?_) (fun hc => ?_)
    · replace h := h.1 hc
      refine V_iconst 89 (v := (0 : Int32)) rfl (by decide) ?_
      exact V_zret 90 rfl rfl rfl ⟨hW, _, rfl, h⟩
    · replace h := h.2 hc
      refine V_pc 176 rfl ?_
      refine V_aload_n 82 0 rfl rfl rfl ?_
      refine V_getR 83 0 rfl clX1 flX1_9 (by decide) (wsh hW rfl) (fun _ => rfl) (wrf hW 16 rfl) ?_
      refine V_bipush 84 (v := (125 : Int32)) rfl (by decide) ?_
      refine V_callV 85 1 (as := [.int (125 : Int32)]) (rest := []) rfl mlX1_43 yvX6_take rfl rfl clX6 (wsh hW rfl) (by decide) (by decide) (Nat.le_of_ble_eq_true rfl) (by decide) (by decide) (fun B9 => ceX6_take hl B9 hW h) (fun X9 τ9 h9 => VX_out rfl h9) ?_
      rintro v9 σ5 ⟨hW, u6, rfl, h⟩
      refine V_if_eq 86 (tgt := 192) rfl (by decide) (fun hc => ?_) (fun hc => ?_)
      · replace h := h.1 hc
        refine V_iconst 89 (v := (0 : Int32)) rfl (by decide) ?_
        exact V_zret 90 rfl rfl rfl ⟨hW, _, rfl, h⟩
      · replace h := h.2 hc
        refine V_pc 188 rfl ?_
        refine V_iconst 87 (v := (1 : Int32)) rfl (by decide) ?_
        refine V_goto 88 (tgt := 193) rfl (by decide) ?_
        exact V_zret 90 rfl rfl rfl ⟨hW, _, rfl, h⟩
  have k_l118 : ∀ (n : Nat) (x1 : Int32)  (σ : ab_S), Wire σ → wX1_readProduction_l118 Q E (wX1_readProduction_j150 Q E) n x1 σ → V l mdX1_readProduction B 611 12122 0 0 (ab_End (fun v σ' => Wire σ' ∧ ∃ r : Int32, v = some (.int r) ∧ Q r σ') (fun X σ' => Wire σ' ∧ E X σ')) 118 [(0, .ref 7), (1, .int x1)] [] σ := by
    have step : ∀ (K150 : ab_S → Prop) (k_K150 : ∀   (σ : ab_S), Wire σ → K150  σ → V l mdX1_readProduction B 611 12122 0 0 (ab_End (fun v σ' => Wire σ' ∧ ∃ r : Int32, v = some (.int r) ∧ Q r σ') (fun X σ' => Wire σ' ∧ E X σ')) 150 [(0, .ref 7)] [] σ), ∀ (Bk : Int32 → ab_S → Prop) (k_Bk : ∀ (x1 : Int32)  (σ : ab_S), Wire σ → Bk x1 σ → V l mdX1_readProduction B 611 12122 0 0 (ab_End (fun v σ' => Wire σ' ∧ ∃ r : Int32, v = some (.int r) ∧ Q r σ') (fun X σ' => Wire σ' ∧ E X σ')) 118 [(0, .ref 7), (1, .int x1)] [] σ), ∀ (x1 : Int32)  (σ : ab_S), Wire σ → wX1_readProduction_l118_b Q E K150 Bk x1 σ → V l mdX1_readProduction B 611 12122 0 0 (ab_End (fun v σ' => Wire σ' ∧ ∃ r : Int32, v = some (.int r) ∧ Q r σ') (fun X σ' => Wire σ' ∧ E X σ')) 118 [(0, .ref 7), (1, .int x1)] [] σ := by
      intro K150 k_K150 Bk k_Bk
      intro x1  σ hW h
      refine V_iload_n 55 1 rfl rfl rfl ?_
      refine V_bipush 56 (v := (32 : Int32)) rfl (by decide) ?_
      refine V_icmp_gt 57 (tgt := 150) rfl (by decide) (fun hc => ?_) (fun hc => ?_)
      · replace h := h.1 hc
        refine V_sub [0] (lv' := [(0, .ref 7)]) rfl ?_
        exact k_K150  σ hW h
      · replace h := h.2 hc
        refine V_pc 124 rfl ?_
        refine V_aload_n 58 0 rfl rfl rfl ?_
        refine V_getR 59 0 rfl clX1 flX1_9 (by decide) (wsh hW rfl) (fun _ => rfl) (wrf hW 16 rfl) ?_
        refine V_get (v := .int (σ.2.1 3 6)) 60 6 rfl clX6 flX1_33 (by decide) (wsh hW rfl) (fun _ => rfl) ?_
        refine V_iconst 61 (v := (3 : Int32)) rfl (by decide) ?_
        refine V_icmp_ne 62 (tgt := 150) rfl (by decide) (fun hc => ?_) (fun hc => ?_)
        · replace h := h.1 hc
          refine V_sub [0] (lv' := [(0, .ref 7)]) rfl ?_
          exact k_K150  σ hW h
        · replace h := h.2 hc
          refine V_pc 135 rfl ?_
          refine V_aload_n 63 0 rfl rfl rfl ?_
          refine V_callV 64 0 (as := []) (rest := []) rfl mlX1_99 yvX1_readRule rfl rfl clX1 (wsh hW rfl) (by decide) (by decide) (Nat.le_of_ble_eq_true rfl) (by decide) (by decide) (fun B9 => ceX1_readRule hl B9 hW h) (fun X9 τ9 h9 => VX_out rfl h9) ?_
          rintro v9 σ7 ⟨hW, u8, rfl, h⟩
          refine V_if_ne 65 (tgt := 144) rfl (by decide) (fun hc => ?_) (fun hc => ?_)
          · replace h := h.1 hc
            obtain ⟨v9, ev9⟩ : ∃ z : Int32, z = (x1 + 1) := ⟨_, rfl⟩
            replace h := h v9 ev9
            refine V_iinc 68 1 (v := v9) (lv' := [(1, .int v9), (0, .ref 7)]) rfl rfl ((in_1 _).trans ev9.symm) (by decide) rfl ?_
            refine V_goto 69 (tgt := 118) rfl (by decide) ?_
            refine V_sub [1, 0] (lv' := [(0, .ref 7), (1, .int v9)]) rfl ?_
            exact k_Bk v9  σ7 hW h
          · replace h := h.2 hc
            refine V_pc 142 rfl ?_
            refine V_iconst 66 (v := (0 : Int32)) rfl (by decide) ?_
            exact V_zret 67 rfl rfl rfl ⟨hW, _, rfl, h⟩
    intro n
    induction n with
    | zero => intro x1  σ hW h; exact absurd h id
    | succ n ih => exact step _ k_j150 _ ih
  intro σ hW h
  refine V_aload_n 0 0 rfl rfl rfl ?_
  refine V_getR 1 0 rfl clX1 flX1_9 (by decide) (wsh hW rfl) (fun _ => rfl) (wrf hW 16 rfl) ?_
  refine V_get (v := .int (σ.2.1 3 6)) 2 6 rfl clX6 flX1_33 (by decide) (wsh hW rfl) (fun _ => rfl) ?_
  refine V_iconst 3 (v := (2 : Int32)) rfl (by decide) ?_
  refine V_icmp_ne 4 (tgt := 29) rfl (by decide) (fun hc => ?_) (fun hc => ?_)
  · replace h := h.1 hc
    refine V_iconst 13 (v := (0 : Int32)) rfl (by decide) ?_
    exact V_zret 14 rfl rfl rfl ⟨hW, _, rfl, h⟩
  · replace h := h.2 hc
    refine V_pc 11 rfl ?_
    refine V_aload_n 5 0 rfl rfl rfl ?_
    obtain ⟨q10, eq10, hq10, h⟩ := h
    refine V_getR 6 1 rfl clX1 flX1_15 (by decide) (wsh hW rfl) (fun _ => rfl) eq10 ?_
    refine V_aload_n 7 0 rfl rfl rfl ?_
    refine V_getR 8 0 rfl clX1 flX1_9 (by decide) (wsh hW rfl) (fun _ => rfl) (wrf hW 16 rfl) ?_
    refine V_get (v := .long (σ.2.2.1 3 9)) 9 9 rfl clX6 flX1_47 (by decide) (wsh hW rfl) (fun _ => rfl) ?_
    refine V_callV 10 1 (as := [.long (σ.2.2.1 3 9)]) (rest := []) rfl mlX1_81 yvX0_findProduction rfl rfl clX0 (wG hW hq10) (by decide) (by decide) (Nat.le_of_ble_eq_true rfl) (by decide) (by decide) (fun B9 => ceX0_findProduction hl B9 hq10 hW h) (fun X9 τ9 h9 => VX_out rfl h9) ?_
    rintro v9 σ11 ⟨hW, u12, rfl, h⟩
    refine V_iconst 11 (v := (-1 : Int32)) rfl (by decide) ?_
    refine V_icmp_eq 12 (tgt := 31) rfl (by decide) (fun hc => ?_) (fun hc => ?_)
    · replace h := h.1 hc
      refine V_aload_n 15 0 rfl rfl rfl ?_
      refine V_aload_n 16 0 rfl rfl rfl ?_
      obtain ⟨q13, eq13, hq13, h⟩ := h
      refine V_getR 17 1 rfl clX1 flX1_15 (by decide) (wsh hW rfl) (fun _ => rfl) eq13 ?_
      refine V_get (v := .int (σ11.2.1 q13 5)) 18 5 rfl clX0 flX1_84 (by decide) (wG hW hq13) (fun _ => rfl) ?_
      refine V_putI 19 2 rfl clX1 flX1_87 (by decide) (wsh hW rfl) rfl (fun _ _ => rfl) rfl rfl ?_
      refine V_nm (fun σ14 eσ14 => ?_)
      replace h := h σ14 eσ14
      have hW := wire_I eσ14 hW
      refine V_aload_n 20 0 rfl rfl rfl ?_
      obtain ⟨q15, eq15, hq15, h⟩ := h
      refine V_getR 21 1 rfl clX1 flX1_15 (by decide) (wsh hW rfl) (fun _ => rfl) eq15 ?_
      refine V_aload_n 22 0 rfl rfl rfl ?_
      refine V_getR 23 0 rfl clX1 flX1_9 (by decide) (wsh hW rfl) (fun _ => rfl) (wrf hW 16 rfl) ?_
      refine V_get (v := .long (σ14.2.2.1 3 9)) 24 9 rfl clX6 flX1_47 (by decide) (wsh hW rfl) (fun _ => rfl) ?_
      refine V_pc 53 rfl ?_
      refine V_callV 25 1 (as := [.long (σ14.2.2.1 3 9)]) (rest := []) rfl mlX1_90 yvX0_addProduction rfl rfl clX0 (wG hW hq15) (by decide) (by decide) (Nat.le_of_ble_eq_true rfl) (by decide) (by decide) (fun B9 => ceX0_addProduction hl B9 hq15 hW h) (fun X9 τ9 h9 => VX_out rfl h9) ?_
      rintro v9 σ16 ⟨hW, rfl, h⟩
      refine V_aload_n 26 0 rfl rfl rfl ?_
      refine V_getR 27 0 rfl clX1 flX1_9 (by decide) (wsh hW rfl) (fun _ => rfl) (wrf hW 16 rfl) ?_
      refine V_callV 28 0 (as := []) (rest := []) rfl mlX1_62 yvX6_advance rfl rfl clX6 (wsh hW rfl) (by decide) (by decide) (Nat.le_of_ble_eq_true rfl) (by decide) (by decide) (fun B9 => ceX6_advance hl B9 hW h) (fun X9 τ9 h9 => VX_out rfl h9) ?_
      rintro v9 σ17 ⟨hW, rfl, h⟩
      refine V_aload_n 29 0 rfl rfl rfl ?_
      refine V_getR 30 0 rfl clX1 flX1_9 (by decide) (wsh hW rfl) (fun _ => rfl) (wrf hW 16 rfl) ?_
      refine V_bipush 31 (v := (58 : Int32)) rfl (by decide) ?_
      refine V_callV 32 1 (as := [.int (58 : Int32)]) (rest := []) rfl mlX1_43 yvX6_take rfl rfl clX6 (wsh hW rfl) (by decide) (by decide) (Nat.le_of_ble_eq_true rfl) (by decide) (by decide) (fun B9 => ceX6_take hl B9 hW h) (fun X9 τ9 h9 => VX_out rfl h9) ?_
      rintro v9 σ18 ⟨hW, u19, rfl, h⟩
      refine V_if_eq 33 (tgt := 114) rfl (by decide) (fun hc => ?_) (fun hc => ?_)
      · replace h := h.1 hc
        refine V_iconst 51 (v := (0 : Int32)) rfl (by decide) ?_
        exact V_zret 52 rfl rfl rfl ⟨hW, _, rfl, h⟩
      · replace h := h.2 hc
        refine V_pc 75 rfl ?_
        refine V_aload_n 34 0 rfl rfl rfl ?_
        refine V_iconst 35 (v := (0 : Int32)) rfl (by decide) ?_
        refine V_callV 36 1 (as := [.int (0 : Int32)]) (rest := []) rfl mlX1_93 yvX1_readOccurrence rfl rfl clX1 (wsh hW rfl) (by decide) (by decide) (Nat.le_of_ble_eq_true rfl) (by decide) (by decide) (fun B9 => ceX1_readOccurrence hl B9 hW h) (fun X9 τ9 h9 => VX_out rfl h9) ?_
        rintro v9 σ20 ⟨hW, u21, rfl, h⟩
        refine V_if_eq 37 (tgt := 114) rfl (by decide) (fun hc => ?_) (fun hc => ?_)
        · replace h := h.1 hc
          refine V_iconst 51 (v := (0 : Int32)) rfl (by decide) ?_
          exact V_zret 52 rfl rfl rfl ⟨hW, _, rfl, h⟩
        · replace h := h.2 hc
          refine V_pc 83 rfl ?_
          refine V_aload_n 38 0 rfl rfl rfl ?_
          refine V_getR 39 0 rfl clX1 flX1_9 (by decide) (wsh hW rfl) (fun _ => rfl) (wrf hW 16 rfl) ?_
          refine V_bipush 40 (v := (61 : Int32)) rfl (by decide) ?_
          refine V_callV 41 1 (as := [.int (61 : Int32)]) (rest := []) rfl mlX1_43 yvX6_take rfl rfl clX6 (wsh hW rfl) (by decide) (by decide) (Nat.le_of_ble_eq_true rfl) (by decide) (by decide) (fun B9 => ceX6_take hl B9 hW h) (fun X9 τ9 h9 => VX_out rfl h9) ?_
          rintro v9 σ22 ⟨hW, u23, rfl, h⟩
          refine V_if_eq 42 (tgt := 114) rfl (by decide) (fun hc => ?_) (fun hc => ?_)
          · replace h := h.1 hc
            refine V_iconst 51 (v := (0 : Int32)) rfl (by decide) ?_
            exact V_zret 52 rfl rfl rfl ⟨hW, _, rfl, h⟩
          · replace h := h.2 hc
            refine V_pc 95 rfl ?_
            refine V_aload_n 43 0 rfl rfl rfl ?_
            refine V_callV 44 0 (as := []) (rest := []) rfl mlX1_96 yvX1_readRight rfl rfl clX1 (wsh hW rfl) (by decide) (by decide) (Nat.le_of_ble_eq_true rfl) (by decide) (by decide) (fun B9 => ceX1_readRight hl B9 hW h) (fun X9 τ9 h9 => VX_out rfl h9) ?_
            rintro v9 σ24 ⟨hW, u25, rfl, h⟩
            refine V_if_eq 45 (tgt := 114) rfl (by decide) (fun hc => ?_) (fun hc => ?_)
            · replace h := h.1 hc
              refine V_iconst 51 (v := (0 : Int32)) rfl (by decide) ?_
              exact V_zret 52 rfl rfl rfl ⟨hW, _, rfl, h⟩
            · replace h := h.2 hc
              refine V_pc 102 rfl ?_
              refine V_aload_n 46 0 rfl rfl rfl ?_
              refine V_getR 47 0 rfl clX1 flX1_9 (by decide) (wsh hW rfl) (fun _ => rfl) (wrf hW 16 rfl) ?_
              refine V_bipush 48 (v := (123 : Int32)) rfl (by decide) ?_
              refine V_callV 49 1 (as := [.int (123 : Int32)]) (rest := []) rfl mlX1_43 yvX6_take rfl rfl clX6 (wsh hW rfl) (by decide) (by decide) (Nat.le_of_ble_eq_true rfl) (by decide) (by decide) (fun B9 => ceX6_take hl B9 hW h) (fun X9 τ9 h9 => VX_out rfl h9) ?_
              rintro v9 σ26 ⟨hW, u27, rfl, h⟩
              refine V_if_ne 50 (tgt := 116) rfl (by decide) (fun hc => ?_) (fun hc => ?_)
              · replace h := h.1 hc
                refine V_iconst 53 (v := (0 : Int32)) rfl (by decide) ?_
                refine V_istore_n 54 (lv' := [(1, .int (0 : Int32)), (0, .ref 7)]) rfl rfl (by decide) rfl ?_
                refine V_sub [1, 0] (lv' := [(0, .ref 7), (1, .int (0 : Int32))]) rfl ?_
                obtain ⟨n, h⟩ := h
                exact k_l118 n (0 : Int32) σ26 hW h
              · replace h := h.2 hc
                refine V_pc 114 rfl ?_
                refine V_iconst 51 (v := (0 : Int32)) rfl (by decide) ?_
                exact V_zret 52 rfl rfl rfl ⟨hW, _, rfl, h⟩
    · replace h := h.2 hc
      refine V_pc 29 rfl ?_
      refine V_iconst 13 (v := (0 : Int32)) rfl (by decide) ?_
      exact V_zret 14 rfl rfl rfl ⟨hW, _, rfl, h⟩

def wX1_read_j123 (a0 : Nat) (Q : Int32 → ab_S → Prop) (E : String → ab_S → Prop)  (σ : ab_S) : Prop := Q (σ.2.1 3 7) σ
def wX1_read_j105 (a0 : Nat) (Q : Int32 → ab_S → Prop) (E : String → ab_S → Prop) (x2 : Int32) (σ : ab_S) : Prop := ((x2 = 0) → wX1_read_j123 a0 Q E σ) ∧ (¬ (x2 = 0) → ((¬ (σ.2.1 3 6) = 0) → wX1_read_j123 a0 Q E σ) ∧ (¬ (¬ (σ.2.1 3 6) = 0) → Q (-1 : Int32) σ))
def wX1_read_l74_b (a0 : Nat) (Q : Int32 → ab_S → Prop) (E : String → ab_S → Prop) (K105 : Int32 → ab_S → Prop) (Bk : Int32 → Int32 → ab_S → Prop) (x2 : Int32) (x3 : Int32) (σ : ab_S) : Prop := ((x2 = 0) → K105 x2 σ) ∧ (¬ (x2 = 0) → (((30 : Int32) ≤ x3) → K105 x2 σ) ∧ (¬ ((30 : Int32) ≤ x3) → (((σ.2.1 3 6) = 0) → K105 x2 σ) ∧ (¬ ((σ.2.1 3 6) = 0) → wX1_readProduction (fun u2 σ1 => ∀ v3 : Int32, v3 = (x3 + 1) → Bk u2 v3 σ1) E σ)))
def wX1_read_l74 (a0 : Nat) (Q : Int32 → ab_S → Prop) (E : String → ab_S → Prop) (K105 : Int32 → ab_S → Prop) : Nat → Int32 → Int32 → ab_S → Prop
  | 0, _, _, _ => False
  | n + 1, x2, x3, σ => wX1_read_l74_b a0 Q E K105 (wX1_read_l74 a0 Q E K105 n) x2 x3 σ
def wX1_read_j71 (a0 : Nat) (Q : Int32 → ab_S → Prop) (E : String → ab_S → Prop) (y0 : Int32) (σ : ab_S) : Prop := ∃ n, wX1_read_l74 a0 Q E (wX1_read_j105 a0 Q E) n y0 (1 : Int32) σ
def wX1_read_j70 (a0 : Nat) (Q : Int32 → ab_S → Prop) (E : String → ab_S → Prop)  (σ : ab_S) : Prop := wX1_read_j71 a0 Q E (0 : Int32) σ
def wX1_read_j55 (a0 : Nat) (Q : Int32 → ab_S → Prop) (E : String → ab_S → Prop) (x2 : Int32) (σ : ab_S) : Prop := ((x2 = 0) → wX1_read_j70 a0 Q E σ) ∧ (¬ (x2 = 0) → wX1_readProduction (fun u5 σ4 => ((u5 = 0) → wX1_read_j70 a0 Q E σ4) ∧ (¬ (u5 = 0) → wX1_read_j71 a0 Q E (1 : Int32) σ4)) E σ)
def wX1_read_l23_b (a0 : Nat) (Q : Int32 → ab_S → Prop) (E : String → ab_S → Prop) (K55 : Int32 → ab_S → Prop) (Bk : Int32 → Int32 → ab_S → Prop) (x2 : Int32) (x3 : Int32) (σ : ab_S) : Prop := ((x2 = 0) → K55 x2 σ) ∧ (¬ (x2 = 0) → (((12 : Int32) ≤ x3) → K55 x2 σ) ∧ (¬ ((12 : Int32) ≤ x3) → ((¬ (σ.2.1 3 6) = (4 : Int32)) → K55 x2 σ) ∧ (¬ (¬ (σ.2.1 3 6) = (4 : Int32)) → wX1_readSymbol (fun u7 σ6 => ∀ v8 : Int32, v8 = (x3 + 1) → Bk u7 v8 σ6) E σ)))
def wX1_read_l23 (a0 : Nat) (Q : Int32 → ab_S → Prop) (E : String → ab_S → Prop) (K55 : Int32 → ab_S → Prop) : Nat → Int32 → Int32 → ab_S → Prop
  | 0, _, _, _ => False
  | n + 1, x2, x3, σ => wX1_read_l23_b a0 Q E K55 (wX1_read_l23 a0 Q E K55 n) x2 x3 σ
def wX1_read (a0 : Nat) (Q : Int32 → ab_S → Prop) (E : String → ab_S → Prop) (σ : ab_S) : Prop := (∀ σ9 : ab_S, σ9 = ab_R σ 7 1 (some a0) → wX0_clear a0 (fun σ10 => wX6_open (fun σ11 => wX1_readSymbol (fun u13 σ12 => ∃ n, wX1_read_l23 a0 Q E (wX1_read_j55 a0 Q E) n u13 (1 : Int32) σ12) E σ11) E σ10) E σ9)
set_option maxHeartbeats 4000000 in
set_option maxRecDepth 100000 in
theorem ceX1_read {l : Launch} (hl : l.stackTraces = false) (B : Nat) {a0 : Nat} (ha0 : isG a0) {Q : Int32 → ab_S → Prop} {E : String → ab_S → Prop} {σ : ab_S} (hW : Wire σ) (h : wX1_read a0 Q E σ) : ab_Mt l yX1_read mdX1_read B 612 12143 0 0 [.ref 7, .ref a0] σ (fun v σ' => Wire σ' ∧ ∃ r : Int32, v = some (.int r) ∧ Q r σ') (fun X σ' => Wire σ' ∧ E X σ') := by
  refine V_met hl ⟨rfl, rfl, by decide⟩ rfl dkX1_read (Nat.le_of_ble_eq_true rfl) ?_
  show V l mdX1_read B 612 12143 0 0 (ab_End _ _) 0 [(0, .ref 7), (1, .ref a0)] [] σ
  revert h hW
  revert σ
  have k_j123 : ∀   (σ : ab_S), Wire σ → wX1_read_j123 a0 Q E  σ → V l mdX1_read B 612 12143 0 0 (ab_End (fun v σ' => Wire σ' ∧ ∃ r : Int32, v = some (.int r) ∧ Q r σ') (fun X σ' => Wire σ' ∧ E X σ')) 123 [(0, .ref 7)] [] σ := by
    intro   σ hW h
    refine V_aload_n 61 0 rfl rfl rfl ?_
    refine V_getR 62 0 rfl clX1 flX1_9 (by decide) (wsh hW rfl) (fun _ => rfl) (wrf hW 16 rfl) ?_
    refine V_get (v := .int (σ.2.1 3 7)) 63 7 rfl clX6 flX1_40 (by decide) (wsh hW rfl) (fun _ => rfl) ?_
    exact V_iret 64 rfl rfl ⟨hW, _, rfl, h⟩
  have k_j105 : ∀ (x2 : Int32)  (σ : ab_S), Wire σ → wX1_read_j105 a0 Q E x2 σ → V l mdX1_read B 612 12143 0 0 (ab_End (fun v σ' => Wire σ' ∧ ∃ r : Int32, v = some (.int r) ∧ Q r σ') (fun X σ' => Wire σ' ∧ E X σ')) 105 [(0, .ref 7), (2, .int x2)] [] σ := by
    intro x2  σ hW h
    refine V_iload_n 53 1 rfl rfl rfl ?_
    refine V_if_eq 54 (tgt := 123) rfl (by decide) (fun hc => ?_) (fun hc => ?_)
    · replace h := h.1 hc
      refine V_sub [0] (lv' := [(0, .ref 7)]) rfl ?_
      exact k_j123 σ hW h
    · replace h := h.2 hc
      refine V_pc 109 rfl ?_
      refine V_aload_n 55 0 rfl rfl rfl ?_
      refine V_getR 56 0 rfl clX1 flX1_9 (by decide) (wsh hW rfl) (fun _ => rfl) (wrf hW 16 rfl) ?_
      refine V_get (v := .int (σ.2.1 3 6)) 57 6 rfl clX6 flX1_33 (by decide) (wsh hW rfl) (fun _ => rfl) ?_
      refine V_if_ne 58 (tgt := 123) rfl (by decide) (fun hc => ?_) (fun hc => ?_)
      · replace h := h.1 hc
        refine V_sub [0] (lv' := [(0, .ref 7)]) rfl ?_
        exact k_j123 σ hW h
      · replace h := h.2 hc
        refine V_pc 119 rfl ?_
        refine V_iconst 59 (v := (-1 : Int32)) rfl (by decide) ?_
        refine V_goto 60 (tgt := 130) rfl (by decide) ?_
        exact V_iret 64 rfl rfl ⟨hW, _, rfl, h⟩
  have k_l74 : ∀ (n : Nat) (x2 : Int32) (x3 : Int32)  (σ : ab_S), Wire σ → wX1_read_l74 a0 Q E (wX1_read_j105 a0 Q E) n x2 x3 σ → V l mdX1_read B 612 12143 0 0 (ab_End (fun v σ' => Wire σ' ∧ ∃ r : Int32, v = some (.int r) ∧ Q r σ') (fun X σ' => Wire σ' ∧ E X σ')) 74 [(0, .ref 7), (2, .int x2), (3, .int x3)] [] σ := by
    have step : ∀ (K105 : Int32 → ab_S → Prop) (k_K105 : ∀ (x2 : Int32)  (σ : ab_S), Wire σ → K105 x2 σ → V l mdX1_read B 612 12143 0 0 (ab_End (fun v σ' => Wire σ' ∧ ∃ r : Int32, v = some (.int r) ∧ Q r σ') (fun X σ' => Wire σ' ∧ E X σ')) 105 [(0, .ref 7), (2, .int x2)] [] σ), ∀ (Bk : Int32 → Int32 → ab_S → Prop) (k_Bk : ∀ (x2 : Int32) (x3 : Int32)  (σ : ab_S), Wire σ → Bk x2 x3 σ → V l mdX1_read B 612 12143 0 0 (ab_End (fun v σ' => Wire σ' ∧ ∃ r : Int32, v = some (.int r) ∧ Q r σ') (fun X σ' => Wire σ' ∧ E X σ')) 74 [(0, .ref 7), (2, .int x2), (3, .int x3)] [] σ), ∀ (x2 : Int32) (x3 : Int32)  (σ : ab_S), Wire σ → wX1_read_l74_b a0 Q E K105 Bk x2 x3 σ → V l mdX1_read B 612 12143 0 0 (ab_End (fun v σ' => Wire σ' ∧ ∃ r : Int32, v = some (.int r) ∧ Q r σ') (fun X σ' => Wire σ' ∧ E X σ')) 74 [(0, .ref 7), (2, .int x2), (3, .int x3)] [] σ := by
      intro K105 k_K105 Bk k_Bk
      intro x2 x3  σ hW h
      refine V_iload_n 39 1 rfl rfl rfl ?_
      refine V_if_eq 40 (tgt := 105) rfl (by decide) (fun hc => ?_) (fun hc => ?_)
      · replace h := h.1 hc
        refine V_sub [0, 1] (lv' := [(0, .ref 7), (2, .int x2)]) rfl ?_
        exact k_K105 x2  σ hW h
      · replace h := h.2 hc
        refine V_pc 78 rfl ?_
        refine V_iload_n 41 2 rfl rfl rfl ?_
        refine V_bipush 42 (v := (30 : Int32)) rfl (by decide) ?_
        refine V_icmp_ge 43 (tgt := 105) rfl (by decide) (fun hc => ?_) (fun hc => ?_)
        · replace h := h.1 hc
          refine V_sub [0, 1] (lv' := [(0, .ref 7), (2, .int x2)]) rfl ?_
          exact k_K105 x2  σ hW h
        · replace h := h.2 hc
          refine V_pc 84 rfl ?_
          refine V_aload_n 44 0 rfl rfl rfl ?_
          refine V_getR 45 0 rfl clX1 flX1_9 (by decide) (wsh hW rfl) (fun _ => rfl) (wrf hW 16 rfl) ?_
          refine V_get (v := .int (σ.2.1 3 6)) 46 6 rfl clX6 flX1_33 (by decide) (wsh hW rfl) (fun _ => rfl) ?_
          refine V_if_eq 47 (tgt := 105) rfl (by decide) (fun hc => ?_) (fun hc => ?_)
          · replace h := h.1 hc
            refine V_sub [0, 1] (lv' := [(0, .ref 7), (2, .int x2)]) rfl ?_
            exact k_K105 x2  σ hW h
          · replace h := h.2 hc
            refine V_pc 94 rfl ?_
            refine V_aload_n 48 0 rfl rfl rfl ?_
            refine V_callV 49 0 (as := []) (rest := []) rfl mlX1_37 yvX1_readProduction rfl rfl clX1 (wsh hW rfl) (by decide) (by decide) (Nat.le_of_ble_eq_true rfl) (by decide) (by decide) (fun B9 => ceX1_readProduction hl B9 hW h) (fun X9 τ9 h9 => VX_out rfl h9) ?_
            rintro v9 σ1 ⟨hW, u2, rfl, h⟩
            refine V_istore_n 50 (lv' := [(2, .int u2), (0, .ref 7), (3, .int x3)]) rfl rfl (by decide) rfl ?_
            obtain ⟨v3, ev3⟩ : ∃ z : Int32, z = (x3 + 1) := ⟨_, rfl⟩
            replace h := h v3 ev3
            refine V_iinc 51 2 (v := v3) (lv' := [(3, .int v3), (2, .int u2), (0, .ref 7)]) rfl rfl ((in_1 _).trans ev3.symm) (by decide) rfl ?_
            refine V_goto 52 (tgt := 74) rfl (by decide) ?_
            refine V_sub [2, 1, 0] (lv' := [(0, .ref 7), (2, .int u2), (3, .int v3)]) rfl ?_
            exact k_Bk u2 v3  σ1 hW h
    intro n
    induction n with
    | zero => intro x2 x3  σ hW h; exact absurd h id
    | succ n ih => exact step _ k_j105 _ ih
  have k_j71 : ∀ (y0 : Int32)  (σ : ab_S), Wire σ → wX1_read_j71 a0 Q E y0 σ → V l mdX1_read B 612 12143 0 0 (ab_End (fun v σ' => Wire σ' ∧ ∃ r : Int32, v = some (.int r) ∧ Q r σ') (fun X σ' => Wire σ' ∧ E X σ')) 71 [(0, .ref 7)] [.int y0] σ := by
    intro y0  σ hW h
    refine V_istore_n 36 (lv' := [(2, .int y0), (0, .ref 7)]) rfl rfl (by decide) rfl ?_
    refine V_iconst 37 (v := (1 : Int32)) rfl (by decide) ?_
    refine V_istore_n 38 (lv' := [(3, .int (1 : Int32)), (2, .int y0), (0, .ref 7)]) rfl rfl (by decide) rfl ?_
    refine V_sub [2, 1, 0] (lv' := [(0, .ref 7), (2, .int y0), (3, .int (1 : Int32))]) rfl ?_
    obtain ⟨n, h⟩ := h
    exact k_l74 n y0 (1 : Int32) σ hW h
  have k_j70 : ∀   (σ : ab_S), Wire σ → wX1_read_j70 a0 Q E  σ → V l mdX1_read B 612 12143 0 0 (ab_End (fun v σ' => Wire σ' ∧ ∃ r : Int32, v = some (.int r) ∧ Q r σ') (fun X σ' => Wire σ' ∧ E X σ')) 70 [(0, .ref 7)] [] σ := by
    intro   σ hW h
    refine V_iconst 35 (v := (0 : Int32)) rfl (by decide) ?_
    exact k_j71 (0 : Int32) σ hW h
  have k_j55 : ∀ (x2 : Int32)  (σ : ab_S), Wire σ → wX1_read_j55 a0 Q E x2 σ → V l mdX1_read B 612 12143 0 0 (ab_End (fun v σ' => Wire σ' ∧ ∃ r : Int32, v = some (.int r) ∧ Q r σ') (fun X σ' => Wire σ' ∧ E X σ')) 55 [(0, .ref 7), (2, .int x2)] [] σ := by
    intro x2  σ hW h
    refine V_iload_n 28 1 rfl rfl rfl ?_
    refine V_if_eq 29 (tgt := 70) rfl (by decide) (fun hc => ?_) (fun hc => ?_)
    · replace h := h.1 hc
      refine V_sub [0] (lv' := [(0, .ref 7)]) rfl ?_
      exact k_j70 σ hW h
    · replace h := h.2 hc
      refine V_pc 59 rfl ?_
      refine V_aload_n 30 0 rfl rfl rfl ?_
      refine V_callV 31 0 (as := []) (rest := []) rfl mlX1_37 yvX1_readProduction rfl rfl clX1 (wsh hW rfl) (by decide) (by decide) (Nat.le_of_ble_eq_true rfl) (by decide) (by decide) (fun B9 => ceX1_readProduction hl B9 hW h) (fun X9 τ9 h9 => VX_out rfl h9) ?_
      rintro v9 σ4 ⟨hW, u5, rfl, h⟩
      refine V_if_eq 32 (tgt := 70) rfl (by decide) (fun hc => ?_) (fun hc => ?_)
      · replace h := h.1 hc
        refine V_sub [0] (lv' := [(0, .ref 7)]) rfl ?_
        exact k_j70 σ4 hW h
      · replace h := h.2 hc
        refine V_pc 66 rfl ?_
        refine V_iconst 33 (v := (1 : Int32)) rfl (by decide) ?_
        refine V_goto 34 (tgt := 71) rfl (by decide) ?_
        refine V_sub [0] (lv' := [(0, .ref 7)]) rfl ?_
        exact k_j71 (1 : Int32) σ4 hW h
  have k_l23 : ∀ (n : Nat) (x2 : Int32) (x3 : Int32)  (σ : ab_S), Wire σ → wX1_read_l23 a0 Q E (wX1_read_j55 a0 Q E) n x2 x3 σ → V l mdX1_read B 612 12143 0 0 (ab_End (fun v σ' => Wire σ' ∧ ∃ r : Int32, v = some (.int r) ∧ Q r σ') (fun X σ' => Wire σ' ∧ E X σ')) 23 [(0, .ref 7), (2, .int x2), (3, .int x3)] [] σ := by
    have step : ∀ (K55 : Int32 → ab_S → Prop) (k_K55 : ∀ (x2 : Int32)  (σ : ab_S), Wire σ → K55 x2 σ → V l mdX1_read B 612 12143 0 0 (ab_End (fun v σ' => Wire σ' ∧ ∃ r : Int32, v = some (.int r) ∧ Q r σ') (fun X σ' => Wire σ' ∧ E X σ')) 55 [(0, .ref 7), (2, .int x2)] [] σ), ∀ (Bk : Int32 → Int32 → ab_S → Prop) (k_Bk : ∀ (x2 : Int32) (x3 : Int32)  (σ : ab_S), Wire σ → Bk x2 x3 σ → V l mdX1_read B 612 12143 0 0 (ab_End (fun v σ' => Wire σ' ∧ ∃ r : Int32, v = some (.int r) ∧ Q r σ') (fun X σ' => Wire σ' ∧ E X σ')) 23 [(0, .ref 7), (2, .int x2), (3, .int x3)] [] σ), ∀ (x2 : Int32) (x3 : Int32)  (σ : ab_S), Wire σ → wX1_read_l23_b a0 Q E K55 Bk x2 x3 σ → V l mdX1_read B 612 12143 0 0 (ab_End (fun v σ' => Wire σ' ∧ ∃ r : Int32, v = some (.int r) ∧ Q r σ') (fun X σ' => Wire σ' ∧ E X σ')) 23 [(0, .ref 7), (2, .int x2), (3, .int x3)] [] σ := by
      intro K55 k_K55 Bk k_Bk
      intro x2 x3  σ hW h
      refine V_iload_n 13 1 rfl rfl rfl ?_
      refine V_if_eq 14 (tgt := 55) rfl (by decide) (fun hc => ?_) (fun hc => ?_)
      · replace h := h.1 hc
        refine V_sub [0, 1] (lv' := [(0, .ref 7), (2, .int x2)]) rfl ?_
        exact k_K55 x2  σ hW h
      · replace h := h.2 hc
        refine V_pc 27 rfl ?_
        refine V_iload_n 15 2 rfl rfl rfl ?_
        refine V_bipush 16 (v := (12 : Int32)) rfl (by decide) ?_
        refine V_icmp_ge 17 (tgt := 55) rfl (by decide) (fun hc => ?_) (fun hc => ?_)
        · replace h := h.1 hc
          refine V_sub [0, 1] (lv' := [(0, .ref 7), (2, .int x2)]) rfl ?_
          exact k_K55 x2  σ hW h
        · replace h := h.2 hc
          refine V_pc 33 rfl ?_
          refine V_aload_n 18 0 rfl rfl rfl ?_
          refine V_getR 19 0 rfl clX1 flX1_9 (by decide) (wsh hW rfl) (fun _ => rfl) (wrf hW 16 rfl) ?_
          refine V_get (v := .int (σ.2.1 3 6)) 20 6 rfl clX6 flX1_33 (by decide) (wsh hW rfl) (fun _ => rfl) ?_
          refine V_iconst 21 (v := (4 : Int32)) rfl (by decide) ?_
          refine V_icmp_ne 22 (tgt := 55) rfl (by decide) (fun hc => ?_) (fun hc => ?_)
          · replace h := h.1 hc
            refine V_sub [0, 1] (lv' := [(0, .ref 7), (2, .int x2)]) rfl ?_
            exact k_K55 x2  σ hW h
          · replace h := h.2 hc
            refine V_pc 44 rfl ?_
            refine V_aload_n 23 0 rfl rfl rfl ?_
            refine V_callV 24 0 (as := []) (rest := []) rfl mlX1_29 yvX1_readSymbol rfl rfl clX1 (wsh hW rfl) (by decide) (by decide) (Nat.le_of_ble_eq_true rfl) (by decide) (by decide) (fun B9 => ceX1_readSymbol hl B9 hW h) (fun X9 τ9 h9 => VX_out rfl h9) ?_
            rintro v9 σ6 ⟨hW, u7, rfl, h⟩
            refine V_istore_n 25 (lv' := [(2, .int u7), (0, .ref 7), (3, .int x3)]) rfl rfl (by decide) rfl ?_
            obtain ⟨v8, ev8⟩ : ∃ z : Int32, z = (x3 + 1) := ⟨_, rfl⟩
            replace h := h v8 ev8
            refine V_iinc 26 2 (v := v8) (lv' := [(3, .int v8), (2, .int u7), (0, .ref 7)]) rfl rfl ((in_1 _).trans ev8.symm) (by decide) rfl ?_
            refine V_goto 27 (tgt := 23) rfl (by decide) ?_
            refine V_sub [2, 1, 0] (lv' := [(0, .ref 7), (2, .int u7), (3, .int v8)]) rfl ?_
            exact k_Bk u7 v8  σ6 hW h
    intro n
    induction n with
    | zero => intro x2 x3  σ hW h; exact absurd h id
    | succ n ih => exact step _ k_j55 _ ih
  intro σ hW h
  refine V_aload_n 0 0 rfl rfl rfl ?_
  refine V_aload_n 1 1 rfl rfl rfl ?_
  refine V_putR (x := some a0) 2 1 rfl clX1 flX1_15 (by decide) (wsh hW rfl) rfl (fun _ _ => rfl) (fun v9 h9 => by rcases h9 with rfl | ⟨a9, rfl⟩ <;> exact ⟨rfl, rfl⟩) ?_
  refine V_nm (fun σ9 eσ9 => ?_)
  replace h := h σ9 eσ9
  have hW := wire_R eσ9 (by decide +kernel) hW
  refine V_aload_n 3 1 rfl rfl rfl ?_
  refine V_callV 4 0 (as := []) (rest := []) rfl mlX1_19 yvX0_clear rfl rfl clX0 (wG hW ha0) (by decide) (by decide) (Nat.le_of_ble_eq_true rfl) (by decide) (by decide) (fun B9 => ceX0_clear hl B9 ha0 hW h) (fun X9 τ9 h9 => VX_out rfl h9) ?_
  rintro v9 σ10 ⟨hW, rfl, h⟩
  refine V_aload_n 5 0 rfl rfl rfl ?_
  refine V_getR 6 0 rfl clX1 flX1_9 (by decide) (wsh hW rfl) (fun _ => rfl) (wrf hW 16 rfl) ?_
  refine V_callV 7 0 (as := []) (rest := []) rfl mlX1_24 yvX6_open rfl rfl clX6 (wsh hW rfl) (by decide) (by decide) (Nat.le_of_ble_eq_true rfl) (by decide) (by decide) (fun B9 => ceX6_open hl B9 hW h) (fun X9 τ9 h9 => VX_out rfl h9) ?_
  rintro v9 σ11 ⟨hW, rfl, h⟩
  refine V_aload_n 8 0 rfl rfl rfl ?_
  refine V_callV 9 0 (as := []) (rest := []) rfl mlX1_29 yvX1_readSymbol rfl rfl clX1 (wsh hW rfl) (by decide) (by decide) (Nat.le_of_ble_eq_true rfl) (by decide) (by decide) (fun B9 => ceX1_readSymbol hl B9 hW h) (fun X9 τ9 h9 => VX_out rfl h9) ?_
  rintro v9 σ12 ⟨hW, u13, rfl, h⟩
  refine V_istore_n 10 (lv' := [(2, .int u13), (0, .ref 7), (1, .ref a0)]) rfl rfl (by decide) rfl ?_
  refine V_iconst 11 (v := (1 : Int32)) rfl (by decide) ?_
  refine V_istore_n 12 (lv' := [(3, .int (1 : Int32)), (2, .int u13), (0, .ref 7), (1, .ref a0)]) rfl rfl (by decide) rfl ?_
  refine V_sub [2, 1, 0] (lv' := [(0, .ref 7), (2, .int u13), (3, .int (1 : Int32))]) rfl ?_
  obtain ⟨n, h⟩ := h
  exact k_l23 n u13 (1 : Int32) σ12 hW h

def wX11_grammar  (Q : Int32 → ab_S → Prop) (E : String → ab_S → Prop) (σ : ab_S) : Prop := ∃ q1, σ.2.2.2 0 12 = some q1 ∧ isG q1 ∧ (wX1_read q1 (fun u3 σ2 => ((u3 = (-1 : Int32)) → wX3_induce q1 (fun σ4 => wX3_firstCircular q1 (fun u6 σ5 => ((u6 = (-1 : Int32)) → wX3_setLevels q1 (fun σ7 => wX3_firstCrossed q1 (fun u9 σ8 => ((u9 = (-1 : Int32)) → wX11_takeGrammar q1 (fun σ10 => Q (-1 : Int32) σ10) E σ8) ∧ (¬ (u9 = (-1 : Int32)) → Q ((3000 : Int32) + u9) σ8)) E σ7) E σ5) ∧ (¬ (u6 = (-1 : Int32)) → Q ((2000 : Int32) + u6) σ5)) E σ4) E σ2) ∧ (¬ (u3 = (-1 : Int32)) → Q u3 σ2)) E σ)
set_option maxHeartbeats 4000000 in
set_option maxRecDepth 100000 in
theorem ceX11_grammar {l : Launch} (hl : l.stackTraces = false) (B : Nat)   {Q : Int32 → ab_S → Prop} {E : String → ab_S → Prop} {σ : ab_S} (hW : Wire σ) (h : wX11_grammar  Q E σ) : ab_Mt l yX11_grammar mdX11_grammar B 613 12166 0 0 [.ref 0] σ (fun v σ' => Wire σ' ∧ ∃ r : Int32, v = some (.int r) ∧ Q r σ') (fun X σ' => Wire σ' ∧ E X σ') := by
  refine V_met hl ⟨rfl, rfl, by decide⟩ rfl dkX11_grammar (Nat.le_of_ble_eq_true rfl) ?_
  show V l mdX11_grammar B 613 12166 0 0 (ab_End _ _) 0 [(0, .ref 0)] [] σ
  refine V_aload_n 0 0 rfl rfl rfl ?_
  obtain ⟨q1, eq1, hq1, h⟩ := h
  refine V_getR 1 12 rfl clX11 flX11_98 (by decide) (wsh hW rfl) (fun _ => rfl) eq1 ?_
  refine V_astore_n 2 (lv' := [(1, .ref q1), (0, .ref 0)]) rfl rfl (by decide) rfl ?_
  refine V_aload_n 3 1 rfl rfl rfl ?_
  refine V_getR 4 1 rfl clX11 flX11_28 (by decide) (wsh hW rfl) (fun _ => rfl) (wrf hW 1 rfl) ?_
  refine V_aload_n 5 0 rfl rfl rfl ?_
  refine V_pc 10 rfl ?_
  refine V_callV 6 1 (as := [.ref q1]) (rest := []) rfl mlX11_129 yvX1_read rfl rfl clX1 (wsh hW rfl) (by decide) (by decide) (Nat.le_of_ble_eq_true rfl) (by decide) (by decide) (fun B9 => ceX1_read hl B9 hq1 hW h) (fun X9 τ9 h9 => VX_out rfl h9) ?_
  rintro v9 σ2 ⟨hW, u3, rfl, h⟩
  refine V_istore_n 7 (lv' := [(2, .int u3), (1, .ref q1), (0, .ref 0)]) rfl rfl (by decide) rfl ?_
  refine V_iload_n 8 0 rfl rfl rfl ?_
  refine V_iconst 9 (v := (-1 : Int32)) rfl (by decide) ?_
  refine V_icmp_eq 10 (tgt := 21) rfl (by decide) (fun hc => ?_) (fun hc => ?_)
  · replace h := h.1 hc
    refine V_aload_n 13 2 rfl rfl rfl ?_
    refine V_getR 14 3 rfl clX11 flX11_42 (by decide) (wsh hW rfl) (fun _ => rfl) (wrf hW 3 rfl) ?_
    refine V_aload_n 15 1 rfl rfl rfl ?_
    refine V_callV 16 1 (as := [.ref q1]) (rest := []) rfl mlX11_133 yvX3_induce rfl rfl clX3 (wsh hW rfl) (by decide) (by decide) (Nat.le_of_ble_eq_true rfl) (by decide) (by decide) (fun B9 => ceX3_induce hl B9 hq1 hW h) (fun X9 τ9 h9 => VX_out rfl h9) ?_
    rintro v9 σ4 ⟨hW, rfl, h⟩
    refine V_aload_n 17 2 rfl rfl rfl ?_
    refine V_getR 18 3 rfl clX11 flX11_42 (by decide) (wsh hW rfl) (fun _ => rfl) (wrf hW 3 rfl) ?_
    refine V_aload_n 19 1 rfl rfl rfl ?_
    refine V_callV 20 1 (as := [.ref q1]) (rest := []) rfl mlX11_137 yvX3_firstCircular rfl rfl clX3 (wsh hW rfl) (by decide) (by decide) (Nat.le_of_ble_eq_true rfl) (by decide) (by decide) (fun B9 => ceX3_firstCircular hl B9 hq1 hW h) (fun X9 τ9 h9 => VX_out rfl h9) ?_
    rintro v9 σ5 ⟨hW, u6, rfl, h⟩
    refine V_istore_n 21 (lv' := [(3, .int u6), (2, .int u3), (1, .ref q1), (0, .ref 0)]) rfl rfl (by decide) rfl ?_
    refine V_iload_n 22 0 rfl rfl rfl ?_
    refine V_iconst 23 (v := (-1 : Int32)) rfl (by decide) ?_
    refine V_icmp_eq 24 (tgt := 49) rfl (by decide) (fun hc => ?_) (fun hc => ?_)
    · replace h := h.1 hc
      refine V_aload_n 29 3 rfl rfl rfl ?_
      refine V_getR 30 3 rfl clX11 flX11_42 (by decide) (wsh hW rfl) (fun _ => rfl) (wrf hW 3 rfl) ?_
      refine V_aload_n 31 2 rfl rfl rfl ?_
      refine V_callV 32 1 (as := [.ref q1]) (rest := []) rfl mlX11_140 yvX3_setLevels rfl rfl clX3 (wsh hW rfl) (by decide) (by decide) (Nat.le_of_ble_eq_true rfl) (by decide) (by decide) (fun B9 => ceX3_setLevels hl B9 hq1 hW h) (fun X9 τ9 h9 => VX_out rfl h9) ?_
      rintro v9 σ7 ⟨hW, rfl, h⟩
      refine V_aload_n 33 3 rfl rfl rfl ?_
      refine V_getR 34 3 rfl clX11 flX11_42 (by decide) (wsh hW rfl) (fun _ => rfl) (wrf hW 3 rfl) ?_
      refine V_aload_n 35 2 rfl rfl rfl ?_
      refine V_callV 36 1 (as := [.ref q1]) (rest := []) rfl mlX11_143 yvX3_firstCrossed rfl rfl clX3 (wsh hW rfl) (by decide) (by decide) (Nat.le_of_ble_eq_true rfl) (by decide) (by decide) (fun B9 => ceX3_firstCrossed hl B9 hq1 hW h) (fun X9 τ9 h9 => VX_out rfl h9) ?_
      rintro v9 σ8 ⟨hW, u9, rfl, h⟩
      refine V_istore 37 (lv' := [(4, .int u9), (3, .int u6), (2, .int u3), (1, .ref q1), (0, .ref 0)]) rfl (by decide) rfl ?_
      refine V_iload 38 0 rfl rfl ?_
      refine V_iconst 39 (v := (-1 : Int32)) rfl (by decide) ?_
      refine V_icmp_eq 40 (tgt := 80) rfl (by decide) (fun hc => ?_) (fun hc => ?_)
      · replace h := h.1 hc
        refine V_aload_n 45 4 rfl rfl rfl ?_
        refine V_aload_n 46 3 rfl rfl rfl ?_
        refine V_callV 47 1 (as := [.ref q1]) (rest := []) rfl mlX11_146 yvX11_takeGrammar rfl rfl clX11 (wsh hW rfl) (by decide) (by decide) (Nat.le_of_ble_eq_true rfl) (by decide) (by decide) (fun B9 => ceX11_takeGrammar hl B9 hq1 hW h) (fun X9 τ9 h9 => VX_out rfl h9) ?_
        rintro v9 σ10 ⟨hW, rfl, h⟩
        refine V_iconst 48 (v := (-1 : Int32)) rfl (by decide) ?_
        exact V_iret 49 rfl rfl ⟨hW, _, rfl, h⟩
      · replace h := h.2 hc
        refine V_pc 73 rfl ?_
        refine V_sipush 41 (v := (3000 : Int32)) rfl (by decide) ?_
        refine V_iload 42 0 rfl rfl ?_
        refine V_iadd 43 rfl ?_
        exact V_iret 44 rfl rfl ⟨hW, _, rfl, h⟩
    · replace h := h.2 hc
      refine V_pc 43 rfl ?_
      refine V_sipush 25 (v := (2000 : Int32)) rfl (by decide) ?_
      refine V_iload_n 26 0 rfl rfl rfl ?_
      refine V_iadd 27 rfl ?_
      exact V_iret 28 rfl rfl ⟨hW, _, rfl, h⟩
  · replace h := h.2 hc
    refine V_pc 19 rfl ?_
    refine V_iload_n 11 0 rfl rfl rfl ?_
    exact V_iret 12 rfl rfl ⟨hW, _, rfl, h⟩

def wL_put (a1 : Int32) (Q : Int32 → ab_S → Prop) (E : String → ab_S → Prop) (σ : ab_S) : Prop := wX11_put a1 (fun u2 σ1 => vp_in (0 : Int32) 1 ∧ (∀ σ3 : ab_S, σ3 = ab_L σ1 163 (0 : Int32).toNatClampNeg u2.toInt64 → Q (0 : Int32) σ3)) (fun X9 τ9 => (X9 = "java/lang/IllegalArgumentException" ∧ Q (1 : Int32) τ9) ∨ (X9 = "java/lang/UnsupportedOperationException" ∧ Q (2 : Int32) τ9)) σ
set_option maxHeartbeats 4000000 in
set_option maxRecDepth 100000 in
theorem ceL_put {l : Launch} (hl : l.stackTraces = false) (B : Nat) {a1 : Int32}  {Q : Int32 → ab_S → Prop} {E : String → ab_S → Prop} {σ : ab_S} (hW : Wire σ) (h : wL_put a1 Q E σ) : ab_MtH l yL_put mdL_put B 7 124 1 6 [.ref 0, .int a1, .ref 163] σ (fun v σ' => Wire σ' ∧ ∃ r : Int32, v = some (.int r) ∧ Q r σ') (fun X σ' => Wire σ' ∧ E X σ') := by
  refine V_metH hl ⟨rfl, rfl, by decide⟩ dkL_put (Nat.le_of_ble_eq_true rfl) ?_
  show V l mdL_put B 7 124 1 6 (ab_End _ _) 0 [(0, .ref 0), (1, .int a1), (2, .ref 163)] [] σ
  refine V_aload_n 0 2 rfl rfl rfl ?_
  refine V_iconst 1 (v := (0 : Int32)) rfl (by decide) ?_
  refine V_aload_n 2 0 rfl rfl rfl ?_
  refine V_iload_n 3 1 rfl rfl rfl ?_
  refine V_callV 4 1 (as := [.int a1]) (rest := [.int (0 : Int32), .ref 163]) rfl mlL_7 yvX11_put rfl rfl clX11 (wsh hW rfl) (by decide) (by decide) (Nat.le_of_ble_eq_true rfl) (by decide) (by decide) (fun B9 => ceX11_put hl B9 hW h) (fun X9 τ9 h9 => by
      obtain ⟨hW, h⟩ := h9
      rcases h with ⟨rfl, h⟩ | ⟨rfl, h⟩
      · exact VX_ret 0 8 (name := "java/lang/IllegalArgumentException") (i := 3) (v := (1 : Int32)) rfl ⟨by decide, by decide⟩ (by decide) klL_13 ca_IllegalArgument (fun z hz => by
        have hz : z ∈ [] := hz
        exact absurd hz (by simp)) rfl (Or.inr ⟨_, rfl, rfl, rfl⟩) (by decide) rfl rfl (by decide) rfl ⟨hW, _, rfl, h⟩
      · exact VX_ret 1 11 (name := "java/lang/UnsupportedOperationException") (i := 3) (v := (2 : Int32)) rfl ⟨by decide, by decide⟩ (by decide) klL_15 ca_UnsupportedOperation (fun z hz => by
        have hz : z ∈ [(0, 9, 12, 13)] := hz
        rcases List.mem_cons.mp hz with rfl | hz
        · exact ⟨by decide, "java/lang/IllegalArgumentException", klL_13, by decide⟩
        exact absurd hz (by simp)) rfl (Or.inr ⟨_, rfl, rfl, rfl⟩) (by decide) rfl rfl (by decide) rfl ⟨hW, _, rfl, h⟩) ?_
  rintro v9 σ1 ⟨hW, u2, rfl, h⟩
  refine V_i2l 5 rfl ?_
  obtain ⟨hin, h⟩ := h
  refine V_last 6 rfl (wsh hW rfl) hin ?_
  refine V_nm (fun σ3 eσ3 => ?_)
  replace h := h σ3 eσ3
  have hW := wire_L eσ3 hW
  refine V_goto 7 (tgt := 18) rfl (by decide) ?_
  refine V_iconst 14 (v := (0 : Int32)) rfl (by decide) ?_
  exact V_iret 15 rfl rfl ⟨hW, _, rfl, h⟩

def wL_end (a1 : Int32) (Q : Int32 → ab_S → Prop) (E : String → ab_S → Prop) (σ : ab_S) : Prop := wX11_end a1 (fun σ1 => Q (0 : Int32) σ1) (fun X9 τ9 => (X9 = "java/lang/IllegalArgumentException" ∧ Q (1 : Int32) τ9)) σ
set_option maxHeartbeats 4000000 in
set_option maxRecDepth 100000 in
theorem ceL_end {l : Launch} (hl : l.stackTraces = false) (B : Nat) {a1 : Int32}  {Q : Int32 → ab_S → Prop} {E : String → ab_S → Prop} {σ : ab_S} (hW : Wire σ) (h : wL_end a1 Q E σ) : ab_MtH l yL_end mdL_end B 7 121 1 6 [.ref 0, .int a1] σ (fun v σ' => Wire σ' ∧ ∃ r : Int32, v = some (.int r) ∧ Q r σ') (fun X σ' => Wire σ' ∧ E X σ') := by
  refine V_metH hl ⟨rfl, rfl, by decide⟩ dkL_end (Nat.le_of_ble_eq_true rfl) ?_
  show V l mdL_end B 7 121 1 6 (ab_End _ _) 0 [(0, .ref 0), (1, .int a1)] [] σ
  refine V_aload_n 0 0 rfl rfl rfl ?_
  refine V_iload_n 1 1 rfl rfl rfl ?_
  refine V_callV 2 1 (as := [.int a1]) (rest := []) rfl mlL_17 yvX11_end rfl rfl clX11 (wsh hW rfl) (by decide) (by decide) (Nat.le_of_ble_eq_true rfl) (by decide) (by decide) (fun B9 => ceX11_end hl B9 hW h) (fun X9 τ9 h9 => by
      obtain ⟨hW, h⟩ := h9
      rcases h with ⟨rfl, h⟩
      · exact VX_ret 0 4 (name := "java/lang/IllegalArgumentException") (i := 2) (v := (1 : Int32)) rfl ⟨by decide, by decide⟩ (by decide) klL_13 ca_IllegalArgument (fun z hz => by
        have hz : z ∈ [] := hz
        exact absurd hz (by simp)) rfl (Or.inr ⟨_, rfl, rfl, rfl⟩) (by decide) rfl rfl (by decide) rfl ⟨hW, _, rfl, h⟩) ?_
  rintro v9 σ1 ⟨hW, rfl, h⟩
  refine V_goto 3 (tgt := 11) rfl (by decide) ?_
  refine V_iconst 7 (v := (0 : Int32)) rfl (by decide) ?_
  exact V_iret 8 rfl rfl ⟨hW, _, rfl, h⟩

def wL_size (a1 : Int32) (Q : Int32 → ab_S → Prop) (E : String → ab_S → Prop) (σ : ab_S) : Prop := wX11_size a1 (fun u2 σ1 => vp_in (0 : Int32) 1 ∧ (∀ σ3 : ab_S, σ3 = ab_L σ1 163 (0 : Int32).toNatClampNeg u2.toInt64 → Q (0 : Int32) σ3)) (fun X9 τ9 => (X9 = "java/lang/IllegalStateException" ∧ Q (1 : Int32) τ9) ∨ (X9 = "java/lang/IllegalArgumentException" ∧ Q (2 : Int32) τ9)) σ
set_option maxHeartbeats 4000000 in
set_option maxRecDepth 100000 in
theorem ceL_size {l : Launch} (hl : l.stackTraces = false) (B : Nat) {a1 : Int32}  {Q : Int32 → ab_S → Prop} {E : String → ab_S → Prop} {σ : ab_S} (hW : Wire σ) (h : wL_size a1 Q E σ) : ab_MtH l yL_size mdL_size B 8 141 2 12 [.ref 0, .int a1, .ref 163] σ (fun v σ' => Wire σ' ∧ ∃ r : Int32, v = some (.int r) ∧ Q r σ') (fun X σ' => Wire σ' ∧ E X σ') := by
  refine V_metH hl ⟨rfl, rfl, by decide⟩ dkL_size (Nat.le_of_ble_eq_true rfl) ?_
  show V l mdL_size B 8 141 2 12 (ab_End _ _) 0 [(0, .ref 0), (1, .int a1), (2, .ref 163)] [] σ
  refine V_aload_n 0 2 rfl rfl rfl ?_
  refine V_iconst 1 (v := (0 : Int32)) rfl (by decide) ?_
  refine V_aload_n 2 0 rfl rfl rfl ?_
  refine V_iload_n 3 1 rfl rfl rfl ?_
  refine V_callV 4 1 (as := [.int a1]) (rest := [.int (0 : Int32), .ref 163]) rfl mlL_21 yvX11_size rfl rfl clX11 (wsh hW rfl) (by decide) (by decide) (Nat.le_of_ble_eq_true rfl) (by decide) (by decide) (fun B9 => ceX11_size hl B9 hW h) (fun X9 τ9 h9 => by
      obtain ⟨hW, h⟩ := h9
      rcases h with ⟨rfl, h⟩ | ⟨rfl, h⟩
      · exact VX_ret 0 8 (name := "java/lang/IllegalStateException") (i := 3) (v := (1 : Int32)) rfl ⟨by decide, by decide⟩ (by decide) klL_24 ca_IllegalState (fun z hz => by
        have hz : z ∈ [] := hz
        exact absurd hz (by simp)) rfl (Or.inr ⟨_, rfl, rfl, rfl⟩) (by decide) rfl rfl (by decide) rfl ⟨hW, _, rfl, h⟩
      · exact VX_ret 1 11 (name := "java/lang/IllegalArgumentException") (i := 3) (v := (2 : Int32)) rfl ⟨by decide, by decide⟩ (by decide) klL_13 ca_IllegalArgument (fun z hz => by
        have hz : z ∈ [(0, 9, 12, 24)] := hz
        rcases List.mem_cons.mp hz with rfl | hz
        · exact ⟨by decide, "java/lang/IllegalStateException", klL_24, by decide⟩
        exact absurd hz (by simp)) rfl (Or.inr ⟨_, rfl, rfl, rfl⟩) (by decide) rfl rfl (by decide) rfl ⟨hW, _, rfl, h⟩) ?_
  rintro v9 σ1 ⟨hW, u2, rfl, h⟩
  refine V_i2l 5 rfl ?_
  obtain ⟨hin, h⟩ := h
  refine V_last 6 rfl (wsh hW rfl) hin ?_
  refine V_nm (fun σ3 eσ3 => ?_)
  replace h := h σ3 eσ3
  have hW := wire_L eσ3 hW
  refine V_goto 7 (tgt := 18) rfl (by decide) ?_
  refine V_iconst 14 (v := (0 : Int32)) rfl (by decide) ?_
  exact V_iret 15 rfl rfl ⟨hW, _, rfl, h⟩

def wL_depends_j18 (a1 : Int32) (a2 : Int32) (a3 : Int32) (Q : Int32 → ab_S → Prop) (E : String → ab_S → Prop) (y0 : Int64) (y1 : Int32) (σ : ab_S) : Prop := vp_in y1 1 ∧ (∀ σ1 : ab_S, σ1 = ab_L σ 163 y1.toNatClampNeg y0 → Q (0 : Int32) σ1)
def wL_depends (a1 : Int32) (a2 : Int32) (a3 : Int32) (Q : Int32 → ab_S → Prop) (E : String → ab_S → Prop) (σ : ab_S) : Prop := wX11_depends a1 a2 a3 (fun u3 σ2 => ((u3 = 0) → wL_depends_j18 a1 a2 a3 Q E (0 : Int64) (0 : Int32) σ2) ∧ (¬ (u3 = 0) → wL_depends_j18 a1 a2 a3 Q E (1 : Int64) (0 : Int32) σ2)) (fun X9 τ9 => (X9 = "java/lang/IllegalStateException" ∧ Q (1 : Int32) τ9) ∨ (X9 = "java/lang/IllegalArgumentException" ∧ Q (2 : Int32) τ9)) σ
set_option maxHeartbeats 4000000 in
set_option maxRecDepth 100000 in
theorem ceL_depends {l : Launch} (hl : l.stackTraces = false) (B : Nat) {a1 : Int32} {a2 : Int32} {a3 : Int32}  {Q : Int32 → ab_S → Prop} {E : String → ab_S → Prop} {σ : ab_S} (hW : Wire σ) (h : wL_depends a1 a2 a3 Q E σ) : ab_MtH l yL_depends mdL_depends B 9 166 5 30 [.ref 0, .int a1, .int a2, .int a3, .ref 163] σ (fun v σ' => Wire σ' ∧ ∃ r : Int32, v = some (.int r) ∧ Q r σ') (fun X σ' => Wire σ' ∧ E X σ') := by
  refine V_metH hl ⟨rfl, rfl, by decide⟩ dkL_depends (Nat.le_of_ble_eq_true rfl) ?_
  show V l mdL_depends B 9 166 5 30 (ab_End _ _) 0 [(0, .ref 0), (1, .int a1), (2, .int a2), (3, .int a3), (4, .ref 163)] [] σ
  revert h hW
  revert σ
  have k_j18 : ∀ (y0 : Int64) (y1 : Int32)  (σ : ab_S), Wire σ → wL_depends_j18 a1 a2 a3 Q E y0 y1 σ → V l mdL_depends B 9 166 0 0 (ab_End (fun v σ' => Wire σ' ∧ ∃ r : Int32, v = some (.int r) ∧ Q r σ') (fun X σ' => Wire σ' ∧ E X σ')) 18 [] [.long y0, .int y1, .ref 163] σ := by
    intro y0 y1  σ hW h
    obtain ⟨hin, h⟩ := h
    refine V_last 11 rfl (wsh hW rfl) hin ?_
    refine V_nm (fun σ1 eσ1 => ?_)
    replace h := h σ1 eσ1
    have hW := wire_L eσ1 hW
    refine V_goto 12 (tgt := 30) rfl (by decide) ?_
    refine V_iconst 19 (v := (0 : Int32)) rfl (by decide) ?_
    exact V_iret 20 rfl rfl ⟨hW, _, rfl, h⟩
  intro σ hW h
  refine V_aload 0 4 rfl rfl ?_
  refine V_iconst 1 (v := (0 : Int32)) rfl (by decide) ?_
  refine V_aload_n 2 0 rfl rfl rfl ?_
  refine V_iload_n 3 1 rfl rfl rfl ?_
  refine V_iload_n 4 2 rfl rfl rfl ?_
  refine V_iload_n 5 3 rfl rfl rfl ?_
  refine V_pc 7 rfl ?_
  refine V_callV 6 3 (as := [.int a1, .int a2, .int a3]) (rest := [.int (0 : Int32), .ref 163]) rfl mlL_26 yvX11_depends rfl rfl clX11 (wsh hW rfl) (by decide) (by decide) (Nat.le_of_ble_eq_true rfl) (by decide) (by decide) (fun B9 => ceX11_depends hl B9 hW h) (fun X9 τ9 h9 => by
      obtain ⟨hW, h⟩ := h9
      rcases h with ⟨rfl, h⟩ | ⟨rfl, h⟩
      · exact VX_ret 0 13 (name := "java/lang/IllegalStateException") (i := 5) (v := (1 : Int32)) rfl ⟨by decide, by decide⟩ (by decide) klL_24 ca_IllegalState (fun z hz => by
        have hz : z ∈ [] := hz
        exact absurd hz (by simp)) rfl (Or.inl ⟨rfl, rfl⟩) (by decide) rfl rfl (by decide) rfl ⟨hW, _, rfl, h⟩
      · exact VX_ret 1 16 (name := "java/lang/IllegalArgumentException") (i := 5) (v := (2 : Int32)) rfl ⟨by decide, by decide⟩ (by decide) klL_13 ca_IllegalArgument (fun z hz => by
        have hz : z ∈ [(0, 19, 22, 24)] := hz
        rcases List.mem_cons.mp hz with rfl | hz
        · exact ⟨by decide, "java/lang/IllegalStateException", klL_24, by decide⟩
        exact absurd hz (by simp)) rfl (Or.inl ⟨rfl, rfl⟩) (by decide) rfl rfl (by decide) rfl ⟨hW, _, rfl, h⟩) ?_
  rintro v9 σ2 ⟨hW, u3, rfl, h⟩
  refine V_if_eq 7 (tgt := 17) rfl (by decide) (fun hc => ?_) (fun hc => ?_)
  · replace h := h.1 hc
    refine V_lconst 10 (v := (0 : Int64)) rfl (by decide) ?_
    refine V_sub [] (lv' := []) rfl ?_
    exact k_j18 (0 : Int64) (0 : Int32) σ2 hW h
  · replace h := h.2 hc
    refine V_pc 13 rfl ?_
    refine V_lconst 8 (v := (1 : Int64)) rfl (by decide) ?_
    refine V_goto 9 (tgt := 18) rfl (by decide) ?_
    refine V_sub [] (lv' := []) rfl ?_
    exact k_j18 (1 : Int64) (0 : Int32) σ2 hW h

def wL_level (a1 : Int32) (a2 : Int32) (Q : Int32 → ab_S → Prop) (E : String → ab_S → Prop) (σ : ab_S) : Prop := wX11_level a1 a2 (fun u2 σ1 => vp_in (0 : Int32) 1 ∧ (∀ σ3 : ab_S, σ3 = ab_L σ1 163 (0 : Int32).toNatClampNeg u2.toInt64 → Q (0 : Int32) σ3)) (fun X9 τ9 => (X9 = "java/lang/IllegalStateException" ∧ Q (1 : Int32) τ9) ∨ (X9 = "java/lang/IllegalArgumentException" ∧ Q (2 : Int32) τ9)) σ
set_option maxHeartbeats 4000000 in
set_option maxRecDepth 100000 in
theorem ceL_level {l : Launch} (hl : l.stackTraces = false) (B : Nat) {a1 : Int32} {a2 : Int32}  {Q : Int32 → ab_S → Prop} {E : String → ab_S → Prop} {σ : ab_S} (hW : Wire σ) (h : wL_level a1 a2 Q E σ) : ab_MtH l yL_level mdL_level B 9 165 4 24 [.ref 0, .int a1, .int a2, .ref 163] σ (fun v σ' => Wire σ' ∧ ∃ r : Int32, v = some (.int r) ∧ Q r σ') (fun X σ' => Wire σ' ∧ E X σ') := by
  refine V_metH hl ⟨rfl, rfl, by decide⟩ dkL_level (Nat.le_of_ble_eq_true rfl) ?_
  show V l mdL_level B 9 165 4 24 (ab_End _ _) 0 [(0, .ref 0), (1, .int a1), (2, .int a2), (3, .ref 163)] [] σ
  refine V_aload_n 0 3 rfl rfl rfl ?_
  refine V_iconst 1 (v := (0 : Int32)) rfl (by decide) ?_
  refine V_aload_n 2 0 rfl rfl rfl ?_
  refine V_iload_n 3 1 rfl rfl rfl ?_
  refine V_iload_n 4 2 rfl rfl rfl ?_
  refine V_callV 5 2 (as := [.int a1, .int a2]) (rest := [.int (0 : Int32), .ref 163]) rfl mlL_30 yvX11_level rfl rfl clX11 (wsh hW rfl) (by decide) (by decide) (Nat.le_of_ble_eq_true rfl) (by decide) (by decide) (fun B9 => ceX11_level hl B9 hW h) (fun X9 τ9 h9 => by
      obtain ⟨hW, h⟩ := h9
      rcases h with ⟨rfl, h⟩ | ⟨rfl, h⟩
      · exact VX_ret 0 9 (name := "java/lang/IllegalStateException") (i := 4) (v := (1 : Int32)) rfl ⟨by decide, by decide⟩ (by decide) klL_24 ca_IllegalState (fun z hz => by
        have hz : z ∈ [] := hz
        exact absurd hz (by simp)) rfl (Or.inl ⟨rfl, rfl⟩) (by decide) rfl rfl (by decide) rfl ⟨hW, _, rfl, h⟩
      · exact VX_ret 1 12 (name := "java/lang/IllegalArgumentException") (i := 4) (v := (2 : Int32)) rfl ⟨by decide, by decide⟩ (by decide) klL_13 ca_IllegalArgument (fun z hz => by
        have hz : z ∈ [(0, 10, 13, 24)] := hz
        rcases List.mem_cons.mp hz with rfl | hz
        · exact ⟨by decide, "java/lang/IllegalStateException", klL_24, by decide⟩
        exact absurd hz (by simp)) rfl (Or.inl ⟨rfl, rfl⟩) (by decide) rfl rfl (by decide) rfl ⟨hW, _, rfl, h⟩) ?_
  rintro v9 σ1 ⟨hW, u2, rfl, h⟩
  refine V_i2l 6 rfl ?_
  obtain ⟨hin, h⟩ := h
  refine V_last 7 rfl (wsh hW rfl) hin ?_
  refine V_nm (fun σ3 eσ3 => ?_)
  replace h := h σ3 eσ3
  have hW := wire_L eσ3 hW
  refine V_goto 8 (tgt := 21) rfl (by decide) ?_
  refine V_iconst 15 (v := (0 : Int32)) rfl (by decide) ?_
  exact V_iret 16 rfl rfl ⟨hW, _, rfl, h⟩

def wL_plan (a1 : Int32) (a2 : Int32) (a3 : Int32) (Q : Int32 → ab_S → Prop) (E : String → ab_S → Prop) (σ : ab_S) : Prop := wX11_plan a1 a2 a3 (fun u2 σ1 => vp_in (0 : Int32) 1 ∧ (∀ σ3 : ab_S, σ3 = ab_L σ1 163 (0 : Int32).toNatClampNeg u2.toInt64 → Q (0 : Int32) σ3)) (fun X9 τ9 => (X9 = "java/lang/IllegalStateException" ∧ Q (1 : Int32) τ9) ∨ (X9 = "java/lang/IllegalArgumentException" ∧ Q (2 : Int32) τ9)) σ
set_option maxHeartbeats 4000000 in
set_option maxRecDepth 100000 in
theorem ceL_plan {l : Launch} (hl : l.stackTraces = false) (B : Nat) {a1 : Int32} {a2 : Int32} {a3 : Int32}  {Q : Int32 → ab_S → Prop} {E : String → ab_S → Prop} {σ : ab_S} (hW : Wire σ) (h : wL_plan a1 a2 a3 Q E σ) : ab_MtH l yL_plan mdL_plan B 10 189 4 24 [.ref 0, .int a1, .int a2, .int a3, .ref 163] σ (fun v σ' => Wire σ' ∧ ∃ r : Int32, v = some (.int r) ∧ Q r σ') (fun X σ' => Wire σ' ∧ E X σ') := by
  refine V_metH hl ⟨rfl, rfl, by decide⟩ dkL_plan (Nat.le_of_ble_eq_true rfl) ?_
  show V l mdL_plan B 10 189 4 24 (ab_End _ _) 0 [(0, .ref 0), (1, .int a1), (2, .int a2), (3, .int a3), (4, .ref 163)] [] σ
  refine V_aload 0 4 rfl rfl ?_
  refine V_iconst 1 (v := (0 : Int32)) rfl (by decide) ?_
  refine V_aload_n 2 0 rfl rfl rfl ?_
  refine V_iload_n 3 1 rfl rfl rfl ?_
  refine V_iload_n 4 2 rfl rfl rfl ?_
  refine V_iload_n 5 3 rfl rfl rfl ?_
  refine V_pc 7 rfl ?_
  refine V_callV 6 3 (as := [.int a1, .int a2, .int a3]) (rest := [.int (0 : Int32), .ref 163]) rfl mlL_34 yvX11_plan rfl rfl clX11 (wsh hW rfl) (by decide) (by decide) (Nat.le_of_ble_eq_true rfl) (by decide) (by decide) (fun B9 => ceX11_plan hl B9 hW h) (fun X9 τ9 h9 => by
      obtain ⟨hW, h⟩ := h9
      rcases h with ⟨rfl, h⟩ | ⟨rfl, h⟩
      · exact VX_ret 0 10 (name := "java/lang/IllegalStateException") (i := 5) (v := (1 : Int32)) rfl ⟨by decide, by decide⟩ (by decide) klL_24 ca_IllegalState (fun z hz => by
        have hz : z ∈ [] := hz
        exact absurd hz (by simp)) rfl (Or.inl ⟨rfl, rfl⟩) (by decide) rfl rfl (by decide) rfl ⟨hW, _, rfl, h⟩
      · exact VX_ret 1 13 (name := "java/lang/IllegalArgumentException") (i := 5) (v := (2 : Int32)) rfl ⟨by decide, by decide⟩ (by decide) klL_13 ca_IllegalArgument (fun z hz => by
        have hz : z ∈ [(0, 12, 15, 24)] := hz
        rcases List.mem_cons.mp hz with rfl | hz
        · exact ⟨by decide, "java/lang/IllegalStateException", klL_24, by decide⟩
        exact absurd hz (by simp)) rfl (Or.inl ⟨rfl, rfl⟩) (by decide) rfl rfl (by decide) rfl ⟨hW, _, rfl, h⟩) ?_
  rintro v9 σ1 ⟨hW, u2, rfl, h⟩
  refine V_i2l 7 rfl ?_
  obtain ⟨hin, h⟩ := h
  refine V_last 8 rfl (wsh hW rfl) hin ?_
  refine V_nm (fun σ3 eσ3 => ?_)
  replace h := h σ3 eσ3
  have hW := wire_L eσ3 hW
  refine V_goto 9 (tgt := 23) rfl (by decide) ?_
  refine V_iconst 16 (v := (0 : Int32)) rfl (by decide) ?_
  exact V_iret 17 rfl rfl ⟨hW, _, rfl, h⟩

def wL_store (a1 : Int32) (a2 : Int32) (Q : Int32 → ab_S → Prop) (E : String → ab_S → Prop) (σ : ab_S) : Prop := wX11_store a1 a2 (fun u2 σ1 => vp_in (0 : Int32) 1 ∧ (∀ σ3 : ab_S, σ3 = ab_L σ1 163 (0 : Int32).toNatClampNeg u2.toInt64 → Q (0 : Int32) σ3)) (fun X9 τ9 => (X9 = "java/lang/IllegalStateException" ∧ Q (1 : Int32) τ9) ∨ (X9 = "java/lang/IllegalArgumentException" ∧ Q (2 : Int32) τ9)) σ
set_option maxHeartbeats 4000000 in
set_option maxRecDepth 100000 in
theorem ceL_store {l : Launch} (hl : l.stackTraces = false) (B : Nat) {a1 : Int32} {a2 : Int32}  {Q : Int32 → ab_S → Prop} {E : String → ab_S → Prop} {σ : ab_S} (hW : Wire σ) (h : wL_store a1 a2 Q E σ) : ab_MtH l yL_store mdL_store B 9 165 3 18 [.ref 0, .int a1, .int a2, .ref 163] σ (fun v σ' => Wire σ' ∧ ∃ r : Int32, v = some (.int r) ∧ Q r σ') (fun X σ' => Wire σ' ∧ E X σ') := by
  refine V_metH hl ⟨rfl, rfl, by decide⟩ dkL_store (Nat.le_of_ble_eq_true rfl) ?_
  show V l mdL_store B 9 165 3 18 (ab_End _ _) 0 [(0, .ref 0), (1, .int a1), (2, .int a2), (3, .ref 163)] [] σ
  refine V_aload_n 0 3 rfl rfl rfl ?_
  refine V_iconst 1 (v := (0 : Int32)) rfl (by decide) ?_
  refine V_aload_n 2 0 rfl rfl rfl ?_
  refine V_iload_n 3 1 rfl rfl rfl ?_
  refine V_iload_n 4 2 rfl rfl rfl ?_
  refine V_callV 5 2 (as := [.int a1, .int a2]) (rest := [.int (0 : Int32), .ref 163]) rfl mlL_38 yvX11_store rfl rfl clX11 (wsh hW rfl) (by decide) (by decide) (Nat.le_of_ble_eq_true rfl) (by decide) (by decide) (fun B9 => ceX11_store hl B9 hW h) (fun X9 τ9 h9 => by
      obtain ⟨hW, h⟩ := h9
      rcases h with ⟨rfl, h⟩ | ⟨rfl, h⟩
      · exact VX_ret 0 9 (name := "java/lang/IllegalStateException") (i := 4) (v := (1 : Int32)) rfl ⟨by decide, by decide⟩ (by decide) klL_24 ca_IllegalState (fun z hz => by
        have hz : z ∈ [] := hz
        exact absurd hz (by simp)) rfl (Or.inl ⟨rfl, rfl⟩) (by decide) rfl rfl (by decide) rfl ⟨hW, _, rfl, h⟩
      · exact VX_ret 1 12 (name := "java/lang/IllegalArgumentException") (i := 4) (v := (2 : Int32)) rfl ⟨by decide, by decide⟩ (by decide) klL_13 ca_IllegalArgument (fun z hz => by
        have hz : z ∈ [(0, 10, 13, 24)] := hz
        rcases List.mem_cons.mp hz with rfl | hz
        · exact ⟨by decide, "java/lang/IllegalStateException", klL_24, by decide⟩
        exact absurd hz (by simp)) rfl (Or.inl ⟨rfl, rfl⟩) (by decide) rfl rfl (by decide) rfl ⟨hW, _, rfl, h⟩) ?_
  rintro v9 σ1 ⟨hW, u2, rfl, h⟩
  refine V_i2l 6 rfl ?_
  obtain ⟨hin, h⟩ := h
  refine V_last 7 rfl (wsh hW rfl) hin ?_
  refine V_nm (fun σ3 eσ3 => ?_)
  replace h := h σ3 eσ3
  have hW := wire_L eσ3 hW
  refine V_goto 8 (tgt := 21) rfl (by decide) ?_
  refine V_iconst 15 (v := (0 : Int32)) rfl (by decide) ?_
  exact V_iret 16 rfl rfl ⟨hW, _, rfl, h⟩

def wL_tree  (Q : Int32 → ab_S → Prop) (E : String → ab_S → Prop) (σ : ab_S) : Prop := wX11_tree (fun u2 σ1 => vp_in (0 : Int32) 1 ∧ (∀ σ3 : ab_S, σ3 = ab_L σ1 163 (0 : Int32).toNatClampNeg u2.toInt64 → Q (0 : Int32) σ3)) (fun X9 τ9 => (X9 = "java/lang/IllegalStateException" ∧ Q (1 : Int32) τ9)) σ
set_option maxHeartbeats 4000000 in
set_option maxRecDepth 100000 in
theorem ceL_tree {l : Launch} (hl : l.stackTraces = false) (B : Nat)   {Q : Int32 → ab_S → Prop} {E : String → ab_S → Prop} {σ : ab_S} (hW : Wire σ) (h : wL_tree  Q E σ) : ab_MtH l yL_tree mdL_tree B 11 243 1 6 [.ref 0, .ref 163] σ (fun v σ' => Wire σ' ∧ ∃ r : Int32, v = some (.int r) ∧ Q r σ') (fun X σ' => Wire σ' ∧ E X σ') := by
  refine V_metH hl ⟨rfl, rfl, by decide⟩ dkL_tree (Nat.le_of_ble_eq_true rfl) ?_
  show V l mdL_tree B 11 243 1 6 (ab_End _ _) 0 [(0, .ref 0), (1, .ref 163)] [] σ
  refine V_aload_n 0 1 rfl rfl rfl ?_
  refine V_iconst 1 (v := (0 : Int32)) rfl (by decide) ?_
  refine V_aload_n 2 0 rfl rfl rfl ?_
  refine V_callV 3 0 (as := []) (rest := [.int (0 : Int32), .ref 163]) rfl mlL_41 yvX11_tree rfl rfl clX11 (wsh hW rfl) (by decide) (by decide) (Nat.le_of_ble_eq_true rfl) (by decide) (by decide) (fun B9 => ceX11_tree hl B9 hW h) (fun X9 τ9 h9 => by
      obtain ⟨hW, h⟩ := h9
      rcases h with ⟨rfl, h⟩
      · exact VX_ret 0 7 (name := "java/lang/IllegalStateException") (i := 2) (v := (1 : Int32)) rfl ⟨by decide, by decide⟩ (by decide) klL_24 ca_IllegalState (fun z hz => by
        have hz : z ∈ [] := hz
        exact absurd hz (by simp)) rfl (Or.inr ⟨_, rfl, rfl, rfl⟩) (by decide) rfl rfl (by decide) rfl ⟨hW, _, rfl, h⟩) ?_
  rintro v9 σ1 ⟨hW, u2, rfl, h⟩
  refine V_i2l 4 rfl ?_
  obtain ⟨hin, h⟩ := h
  refine V_last 5 rfl (wsh hW rfl) hin ?_
  refine V_nm (fun σ3 eσ3 => ?_)
  replace h := h σ3 eσ3
  have hW := wire_L eσ3 hW
  refine V_goto 6 (tgt := 14) rfl (by decide) ?_
  refine V_iconst 10 (v := (0 : Int32)) rfl (by decide) ?_
  exact V_iret 11 rfl rfl ⟨hW, _, rfl, h⟩

def wL_count (a1 : Int32) (Q : Int32 → ab_S → Prop) (E : String → ab_S → Prop) (σ : ab_S) : Prop := wX11_count a1 (fun u2 σ1 => vp_in (0 : Int32) 1 ∧ (∀ σ3 : ab_S, σ3 = ab_L σ1 163 (0 : Int32).toNatClampNeg u2.toInt64 → Q (0 : Int32) σ3)) (fun X9 τ9 => (X9 = "java/lang/IllegalStateException" ∧ Q (1 : Int32) τ9) ∨ (X9 = "java/lang/IllegalArgumentException" ∧ Q (2 : Int32) τ9)) σ
set_option maxHeartbeats 4000000 in
set_option maxRecDepth 100000 in
theorem ceL_count {l : Launch} (hl : l.stackTraces = false) (B : Nat) {a1 : Int32}  {Q : Int32 → ab_S → Prop} {E : String → ab_S → Prop} {σ : ab_S} (hW : Wire σ) (h : wL_count a1 Q E σ) : ab_MtH l yL_count mdL_count B 8 141 2 12 [.ref 0, .int a1, .ref 163] σ (fun v σ' => Wire σ' ∧ ∃ r : Int32, v = some (.int r) ∧ Q r σ') (fun X σ' => Wire σ' ∧ E X σ') := by
  refine V_metH hl ⟨rfl, rfl, by decide⟩ dkL_count (Nat.le_of_ble_eq_true rfl) ?_
  show V l mdL_count B 8 141 2 12 (ab_End _ _) 0 [(0, .ref 0), (1, .int a1), (2, .ref 163)] [] σ
  refine V_aload_n 0 2 rfl rfl rfl ?_
  refine V_iconst 1 (v := (0 : Int32)) rfl (by decide) ?_
  refine V_aload_n 2 0 rfl rfl rfl ?_
  refine V_iload_n 3 1 rfl rfl rfl ?_
  refine V_callV 4 1 (as := [.int a1]) (rest := [.int (0 : Int32), .ref 163]) rfl mlL_45 yvX11_count rfl rfl clX11 (wsh hW rfl) (by decide) (by decide) (Nat.le_of_ble_eq_true rfl) (by decide) (by decide) (fun B9 => ceX11_count hl B9 hW h) (fun X9 τ9 h9 => by
      obtain ⟨hW, h⟩ := h9
      rcases h with ⟨rfl, h⟩ | ⟨rfl, h⟩
      · exact VX_ret 0 8 (name := "java/lang/IllegalStateException") (i := 3) (v := (1 : Int32)) rfl ⟨by decide, by decide⟩ (by decide) klL_24 ca_IllegalState (fun z hz => by
        have hz : z ∈ [] := hz
        exact absurd hz (by simp)) rfl (Or.inr ⟨_, rfl, rfl, rfl⟩) (by decide) rfl rfl (by decide) rfl ⟨hW, _, rfl, h⟩
      · exact VX_ret 1 11 (name := "java/lang/IllegalArgumentException") (i := 3) (v := (2 : Int32)) rfl ⟨by decide, by decide⟩ (by decide) klL_13 ca_IllegalArgument (fun z hz => by
        have hz : z ∈ [(0, 9, 12, 24)] := hz
        rcases List.mem_cons.mp hz with rfl | hz
        · exact ⟨by decide, "java/lang/IllegalStateException", klL_24, by decide⟩
        exact absurd hz (by simp)) rfl (Or.inr ⟨_, rfl, rfl, rfl⟩) (by decide) rfl rfl (by decide) rfl ⟨hW, _, rfl, h⟩) ?_
  rintro v9 σ1 ⟨hW, u2, rfl, h⟩
  refine V_i2l 5 rfl ?_
  obtain ⟨hin, h⟩ := h
  refine V_last 6 rfl (wsh hW rfl) hin ?_
  refine V_nm (fun σ3 eσ3 => ?_)
  replace h := h σ3 eσ3
  have hW := wire_L eσ3 hW
  refine V_goto 7 (tgt := 18) rfl (by decide) ?_
  refine V_iconst 14 (v := (0 : Int32)) rfl (by decide) ?_
  exact V_iret 15 rfl rfl ⟨hW, _, rfl, h⟩

def wL_node (a1 : Int32) (a2 : Int32) (Q : Int32 → ab_S → Prop) (E : String → ab_S → Prop) (σ : ab_S) : Prop := wX11_node a1 a2 (fun u2 σ1 => vp_in (0 : Int32) 1 ∧ (∀ σ3 : ab_S, σ3 = ab_L σ1 163 (0 : Int32).toNatClampNeg u2.toInt64 → Q (0 : Int32) σ3)) (fun X9 τ9 => (X9 = "java/lang/IllegalStateException" ∧ Q (1 : Int32) τ9) ∨ (X9 = "java/lang/IndexOutOfBoundsException" ∧ Q (2 : Int32) τ9) ∨ (X9 = "java/lang/IllegalArgumentException" ∧ Q (3 : Int32) τ9)) σ
set_option maxHeartbeats 4000000 in
set_option maxRecDepth 100000 in
theorem ceL_node {l : Launch} (hl : l.stackTraces = false) (B : Nat) {a1 : Int32} {a2 : Int32}  {Q : Int32 → ab_S → Prop} {E : String → ab_S → Prop} {σ : ab_S} (hW : Wire σ) (h : wL_node a1 a2 Q E σ) : ab_MtH l yL_node mdL_node B 9 164 3 18 [.ref 0, .int a1, .int a2, .ref 163] σ (fun v σ' => Wire σ' ∧ ∃ r : Int32, v = some (.int r) ∧ Q r σ') (fun X σ' => Wire σ' ∧ E X σ') := by
  refine V_metH hl ⟨rfl, rfl, by decide⟩ dkL_node (Nat.le_of_ble_eq_true rfl) ?_
  show V l mdL_node B 9 164 3 18 (ab_End _ _) 0 [(0, .ref 0), (1, .int a1), (2, .int a2), (3, .ref 163)] [] σ
  refine V_aload_n 0 3 rfl rfl rfl ?_
  refine V_iconst 1 (v := (0 : Int32)) rfl (by decide) ?_
  refine V_aload_n 2 0 rfl rfl rfl ?_
  refine V_iload_n 3 1 rfl rfl rfl ?_
  refine V_iload_n 4 2 rfl rfl rfl ?_
  refine V_callV 5 2 (as := [.int a1, .int a2]) (rest := [.int (0 : Int32), .ref 163]) rfl mlL_48 yvX11_node rfl rfl clX11 (wsh hW rfl) (by decide) (by decide) (Nat.le_of_ble_eq_true rfl) (by decide) (by decide) (fun B9 => ceX11_node hl B9 hW h) (fun X9 τ9 h9 => by
      obtain ⟨hW, h⟩ := h9
      rcases h with ⟨rfl, h⟩ | ⟨rfl, h⟩ | ⟨rfl, h⟩
      · exact VX_ret 0 9 (name := "java/lang/IllegalStateException") (i := 4) (v := (1 : Int32)) rfl ⟨by decide, by decide⟩ (by decide) klL_24 ca_IllegalState (fun z hz => by
        have hz : z ∈ [] := hz
        exact absurd hz (by simp)) rfl (Or.inl ⟨rfl, rfl⟩) (by decide) rfl rfl (by decide) rfl ⟨hW, _, rfl, h⟩
      · exact VX_ret 1 12 (name := "java/lang/IndexOutOfBoundsException") (i := 4) (v := (2 : Int32)) rfl ⟨by decide, by decide⟩ (by decide) klL_51 ca_IndexOutOfBounds (fun z hz => by
        have hz : z ∈ [(0, 10, 13, 24)] := hz
        rcases List.mem_cons.mp hz with rfl | hz
        · exact ⟨by decide, "java/lang/IllegalStateException", klL_24, by decide⟩
        exact absurd hz (by simp)) rfl (Or.inl ⟨rfl, rfl⟩) (by decide) rfl rfl (by decide) rfl ⟨hW, _, rfl, h⟩
      · exact VX_ret 2 15 (name := "java/lang/IllegalArgumentException") (i := 4) (v := (3 : Int32)) rfl ⟨by decide, by decide⟩ (by decide) klL_13 ca_IllegalArgument (fun z hz => by
        have hz : z ∈ [(0, 10, 13, 24), (0, 10, 17, 51)] := hz
        rcases List.mem_cons.mp hz with rfl | hz
        · exact ⟨by decide, "java/lang/IllegalStateException", klL_24, by decide⟩
        rcases List.mem_cons.mp hz with rfl | hz
        · exact ⟨by decide, "java/lang/IndexOutOfBoundsException", klL_51, by decide⟩
        exact absurd hz (by simp)) rfl (Or.inl ⟨rfl, rfl⟩) (by decide) rfl rfl (by decide) rfl ⟨hW, _, rfl, h⟩) ?_
  rintro v9 σ1 ⟨hW, u2, rfl, h⟩
  refine V_i2l 6 rfl ?_
  obtain ⟨hin, h⟩ := h
  refine V_last 7 rfl (wsh hW rfl) hin ?_
  refine V_nm (fun σ3 eσ3 => ?_)
  replace h := h σ3 eσ3
  have hW := wire_L eσ3 hW
  refine V_goto 8 (tgt := 25) rfl (by decide) ?_
  refine V_iconst 18 (v := (0 : Int32)) rfl (by decide) ?_
  exact V_iret 19 rfl rfl ⟨hW, _, rfl, h⟩

def wL_value (a1 : Int32) (a2 : Int32) (Q : Int32 → ab_S → Prop) (E : String → ab_S → Prop) (σ : ab_S) : Prop := wX11_value a1 a2 (fun u2 σ1 => vp_in (0 : Int32) 1 ∧ (∀ σ3 : ab_S, σ3 = ab_L σ1 163 (0 : Int32).toNatClampNeg u2.toInt64 → Q (0 : Int32) σ3)) (fun X9 τ9 => (X9 = "java/lang/IllegalStateException" ∧ Q (1 : Int32) τ9) ∨ (X9 = "java/lang/IndexOutOfBoundsException" ∧ Q (2 : Int32) τ9) ∨ (X9 = "java/lang/ArithmeticException" ∧ Q (3 : Int32) τ9)) σ
set_option maxHeartbeats 4000000 in
set_option maxRecDepth 100000 in
theorem ceL_value {l : Launch} (hl : l.stackTraces = false) (B : Nat) {a1 : Int32} {a2 : Int32}  {Q : Int32 → ab_S → Prop} {E : String → ab_S → Prop} {σ : ab_S} (hW : Wire σ) (h : wL_value a1 a2 Q E σ) : ab_MtH l yL_value mdL_value B 10 186 4 24 [.ref 0, .int a1, .int a2, .ref 163] σ (fun v σ' => Wire σ' ∧ ∃ r : Int32, v = some (.int r) ∧ Q r σ') (fun X σ' => Wire σ' ∧ E X σ') := by
  refine V_metH hl ⟨rfl, rfl, by decide⟩ dkL_value (Nat.le_of_ble_eq_true rfl) ?_
  show V l mdL_value B 10 186 4 24 (ab_End _ _) 0 [(0, .ref 0), (1, .int a1), (2, .int a2), (3, .ref 163)] [] σ
  refine V_aload_n 0 3 rfl rfl rfl ?_
  refine V_iconst 1 (v := (0 : Int32)) rfl (by decide) ?_
  refine V_aload_n 2 0 rfl rfl rfl ?_
  refine V_iload_n 3 1 rfl rfl rfl ?_
  refine V_iload_n 4 2 rfl rfl rfl ?_
  refine V_callV 5 2 (as := [.int a1, .int a2]) (rest := [.int (0 : Int32), .ref 163]) rfl mlL_53 yvX11_value rfl rfl clX11 (wsh hW rfl) (by decide) (by decide) (Nat.le_of_ble_eq_true rfl) (by decide) (by decide) (fun B9 => ceX11_value hl B9 hW h) (fun X9 τ9 h9 => by
      obtain ⟨hW, h⟩ := h9
      rcases h with ⟨rfl, h⟩ | ⟨rfl, h⟩ | ⟨rfl, h⟩
      · exact VX_ret 0 9 (name := "java/lang/IllegalStateException") (i := 4) (v := (1 : Int32)) rfl ⟨by decide, by decide⟩ (by decide) klL_24 ca_IllegalState (fun z hz => by
        have hz : z ∈ [] := hz
        exact absurd hz (by simp)) rfl (Or.inl ⟨rfl, rfl⟩) (by decide) rfl rfl (by decide) rfl ⟨hW, _, rfl, h⟩
      · exact VX_ret 1 12 (name := "java/lang/IndexOutOfBoundsException") (i := 4) (v := (2 : Int32)) rfl ⟨by decide, by decide⟩ (by decide) klL_51 ca_IndexOutOfBounds (fun z hz => by
        have hz : z ∈ [(0, 10, 13, 24)] := hz
        rcases List.mem_cons.mp hz with rfl | hz
        · exact ⟨by decide, "java/lang/IllegalStateException", klL_24, by decide⟩
        exact absurd hz (by simp)) rfl (Or.inl ⟨rfl, rfl⟩) (by decide) rfl rfl (by decide) rfl ⟨hW, _, rfl, h⟩
      · exact VX_ret 2 15 (name := "java/lang/ArithmeticException") (i := 4) (v := (3 : Int32)) rfl ⟨by decide, by decide⟩ (by decide) klL_56 ca_Arithmetic (fun z hz => by
        have hz : z ∈ [(0, 10, 13, 24), (0, 10, 17, 51)] := hz
        rcases List.mem_cons.mp hz with rfl | hz
        · exact ⟨by decide, "java/lang/IllegalStateException", klL_24, by decide⟩
        rcases List.mem_cons.mp hz with rfl | hz
        · exact ⟨by decide, "java/lang/IndexOutOfBoundsException", klL_51, by decide⟩
        exact absurd hz (by simp)) rfl (Or.inl ⟨rfl, rfl⟩) (by decide) rfl rfl (by decide) rfl ⟨hW, _, rfl, h⟩) ?_
  rintro v9 σ1 ⟨hW, u2, rfl, h⟩
  refine V_i2l 6 rfl ?_
  obtain ⟨hin, h⟩ := h
  refine V_last 7 rfl (wsh hW rfl) hin ?_
  refine V_nm (fun σ3 eσ3 => ?_)
  replace h := h σ3 eσ3
  have hW := wire_L eσ3 hW
  refine V_goto 8 (tgt := 25) rfl (by decide) ?_
  refine V_iconst 18 (v := (0 : Int32)) rfl (by decide) ?_
  exact V_iret 19 rfl rfl ⟨hW, _, rfl, h⟩

def wL_change (a1 : Int32) (a2 : Int32) (Q : Int32 → ab_S → Prop) (E : String → ab_S → Prop) (σ : ab_S) : Prop := wX11_change a1 a2 (fun u2 σ1 => vp_in (0 : Int32) 1 ∧ (∀ σ3 : ab_S, σ3 = ab_L σ1 163 (0 : Int32).toNatClampNeg u2.toInt64 → Q (0 : Int32) σ3)) (fun X9 τ9 => (X9 = "java/lang/IllegalStateException" ∧ Q (1 : Int32) τ9) ∨ (X9 = "java/lang/IndexOutOfBoundsException" ∧ Q (2 : Int32) τ9) ∨ (X9 = "java/lang/IllegalArgumentException" ∧ Q (3 : Int32) τ9)) σ
set_option maxHeartbeats 4000000 in
set_option maxRecDepth 100000 in
theorem ceL_change {l : Launch} (hl : l.stackTraces = false) (B : Nat) {a1 : Int32} {a2 : Int32}  {Q : Int32 → ab_S → Prop} {E : String → ab_S → Prop} {σ : ab_S} (hW : Wire σ) (h : wL_change a1 a2 Q E σ) : ab_MtH l yL_change mdL_change B 9 164 3 18 [.ref 0, .int a1, .int a2, .ref 163] σ (fun v σ' => Wire σ' ∧ ∃ r : Int32, v = some (.int r) ∧ Q r σ') (fun X σ' => Wire σ' ∧ E X σ') := by
  refine V_metH hl ⟨rfl, rfl, by decide⟩ dkL_change (Nat.le_of_ble_eq_true rfl) ?_
  show V l mdL_change B 9 164 3 18 (ab_End _ _) 0 [(0, .ref 0), (1, .int a1), (2, .int a2), (3, .ref 163)] [] σ
  refine V_aload_n 0 3 rfl rfl rfl ?_
  refine V_iconst 1 (v := (0 : Int32)) rfl (by decide) ?_
  refine V_aload_n 2 0 rfl rfl rfl ?_
  refine V_iload_n 3 1 rfl rfl rfl ?_
  refine V_iload_n 4 2 rfl rfl rfl ?_
  refine V_callV 5 2 (as := [.int a1, .int a2]) (rest := [.int (0 : Int32), .ref 163]) rfl mlL_58 yvX11_change rfl rfl clX11 (wsh hW rfl) (by decide) (by decide) (Nat.le_of_ble_eq_true rfl) (by decide) (by decide) (fun B9 => ceX11_change hl B9 hW h) (fun X9 τ9 h9 => by
      obtain ⟨hW, h⟩ := h9
      rcases h with ⟨rfl, h⟩ | ⟨rfl, h⟩ | ⟨rfl, h⟩
      · exact VX_ret 0 9 (name := "java/lang/IllegalStateException") (i := 4) (v := (1 : Int32)) rfl ⟨by decide, by decide⟩ (by decide) klL_24 ca_IllegalState (fun z hz => by
        have hz : z ∈ [] := hz
        exact absurd hz (by simp)) rfl (Or.inl ⟨rfl, rfl⟩) (by decide) rfl rfl (by decide) rfl ⟨hW, _, rfl, h⟩
      · exact VX_ret 1 12 (name := "java/lang/IndexOutOfBoundsException") (i := 4) (v := (2 : Int32)) rfl ⟨by decide, by decide⟩ (by decide) klL_51 ca_IndexOutOfBounds (fun z hz => by
        have hz : z ∈ [(0, 10, 13, 24)] := hz
        rcases List.mem_cons.mp hz with rfl | hz
        · exact ⟨by decide, "java/lang/IllegalStateException", klL_24, by decide⟩
        exact absurd hz (by simp)) rfl (Or.inl ⟨rfl, rfl⟩) (by decide) rfl rfl (by decide) rfl ⟨hW, _, rfl, h⟩
      · exact VX_ret 2 15 (name := "java/lang/IllegalArgumentException") (i := 4) (v := (3 : Int32)) rfl ⟨by decide, by decide⟩ (by decide) klL_13 ca_IllegalArgument (fun z hz => by
        have hz : z ∈ [(0, 10, 13, 24), (0, 10, 17, 51)] := hz
        rcases List.mem_cons.mp hz with rfl | hz
        · exact ⟨by decide, "java/lang/IllegalStateException", klL_24, by decide⟩
        rcases List.mem_cons.mp hz with rfl | hz
        · exact ⟨by decide, "java/lang/IndexOutOfBoundsException", klL_51, by decide⟩
        exact absurd hz (by simp)) rfl (Or.inl ⟨rfl, rfl⟩) (by decide) rfl rfl (by decide) rfl ⟨hW, _, rfl, h⟩) ?_
  rintro v9 σ1 ⟨hW, u2, rfl, h⟩
  refine V_i2l 6 rfl ?_
  obtain ⟨hin, h⟩ := h
  refine V_last 7 rfl (wsh hW rfl) hin ?_
  refine V_nm (fun σ3 eσ3 => ?_)
  replace h := h σ3 eσ3
  have hW := wire_L eσ3 hW
  refine V_goto 8 (tgt := 25) rfl (by decide) ?_
  refine V_iconst 18 (v := (0 : Int32)) rfl (by decide) ?_
  exact V_iret 19 rfl rfl ⟨hW, _, rfl, h⟩

def wL_visit (a1 : Int32) (a2 : Int32) (Q : Int32 → ab_S → Prop) (E : String → ab_S → Prop) (σ : ab_S) : Prop := wX11_visit a1 a2 (fun u2 σ1 => vp_in (0 : Int32) 1 ∧ (∀ σ3 : ab_S, σ3 = ab_L σ1 163 (0 : Int32).toNatClampNeg u2.toInt64 → Q (0 : Int32) σ3)) (fun X9 τ9 => (X9 = "java/lang/IllegalStateException" ∧ Q (1 : Int32) τ9) ∨ (X9 = "java/lang/IllegalArgumentException" ∧ Q (2 : Int32) τ9)) σ
set_option maxHeartbeats 4000000 in
set_option maxRecDepth 100000 in
theorem ceL_visit {l : Launch} (hl : l.stackTraces = false) (B : Nat) {a1 : Int32} {a2 : Int32}  {Q : Int32 → ab_S → Prop} {E : String → ab_S → Prop} {σ : ab_S} (hW : Wire σ) (h : wL_visit a1 a2 Q E σ) : ab_MtH l yL_visit mdL_visit B 9 165 3 18 [.ref 0, .int a1, .int a2, .ref 163] σ (fun v σ' => Wire σ' ∧ ∃ r : Int32, v = some (.int r) ∧ Q r σ') (fun X σ' => Wire σ' ∧ E X σ') := by
  refine V_metH hl ⟨rfl, rfl, by decide⟩ dkL_visit (Nat.le_of_ble_eq_true rfl) ?_
  show V l mdL_visit B 9 165 3 18 (ab_End _ _) 0 [(0, .ref 0), (1, .int a1), (2, .int a2), (3, .ref 163)] [] σ
  refine V_aload_n 0 3 rfl rfl rfl ?_
  refine V_iconst 1 (v := (0 : Int32)) rfl (by decide) ?_
  refine V_aload_n 2 0 rfl rfl rfl ?_
  refine V_iload_n 3 1 rfl rfl rfl ?_
  refine V_iload_n 4 2 rfl rfl rfl ?_
  refine V_callV 5 2 (as := [.int a1, .int a2]) (rest := [.int (0 : Int32), .ref 163]) rfl mlL_61 yvX11_visit rfl rfl clX11 (wsh hW rfl) (by decide) (by decide) (Nat.le_of_ble_eq_true rfl) (by decide) (by decide) (fun B9 => ceX11_visit hl B9 hW h) (fun X9 τ9 h9 => by
      obtain ⟨hW, h⟩ := h9
      rcases h with ⟨rfl, h⟩ | ⟨rfl, h⟩
      · exact VX_ret 0 9 (name := "java/lang/IllegalStateException") (i := 4) (v := (1 : Int32)) rfl ⟨by decide, by decide⟩ (by decide) klL_24 ca_IllegalState (fun z hz => by
        have hz : z ∈ [] := hz
        exact absurd hz (by simp)) rfl (Or.inl ⟨rfl, rfl⟩) (by decide) rfl rfl (by decide) rfl ⟨hW, _, rfl, h⟩
      · exact VX_ret 1 12 (name := "java/lang/IllegalArgumentException") (i := 4) (v := (2 : Int32)) rfl ⟨by decide, by decide⟩ (by decide) klL_13 ca_IllegalArgument (fun z hz => by
        have hz : z ∈ [(0, 10, 13, 24)] := hz
        rcases List.mem_cons.mp hz with rfl | hz
        · exact ⟨by decide, "java/lang/IllegalStateException", klL_24, by decide⟩
        exact absurd hz (by simp)) rfl (Or.inl ⟨rfl, rfl⟩) (by decide) rfl rfl (by decide) rfl ⟨hW, _, rfl, h⟩) ?_
  rintro v9 σ1 ⟨hW, u2, rfl, h⟩
  refine V_i2l 6 rfl ?_
  obtain ⟨hin, h⟩ := h
  refine V_last 7 rfl (wsh hW rfl) hin ?_
  refine V_nm (fun σ3 eσ3 => ?_)
  replace h := h σ3 eσ3
  have hW := wire_L eσ3 hW
  refine V_goto 8 (tgt := 21) rfl (by decide) ?_
  refine V_iconst 15 (v := (0 : Int32)) rfl (by decide) ?_
  exact V_iret 16 rfl rfl ⟨hW, _, rfl, h⟩

def wL_code (a1 : Int32) (a2 : Int32) (Q : Int32 → ab_S → Prop) (E : String → ab_S → Prop) (σ : ab_S) : Prop := wX11_code a1 a2 (fun u2 σ1 => vp_in (0 : Int32) 1 ∧ (∀ σ3 : ab_S, σ3 = ab_L σ1 163 (0 : Int32).toNatClampNeg u2.toInt64 → Q (0 : Int32) σ3)) (fun X9 τ9 => (X9 = "java/lang/IllegalStateException" ∧ Q (1 : Int32) τ9) ∨ (X9 = "java/lang/IndexOutOfBoundsException" ∧ Q (2 : Int32) τ9) ∨ (X9 = "java/lang/IllegalArgumentException" ∧ Q (3 : Int32) τ9)) σ
set_option maxHeartbeats 4000000 in
set_option maxRecDepth 100000 in
theorem ceL_code {l : Launch} (hl : l.stackTraces = false) (B : Nat) {a1 : Int32} {a2 : Int32}  {Q : Int32 → ab_S → Prop} {E : String → ab_S → Prop} {σ : ab_S} (hW : Wire σ) (h : wL_code a1 a2 Q E σ) : ab_MtH l yL_code mdL_code B 8 143 3 18 [.ref 0, .int a1, .int a2, .ref 163] σ (fun v σ' => Wire σ' ∧ ∃ r : Int32, v = some (.int r) ∧ Q r σ') (fun X σ' => Wire σ' ∧ E X σ') := by
  refine V_metH hl ⟨rfl, rfl, by decide⟩ dkL_code (Nat.le_of_ble_eq_true rfl) ?_
  show V l mdL_code B 8 143 3 18 (ab_End _ _) 0 [(0, .ref 0), (1, .int a1), (2, .int a2), (3, .ref 163)] [] σ
  refine V_aload_n 0 3 rfl rfl rfl ?_
  refine V_iconst 1 (v := (0 : Int32)) rfl (by decide) ?_
  refine V_aload_n 2 0 rfl rfl rfl ?_
  refine V_iload_n 3 1 rfl rfl rfl ?_
  refine V_iload_n 4 2 rfl rfl rfl ?_
  refine V_callV 5 2 (as := [.int a1, .int a2]) (rest := [.int (0 : Int32), .ref 163]) rfl mlL_64 yvX11_code rfl rfl clX11 (wsh hW rfl) (by decide) (by decide) (Nat.le_of_ble_eq_true rfl) (by decide) (by decide) (fun B9 => ceX11_code hl B9 hW h) (fun X9 τ9 h9 => by
      obtain ⟨hW, h⟩ := h9
      rcases h with ⟨rfl, h⟩ | ⟨rfl, h⟩ | ⟨rfl, h⟩
      · exact VX_ret 0 9 (name := "java/lang/IllegalStateException") (i := 4) (v := (1 : Int32)) rfl ⟨by decide, by decide⟩ (by decide) klL_24 ca_IllegalState (fun z hz => by
        have hz : z ∈ [] := hz
        exact absurd hz (by simp)) rfl (Or.inl ⟨rfl, rfl⟩) (by decide) rfl rfl (by decide) rfl ⟨hW, _, rfl, h⟩
      · exact VX_ret 1 12 (name := "java/lang/IndexOutOfBoundsException") (i := 4) (v := (2 : Int32)) rfl ⟨by decide, by decide⟩ (by decide) klL_51 ca_IndexOutOfBounds (fun z hz => by
        have hz : z ∈ [(0, 10, 13, 24)] := hz
        rcases List.mem_cons.mp hz with rfl | hz
        · exact ⟨by decide, "java/lang/IllegalStateException", klL_24, by decide⟩
        exact absurd hz (by simp)) rfl (Or.inl ⟨rfl, rfl⟩) (by decide) rfl rfl (by decide) rfl ⟨hW, _, rfl, h⟩
      · exact VX_ret 2 15 (name := "java/lang/IllegalArgumentException") (i := 4) (v := (3 : Int32)) rfl ⟨by decide, by decide⟩ (by decide) klL_13 ca_IllegalArgument (fun z hz => by
        have hz : z ∈ [(0, 10, 13, 24), (0, 10, 17, 51)] := hz
        rcases List.mem_cons.mp hz with rfl | hz
        · exact ⟨by decide, "java/lang/IllegalStateException", klL_24, by decide⟩
        rcases List.mem_cons.mp hz with rfl | hz
        · exact ⟨by decide, "java/lang/IndexOutOfBoundsException", klL_51, by decide⟩
        exact absurd hz (by simp)) rfl (Or.inl ⟨rfl, rfl⟩) (by decide) rfl rfl (by decide) rfl ⟨hW, _, rfl, h⟩) ?_
  rintro v9 σ1 ⟨hW, u2, rfl, h⟩
  refine V_i2l 6 rfl ?_
  obtain ⟨hin, h⟩ := h
  refine V_last 7 rfl (wsh hW rfl) hin ?_
  refine V_nm (fun σ3 eσ3 => ?_)
  replace h := h σ3 eσ3
  have hW := wire_L eσ3 hW
  refine V_goto 8 (tgt := 25) rfl (by decide) ?_
  refine V_iconst 18 (v := (0 : Int32)) rfl (by decide) ?_
  exact V_iret 19 rfl rfl ⟨hW, _, rfl, h⟩

def wL_start (a1 : Int32) (a2 : Int32) (Q : Int32 → ab_S → Prop) (E : String → ab_S → Prop) (σ : ab_S) : Prop := wX11_start a1 a2 (fun u2 σ1 => vp_in (0 : Int32) 1 ∧ (∀ σ3 : ab_S, σ3 = ab_L σ1 163 (0 : Int32).toNatClampNeg u2.toInt64 → Q (0 : Int32) σ3)) (fun X9 τ9 => (X9 = "java/lang/IllegalStateException" ∧ Q (1 : Int32) τ9) ∨ (X9 = "java/lang/IllegalArgumentException" ∧ Q (2 : Int32) τ9)) σ
set_option maxHeartbeats 4000000 in
set_option maxRecDepth 100000 in
theorem ceL_start {l : Launch} (hl : l.stackTraces = false) (B : Nat) {a1 : Int32} {a2 : Int32}  {Q : Int32 → ab_S → Prop} {E : String → ab_S → Prop} {σ : ab_S} (hW : Wire σ) (h : wL_start a1 a2 Q E σ) : ab_MtH l yL_start mdL_start B 10 187 3 18 [.ref 0, .int a1, .int a2, .ref 163] σ (fun v σ' => Wire σ' ∧ ∃ r : Int32, v = some (.int r) ∧ Q r σ') (fun X σ' => Wire σ' ∧ E X σ') := by
  refine V_metH hl ⟨rfl, rfl, by decide⟩ dkL_start (Nat.le_of_ble_eq_true rfl) ?_
  show V l mdL_start B 10 187 3 18 (ab_End _ _) 0 [(0, .ref 0), (1, .int a1), (2, .int a2), (3, .ref 163)] [] σ
  refine V_aload_n 0 3 rfl rfl rfl ?_
  refine V_iconst 1 (v := (0 : Int32)) rfl (by decide) ?_
  refine V_aload_n 2 0 rfl rfl rfl ?_
  refine V_iload_n 3 1 rfl rfl rfl ?_
  refine V_iload_n 4 2 rfl rfl rfl ?_
  refine V_callV 5 2 (as := [.int a1, .int a2]) (rest := [.int (0 : Int32), .ref 163]) rfl mlL_67 yvX11_start rfl rfl clX11 (wsh hW rfl) (by decide) (by decide) (Nat.le_of_ble_eq_true rfl) (by decide) (by decide) (fun B9 => ceX11_start hl B9 hW h) (fun X9 τ9 h9 => by
      obtain ⟨hW, h⟩ := h9
      rcases h with ⟨rfl, h⟩ | ⟨rfl, h⟩
      · exact VX_ret 0 9 (name := "java/lang/IllegalStateException") (i := 4) (v := (1 : Int32)) rfl ⟨by decide, by decide⟩ (by decide) klL_24 ca_IllegalState (fun z hz => by
        have hz : z ∈ [] := hz
        exact absurd hz (by simp)) rfl (Or.inl ⟨rfl, rfl⟩) (by decide) rfl rfl (by decide) rfl ⟨hW, _, rfl, h⟩
      · exact VX_ret 1 12 (name := "java/lang/IllegalArgumentException") (i := 4) (v := (2 : Int32)) rfl ⟨by decide, by decide⟩ (by decide) klL_13 ca_IllegalArgument (fun z hz => by
        have hz : z ∈ [(0, 10, 13, 24)] := hz
        rcases List.mem_cons.mp hz with rfl | hz
        · exact ⟨by decide, "java/lang/IllegalStateException", klL_24, by decide⟩
        exact absurd hz (by simp)) rfl (Or.inl ⟨rfl, rfl⟩) (by decide) rfl rfl (by decide) rfl ⟨hW, _, rfl, h⟩) ?_
  rintro v9 σ1 ⟨hW, u2, rfl, h⟩
  refine V_i2l 6 rfl ?_
  obtain ⟨hin, h⟩ := h
  refine V_last 7 rfl (wsh hW rfl) hin ?_
  refine V_nm (fun σ3 eσ3 => ?_)
  replace h := h σ3 eσ3
  have hW := wire_L eσ3 hW
  refine V_goto 8 (tgt := 21) rfl (by decide) ?_
  refine V_iconst 15 (v := (0 : Int32)) rfl (by decide) ?_
  exact V_iret 16 rfl rfl ⟨hW, _, rfl, h⟩

def wL_begin  (Q : Int32 → ab_S → Prop) (E : String → ab_S → Prop) (σ : ab_S) : Prop := wX11_begin (fun u2 σ1 => vp_in (0 : Int32) 1 ∧ (∀ σ3 : ab_S, σ3 = ab_L σ1 163 (0 : Int32).toNatClampNeg u2.toInt64 → Q (0 : Int32) σ3)) (fun X9 τ9 => (X9 = "java/lang/IllegalStateException" ∧ Q (1 : Int32) τ9)) σ
set_option maxHeartbeats 4000000 in
set_option maxRecDepth 100000 in
theorem ceL_begin {l : Launch} (hl : l.stackTraces = false) (B : Nat)   {Q : Int32 → ab_S → Prop} {E : String → ab_S → Prop} {σ : ab_S} (hW : Wire σ) (h : wL_begin  Q E σ) : ab_MtH l yL_begin mdL_begin B 8 140 1 6 [.ref 0, .ref 163] σ (fun v σ' => Wire σ' ∧ ∃ r : Int32, v = some (.int r) ∧ Q r σ') (fun X σ' => Wire σ' ∧ E X σ') := by
  refine V_metH hl ⟨rfl, rfl, by decide⟩ dkL_begin (Nat.le_of_ble_eq_true rfl) ?_
  show V l mdL_begin B 8 140 1 6 (ab_End _ _) 0 [(0, .ref 0), (1, .ref 163)] [] σ
  refine V_aload_n 0 1 rfl rfl rfl ?_
  refine V_iconst 1 (v := (0 : Int32)) rfl (by decide) ?_
  refine V_aload_n 2 0 rfl rfl rfl ?_
  refine V_callV 3 0 (as := []) (rest := [.int (0 : Int32), .ref 163]) rfl mlL_70 yvX11_begin rfl rfl clX11 (wsh hW rfl) (by decide) (by decide) (Nat.le_of_ble_eq_true rfl) (by decide) (by decide) (fun B9 => ceX11_begin hl B9 hW h) (fun X9 τ9 h9 => by
      obtain ⟨hW, h⟩ := h9
      rcases h with ⟨rfl, h⟩
      · exact VX_ret 0 7 (name := "java/lang/IllegalStateException") (i := 2) (v := (1 : Int32)) rfl ⟨by decide, by decide⟩ (by decide) klL_24 ca_IllegalState (fun z hz => by
        have hz : z ∈ [] := hz
        exact absurd hz (by simp)) rfl (Or.inr ⟨_, rfl, rfl, rfl⟩) (by decide) rfl rfl (by decide) rfl ⟨hW, _, rfl, h⟩) ?_
  rintro v9 σ1 ⟨hW, u2, rfl, h⟩
  refine V_i2l 4 rfl ?_
  obtain ⟨hin, h⟩ := h
  refine V_last 5 rfl (wsh hW rfl) hin ?_
  refine V_nm (fun σ3 eσ3 => ?_)
  replace h := h σ3 eσ3
  have hW := wire_L eσ3 hW
  refine V_goto 6 (tgt := 14) rfl (by decide) ?_
  refine V_iconst 10 (v := (0 : Int32)) rfl (by decide) ?_
  exact V_iret 11 rfl rfl ⟨hW, _, rfl, h⟩

def wL_step (a1 : Int32) (Q : Int32 → ab_S → Prop) (E : String → ab_S → Prop) (σ : ab_S) : Prop := wX11_step a1 (fun u2 σ1 => vp_in (0 : Int32) 1 ∧ (∀ σ3 : ab_S, σ3 = ab_L σ1 163 (0 : Int32).toNatClampNeg u2.toInt64 → Q (0 : Int32) σ3)) (fun X9 τ9 => (X9 = "java/lang/IllegalStateException" ∧ Q (1 : Int32) τ9) ∨ (X9 = "java/lang/IllegalArgumentException" ∧ Q (2 : Int32) τ9)) σ
set_option maxHeartbeats 4000000 in
set_option maxRecDepth 100000 in
theorem ceL_step {l : Launch} (hl : l.stackTraces = false) (B : Nat) {a1 : Int32}  {Q : Int32 → ab_S → Prop} {E : String → ab_S → Prop} {σ : ab_S} (hW : Wire σ) (h : wL_step a1 Q E σ) : ab_MtH l yL_step mdL_step B 8 141 2 12 [.ref 0, .int a1, .ref 163] σ (fun v σ' => Wire σ' ∧ ∃ r : Int32, v = some (.int r) ∧ Q r σ') (fun X σ' => Wire σ' ∧ E X σ') := by
  refine V_metH hl ⟨rfl, rfl, by decide⟩ dkL_step (Nat.le_of_ble_eq_true rfl) ?_
  show V l mdL_step B 8 141 2 12 (ab_End _ _) 0 [(0, .ref 0), (1, .int a1), (2, .ref 163)] [] σ
  refine V_aload_n 0 2 rfl rfl rfl ?_
  refine V_iconst 1 (v := (0 : Int32)) rfl (by decide) ?_
  refine V_aload_n 2 0 rfl rfl rfl ?_
  refine V_iload_n 3 1 rfl rfl rfl ?_
  refine V_callV 4 1 (as := [.int a1]) (rest := [.int (0 : Int32), .ref 163]) rfl mlL_73 yvX11_step rfl rfl clX11 (wsh hW rfl) (by decide) (by decide) (Nat.le_of_ble_eq_true rfl) (by decide) (by decide) (fun B9 => ceX11_step hl B9 hW h) (fun X9 τ9 h9 => by
      obtain ⟨hW, h⟩ := h9
      rcases h with ⟨rfl, h⟩ | ⟨rfl, h⟩
      · exact VX_ret 0 8 (name := "java/lang/IllegalStateException") (i := 3) (v := (1 : Int32)) rfl ⟨by decide, by decide⟩ (by decide) klL_24 ca_IllegalState (fun z hz => by
        have hz : z ∈ [] := hz
        exact absurd hz (by simp)) rfl (Or.inr ⟨_, rfl, rfl, rfl⟩) (by decide) rfl rfl (by decide) rfl ⟨hW, _, rfl, h⟩
      · exact VX_ret 1 11 (name := "java/lang/IllegalArgumentException") (i := 3) (v := (2 : Int32)) rfl ⟨by decide, by decide⟩ (by decide) klL_13 ca_IllegalArgument (fun z hz => by
        have hz : z ∈ [(0, 9, 12, 24)] := hz
        rcases List.mem_cons.mp hz with rfl | hz
        · exact ⟨by decide, "java/lang/IllegalStateException", klL_24, by decide⟩
        exact absurd hz (by simp)) rfl (Or.inr ⟨_, rfl, rfl, rfl⟩) (by decide) rfl rfl (by decide) rfl ⟨hW, _, rfl, h⟩) ?_
  rintro v9 σ1 ⟨hW, u2, rfl, h⟩
  refine V_i2l 5 rfl ?_
  obtain ⟨hin, h⟩ := h
  refine V_last 6 rfl (wsh hW rfl) hin ?_
  refine V_nm (fun σ3 eσ3 => ?_)
  replace h := h σ3 eσ3
  have hW := wire_L eσ3 hW
  refine V_goto 7 (tgt := 18) rfl (by decide) ?_
  refine V_iconst 14 (v := (0 : Int32)) rfl (by decide) ?_
  exact V_iret 15 rfl rfl ⟨hW, _, rfl, h⟩

def wL_machine (a1 : Int32) (Q : Int32 → ab_S → Prop) (E : String → ab_S → Prop) (σ : ab_S) : Prop := wX11_machine a1 (fun u2 σ1 => vp_in (0 : Int32) 1 ∧ (∀ σ3 : ab_S, σ3 = ab_L σ1 163 (0 : Int32).toNatClampNeg u2.toInt64 → Q (0 : Int32) σ3)) (fun X9 τ9 => (X9 = "java/lang/IllegalStateException" ∧ Q (1 : Int32) τ9) ∨ (X9 = "java/lang/IllegalArgumentException" ∧ Q (2 : Int32) τ9)) σ
set_option maxHeartbeats 4000000 in
set_option maxRecDepth 100000 in
theorem ceL_machine {l : Launch} (hl : l.stackTraces = false) (B : Nat) {a1 : Int32}  {Q : Int32 → ab_S → Prop} {E : String → ab_S → Prop} {σ : ab_S} (hW : Wire σ) (h : wL_machine a1 Q E σ) : ab_MtH l yL_machine mdL_machine B 8 141 2 12 [.ref 0, .int a1, .ref 163] σ (fun v σ' => Wire σ' ∧ ∃ r : Int32, v = some (.int r) ∧ Q r σ') (fun X σ' => Wire σ' ∧ E X σ') := by
  refine V_metH hl ⟨rfl, rfl, by decide⟩ dkL_machine (Nat.le_of_ble_eq_true rfl) ?_
  show V l mdL_machine B 8 141 2 12 (ab_End _ _) 0 [(0, .ref 0), (1, .int a1), (2, .ref 163)] [] σ
  refine V_aload_n 0 2 rfl rfl rfl ?_
  refine V_iconst 1 (v := (0 : Int32)) rfl (by decide) ?_
  refine V_aload_n 2 0 rfl rfl rfl ?_
  refine V_iload_n 3 1 rfl rfl rfl ?_
  refine V_callV 4 1 (as := [.int a1]) (rest := [.int (0 : Int32), .ref 163]) rfl mlL_76 yvX11_machine rfl rfl clX11 (wsh hW rfl) (by decide) (by decide) (Nat.le_of_ble_eq_true rfl) (by decide) (by decide) (fun B9 => ceX11_machine hl B9 hW h) (fun X9 τ9 h9 => by
      obtain ⟨hW, h⟩ := h9
      rcases h with ⟨rfl, h⟩ | ⟨rfl, h⟩
      · exact VX_ret 0 8 (name := "java/lang/IllegalStateException") (i := 3) (v := (1 : Int32)) rfl ⟨by decide, by decide⟩ (by decide) klL_24 ca_IllegalState (fun z hz => by
        have hz : z ∈ [] := hz
        exact absurd hz (by simp)) rfl (Or.inr ⟨_, rfl, rfl, rfl⟩) (by decide) rfl rfl (by decide) rfl ⟨hW, _, rfl, h⟩
      · exact VX_ret 1 11 (name := "java/lang/IllegalArgumentException") (i := 3) (v := (2 : Int32)) rfl ⟨by decide, by decide⟩ (by decide) klL_13 ca_IllegalArgument (fun z hz => by
        have hz : z ∈ [(0, 9, 12, 24)] := hz
        rcases List.mem_cons.mp hz with rfl | hz
        · exact ⟨by decide, "java/lang/IllegalStateException", klL_24, by decide⟩
        exact absurd hz (by simp)) rfl (Or.inr ⟨_, rfl, rfl, rfl⟩) (by decide) rfl rfl (by decide) rfl ⟨hW, _, rfl, h⟩) ?_
  rintro v9 σ1 ⟨hW, u2, rfl, h⟩
  refine V_i2l 5 rfl ?_
  obtain ⟨hin, h⟩ := h
  refine V_last 6 rfl (wsh hW rfl) hin ?_
  refine V_nm (fun σ3 eσ3 => ?_)
  replace h := h σ3 eσ3
  have hW := wire_L eσ3 hW
  refine V_goto 7 (tgt := 18) rfl (by decide) ?_
  refine V_iconst 14 (v := (0 : Int32)) rfl (by decide) ?_
  exact V_iret 15 rfl rfl ⟨hW, _, rfl, h⟩

def wL_alone (a1 : Int32) (Q : Int32 → ab_S → Prop) (E : String → ab_S → Prop) (σ : ab_S) : Prop := wX11_alone a1 (fun u2 σ1 => vp_in (0 : Int32) 1 ∧ (∀ σ3 : ab_S, σ3 = ab_L σ1 163 (0 : Int32).toNatClampNeg u2.toInt64 → Q (0 : Int32) σ3)) (fun X9 τ9 => (X9 = "java/lang/IllegalStateException" ∧ Q (1 : Int32) τ9) ∨ (X9 = "java/lang/IndexOutOfBoundsException" ∧ Q (2 : Int32) τ9) ∨ (X9 = "java/lang/ArithmeticException" ∧ Q (3 : Int32) τ9)) σ
set_option maxHeartbeats 4000000 in
set_option maxRecDepth 100000 in
theorem ceL_alone {l : Launch} (hl : l.stackTraces = false) (B : Nat) {a1 : Int32}  {Q : Int32 → ab_S → Prop} {E : String → ab_S → Prop} {σ : ab_S} (hW : Wire σ) (h : wL_alone a1 Q E σ) : ab_MtH l yL_alone mdL_alone B 8 142 3 18 [.ref 0, .int a1, .ref 163] σ (fun v σ' => Wire σ' ∧ ∃ r : Int32, v = some (.int r) ∧ Q r σ') (fun X σ' => Wire σ' ∧ E X σ') := by
  refine V_metH hl ⟨rfl, rfl, by decide⟩ dkL_alone (Nat.le_of_ble_eq_true rfl) ?_
  show V l mdL_alone B 8 142 3 18 (ab_End _ _) 0 [(0, .ref 0), (1, .int a1), (2, .ref 163)] [] σ
  refine V_aload_n 0 2 rfl rfl rfl ?_
  refine V_iconst 1 (v := (0 : Int32)) rfl (by decide) ?_
  refine V_aload_n 2 0 rfl rfl rfl ?_
  refine V_iload_n 3 1 rfl rfl rfl ?_
  refine V_callV 4 1 (as := [.int a1]) (rest := [.int (0 : Int32), .ref 163]) rfl mlL_79 yvX11_alone rfl rfl clX11 (wsh hW rfl) (by decide) (by decide) (Nat.le_of_ble_eq_true rfl) (by decide) (by decide) (fun B9 => ceX11_alone hl B9 hW h) (fun X9 τ9 h9 => by
      obtain ⟨hW, h⟩ := h9
      rcases h with ⟨rfl, h⟩ | ⟨rfl, h⟩ | ⟨rfl, h⟩
      · exact VX_ret 0 8 (name := "java/lang/IllegalStateException") (i := 3) (v := (1 : Int32)) rfl ⟨by decide, by decide⟩ (by decide) klL_24 ca_IllegalState (fun z hz => by
        have hz : z ∈ [] := hz
        exact absurd hz (by simp)) rfl (Or.inr ⟨_, rfl, rfl, rfl⟩) (by decide) rfl rfl (by decide) rfl ⟨hW, _, rfl, h⟩
      · exact VX_ret 1 11 (name := "java/lang/IndexOutOfBoundsException") (i := 3) (v := (2 : Int32)) rfl ⟨by decide, by decide⟩ (by decide) klL_51 ca_IndexOutOfBounds (fun z hz => by
        have hz : z ∈ [(0, 9, 12, 24)] := hz
        rcases List.mem_cons.mp hz with rfl | hz
        · exact ⟨by decide, "java/lang/IllegalStateException", klL_24, by decide⟩
        exact absurd hz (by simp)) rfl (Or.inr ⟨_, rfl, rfl, rfl⟩) (by decide) rfl rfl (by decide) rfl ⟨hW, _, rfl, h⟩
      · exact VX_ret 2 14 (name := "java/lang/ArithmeticException") (i := 3) (v := (3 : Int32)) rfl ⟨by decide, by decide⟩ (by decide) klL_56 ca_Arithmetic (fun z hz => by
        have hz : z ∈ [(0, 9, 12, 24), (0, 9, 15, 51)] := hz
        rcases List.mem_cons.mp hz with rfl | hz
        · exact ⟨by decide, "java/lang/IllegalStateException", klL_24, by decide⟩
        rcases List.mem_cons.mp hz with rfl | hz
        · exact ⟨by decide, "java/lang/IndexOutOfBoundsException", klL_51, by decide⟩
        exact absurd hz (by simp)) rfl (Or.inr ⟨_, rfl, rfl, rfl⟩) (by decide) rfl rfl (by decide) rfl ⟨hW, _, rfl, h⟩) ?_
  rintro v9 σ1 ⟨hW, u2, rfl, h⟩
  refine V_i2l 5 rfl ?_
  obtain ⟨hin, h⟩ := h
  refine V_last 6 rfl (wsh hW rfl) hin ?_
  refine V_nm (fun σ3 eσ3 => ?_)
  replace h := h σ3 eσ3
  have hW := wire_L eσ3 hW
  refine V_goto 7 (tgt := 21) rfl (by decide) ?_
  refine V_iconst 17 (v := (0 : Int32)) rfl (by decide) ?_
  exact V_iret 18 rfl rfl ⟨hW, _, rfl, h⟩

def wL_top (a1 : Int32) (Q : Int32 → ab_S → Prop) (E : String → ab_S → Prop) (σ : ab_S) : Prop := wX11_top a1 (fun u2 σ1 => vp_in (0 : Int32) 1 ∧ (∀ σ3 : ab_S, σ3 = ab_L σ1 163 (0 : Int32).toNatClampNeg u2.toInt64 → Q (0 : Int32) σ3)) (fun X9 τ9 => (X9 = "java/lang/IllegalStateException" ∧ Q (1 : Int32) τ9) ∨ (X9 = "java/lang/IndexOutOfBoundsException" ∧ Q (2 : Int32) τ9) ∨ (X9 = "java/lang/ArithmeticException" ∧ Q (3 : Int32) τ9)) σ
set_option maxHeartbeats 4000000 in
set_option maxRecDepth 100000 in
theorem ceL_top {l : Launch} (hl : l.stackTraces = false) (B : Nat) {a1 : Int32}  {Q : Int32 → ab_S → Prop} {E : String → ab_S → Prop} {σ : ab_S} (hW : Wire σ) (h : wL_top a1 Q E σ) : ab_MtH l yL_top mdL_top B 8 142 3 18 [.ref 0, .int a1, .ref 163] σ (fun v σ' => Wire σ' ∧ ∃ r : Int32, v = some (.int r) ∧ Q r σ') (fun X σ' => Wire σ' ∧ E X σ') := by
  refine V_metH hl ⟨rfl, rfl, by decide⟩ dkL_top (Nat.le_of_ble_eq_true rfl) ?_
  show V l mdL_top B 8 142 3 18 (ab_End _ _) 0 [(0, .ref 0), (1, .int a1), (2, .ref 163)] [] σ
  refine V_aload_n 0 2 rfl rfl rfl ?_
  refine V_iconst 1 (v := (0 : Int32)) rfl (by decide) ?_
  refine V_aload_n 2 0 rfl rfl rfl ?_
  refine V_iload_n 3 1 rfl rfl rfl ?_
  refine V_callV 4 1 (as := [.int a1]) (rest := [.int (0 : Int32), .ref 163]) rfl mlL_82 yvX11_top rfl rfl clX11 (wsh hW rfl) (by decide) (by decide) (Nat.le_of_ble_eq_true rfl) (by decide) (by decide) (fun B9 => ceX11_top hl B9 hW h) (fun X9 τ9 h9 => by
      obtain ⟨hW, h⟩ := h9
      rcases h with ⟨rfl, h⟩ | ⟨rfl, h⟩ | ⟨rfl, h⟩
      · exact VX_ret 0 8 (name := "java/lang/IllegalStateException") (i := 3) (v := (1 : Int32)) rfl ⟨by decide, by decide⟩ (by decide) klL_24 ca_IllegalState (fun z hz => by
        have hz : z ∈ [] := hz
        exact absurd hz (by simp)) rfl (Or.inr ⟨_, rfl, rfl, rfl⟩) (by decide) rfl rfl (by decide) rfl ⟨hW, _, rfl, h⟩
      · exact VX_ret 1 11 (name := "java/lang/IndexOutOfBoundsException") (i := 3) (v := (2 : Int32)) rfl ⟨by decide, by decide⟩ (by decide) klL_51 ca_IndexOutOfBounds (fun z hz => by
        have hz : z ∈ [(0, 9, 12, 24)] := hz
        rcases List.mem_cons.mp hz with rfl | hz
        · exact ⟨by decide, "java/lang/IllegalStateException", klL_24, by decide⟩
        exact absurd hz (by simp)) rfl (Or.inr ⟨_, rfl, rfl, rfl⟩) (by decide) rfl rfl (by decide) rfl ⟨hW, _, rfl, h⟩
      · exact VX_ret 2 14 (name := "java/lang/ArithmeticException") (i := 3) (v := (3 : Int32)) rfl ⟨by decide, by decide⟩ (by decide) klL_56 ca_Arithmetic (fun z hz => by
        have hz : z ∈ [(0, 9, 12, 24), (0, 9, 15, 51)] := hz
        rcases List.mem_cons.mp hz with rfl | hz
        · exact ⟨by decide, "java/lang/IllegalStateException", klL_24, by decide⟩
        rcases List.mem_cons.mp hz with rfl | hz
        · exact ⟨by decide, "java/lang/IndexOutOfBoundsException", klL_51, by decide⟩
        exact absurd hz (by simp)) rfl (Or.inr ⟨_, rfl, rfl, rfl⟩) (by decide) rfl rfl (by decide) rfl ⟨hW, _, rfl, h⟩) ?_
  rintro v9 σ1 ⟨hW, u2, rfl, h⟩
  refine V_i2l 5 rfl ?_
  obtain ⟨hin, h⟩ := h
  refine V_last 6 rfl (wsh hW rfl) hin ?_
  refine V_nm (fun σ3 eσ3 => ?_)
  replace h := h σ3 eσ3
  have hW := wire_L eσ3 hW
  refine V_goto 7 (tgt := 21) rfl (by decide) ?_
  refine V_iconst 17 (v := (0 : Int32)) rfl (by decide) ?_
  exact V_iret 18 rfl rfl ⟨hW, _, rfl, h⟩

def wL_held (a1 : Int32) (a2 : Int32) (Q : Int32 → ab_S → Prop) (E : String → ab_S → Prop) (σ : ab_S) : Prop := wX11_held a1 a2 (fun u2 σ1 => vp_in (0 : Int32) 1 ∧ (∀ σ3 : ab_S, σ3 = ab_L σ1 163 (0 : Int32).toNatClampNeg u2.toInt64 → Q (0 : Int32) σ3)) (fun X9 τ9 => (X9 = "java/lang/IllegalStateException" ∧ Q (1 : Int32) τ9) ∨ (X9 = "java/lang/IndexOutOfBoundsException" ∧ Q (2 : Int32) τ9) ∨ (X9 = "java/lang/IllegalArgumentException" ∧ Q (3 : Int32) τ9) ∨ (X9 = "java/lang/ArithmeticException" ∧ Q (4 : Int32) τ9)) σ
set_option maxHeartbeats 4000000 in
set_option maxRecDepth 100000 in
theorem ceL_held {l : Launch} (hl : l.stackTraces = false) (B : Nat) {a1 : Int32} {a2 : Int32}  {Q : Int32 → ab_S → Prop} {E : String → ab_S → Prop} {σ : ab_S} (hW : Wire σ) (h : wL_held a1 a2 Q E σ) : ab_MtH l yL_held mdL_held B 10 186 4 24 [.ref 0, .int a1, .int a2, .ref 163] σ (fun v σ' => Wire σ' ∧ ∃ r : Int32, v = some (.int r) ∧ Q r σ') (fun X σ' => Wire σ' ∧ E X σ') := by
  refine V_metH hl ⟨rfl, rfl, by decide⟩ dkL_held (Nat.le_of_ble_eq_true rfl) ?_
  show V l mdL_held B 10 186 4 24 (ab_End _ _) 0 [(0, .ref 0), (1, .int a1), (2, .int a2), (3, .ref 163)] [] σ
  refine V_aload_n 0 3 rfl rfl rfl ?_
  refine V_iconst 1 (v := (0 : Int32)) rfl (by decide) ?_
  refine V_aload_n 2 0 rfl rfl rfl ?_
  refine V_iload_n 3 1 rfl rfl rfl ?_
  refine V_iload_n 4 2 rfl rfl rfl ?_
  refine V_callV 5 2 (as := [.int a1, .int a2]) (rest := [.int (0 : Int32), .ref 163]) rfl mlL_85 yvX11_held rfl rfl clX11 (wsh hW rfl) (by decide) (by decide) (Nat.le_of_ble_eq_true rfl) (by decide) (by decide) (fun B9 => ceX11_held hl B9 hW h) (fun X9 τ9 h9 => by
      obtain ⟨hW, h⟩ := h9
      rcases h with ⟨rfl, h⟩ | ⟨rfl, h⟩ | ⟨rfl, h⟩ | ⟨rfl, h⟩
      · exact VX_ret 0 9 (name := "java/lang/IllegalStateException") (i := 4) (v := (1 : Int32)) rfl ⟨by decide, by decide⟩ (by decide) klL_24 ca_IllegalState (fun z hz => by
        have hz : z ∈ [] := hz
        exact absurd hz (by simp)) rfl (Or.inl ⟨rfl, rfl⟩) (by decide) rfl rfl (by decide) rfl ⟨hW, _, rfl, h⟩
      · exact VX_ret 1 12 (name := "java/lang/IndexOutOfBoundsException") (i := 4) (v := (2 : Int32)) rfl ⟨by decide, by decide⟩ (by decide) klL_51 ca_IndexOutOfBounds (fun z hz => by
        have hz : z ∈ [(0, 10, 13, 24)] := hz
        rcases List.mem_cons.mp hz with rfl | hz
        · exact ⟨by decide, "java/lang/IllegalStateException", klL_24, by decide⟩
        exact absurd hz (by simp)) rfl (Or.inl ⟨rfl, rfl⟩) (by decide) rfl rfl (by decide) rfl ⟨hW, _, rfl, h⟩
      · exact VX_ret 2 15 (name := "java/lang/IllegalArgumentException") (i := 4) (v := (3 : Int32)) rfl ⟨by decide, by decide⟩ (by decide) klL_13 ca_IllegalArgument (fun z hz => by
        have hz : z ∈ [(0, 10, 13, 24), (0, 10, 17, 51)] := hz
        rcases List.mem_cons.mp hz with rfl | hz
        · exact ⟨by decide, "java/lang/IllegalStateException", klL_24, by decide⟩
        rcases List.mem_cons.mp hz with rfl | hz
        · exact ⟨by decide, "java/lang/IndexOutOfBoundsException", klL_51, by decide⟩
        exact absurd hz (by simp)) rfl (Or.inl ⟨rfl, rfl⟩) (by decide) rfl rfl (by decide) rfl ⟨hW, _, rfl, h⟩
      · exact VX_ret 3 18 (name := "java/lang/ArithmeticException") (i := 4) (v := (4 : Int32)) rfl ⟨by decide, by decide⟩ (by decide) klL_56 ca_Arithmetic (fun z hz => by
        have hz : z ∈ [(0, 10, 13, 24), (0, 10, 17, 51), (0, 10, 21, 13)] := hz
        rcases List.mem_cons.mp hz with rfl | hz
        · exact ⟨by decide, "java/lang/IllegalStateException", klL_24, by decide⟩
        rcases List.mem_cons.mp hz with rfl | hz
        · exact ⟨by decide, "java/lang/IndexOutOfBoundsException", klL_51, by decide⟩
        rcases List.mem_cons.mp hz with rfl | hz
        · exact ⟨by decide, "java/lang/IllegalArgumentException", klL_13, by decide⟩
        exact absurd hz (by simp)) rfl (Or.inl ⟨rfl, rfl⟩) (by decide) rfl rfl (by decide) rfl ⟨hW, _, rfl, h⟩) ?_
  rintro v9 σ1 ⟨hW, u2, rfl, h⟩
  refine V_i2l 6 rfl ?_
  obtain ⟨hin, h⟩ := h
  refine V_last 7 rfl (wsh hW rfl) hin ?_
  refine V_nm (fun σ3 eσ3 => ?_)
  replace h := h σ3 eσ3
  have hW := wire_L eσ3 hW
  refine V_goto 8 (tgt := 29) rfl (by decide) ?_
  refine V_iconst 21 (v := (0 : Int32)) rfl (by decide) ?_
  exact V_iret 22 rfl rfl ⟨hW, _, rfl, h⟩
