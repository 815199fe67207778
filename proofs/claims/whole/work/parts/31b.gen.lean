def wX1_readRule  (Q : Int32 → ab_S → Prop) (E : String → ab_S → Prop) (σ : ab_S) : Prop := wX1_readSlot (1 : Int32) (fun u2 σ1 => ((u2 = (-1 : Int32)) → Q (0 : Int32) σ1) ∧ (¬ (u2 = (-1 : Int32)) → wX6_take (61 : Int32) (fun u4 σ3 => ((¬ u4 = 0) → ∀ v5 : Int32, v5 = (((σ3.2.1 7 2) * (32 : Int32)) + u2) → ∃ q6, σ3.2.2.2 7 1 = some q6 ∧ isG q6 ∧ (vp_in (σ3.2.1 7 2) 30 ∧ (vp_in (σ3.2.1 7 2) 30 ∧ (∀ σ7 : ab_S, σ7 = ab_I σ3 (q6 + 9) (σ3.2.1 7 2).toNatClampNeg ((σ3.2.1 (q6 + 9) (σ3.2.1 7 2).toNatClampNeg) ||| ((1 : Int32) <<< (u2 &&& 31))) → ∃ q8, σ7.2.2.2 7 1 = some q8 ∧ isG q8 ∧ (∃ q9, σ7.2.2.2 7 1 = some q9 ∧ isG q9 ∧ (vp_in v5 960 ∧ (∀ σ10 : ab_S, σ10 = ab_I σ7 (q8 + 11) v5.toNatClampNeg (σ7.2.1 q9 14) → (∀ σ11 : ab_S, σ11 = ab_I σ10 7 3 (0 : Int32) → ∃ d9, d9 ≤ 60 ∧ wRec d9 0 (0 : Int32) (fun u13 σ12 => ((¬ u13 = 0) → ∃ q14, σ12.2.2.2 7 1 = some q14 ∧ isG q14 ∧ (∃ q15, σ12.2.2.2 7 1 = some q15 ∧ isG q15 ∧ (vp_in v5 960 ∧ (∀ σ16 : ab_S, σ16 = ab_I σ12 (q14 + 12) v5.toNatClampNeg (σ12.2.1 q15 14) → ∃ q17, σ16.2.2.2 7 1 = some q17 ∧ isG q17 ∧ (vp_in v5 960 ∧ (∀ σ18 : ab_S, σ18 = ab_I σ16 (q17 + 10) v5.toNatClampNeg (σ16.2.1 7 3) → wX6_take (59 : Int32) (fun u20 σ19 => (u20 = 0 ∨ u20 = 1) ∧ Q u20 σ19) E σ18)))))) ∧ (¬ (¬ u13 = 0) → Q (0 : Int32) σ12)) E σ11)))))))) ∧ (¬ (¬ u4 = 0) → Q (0 : Int32) σ3)) E σ1)) E σ
set_option maxHeartbeats 4000000 in
set_option maxRecDepth 100000 in
theorem ceX1_readRule {l : Launch} (hl : l.stackTraces = false) (B : Nat)   {Q : Int32 → ab_S → Prop} {E : String → ab_S → Prop} {σ : ab_S} (hW : Wire σ) (h : wX1_readRule  Q E σ) : ab_Mt l yX1_readRule mdX1_readRule B 610 12100 0 0 [.ref 7] σ (fun v σ' => Wire σ' ∧ ∃ r : Int32, v = some (.int r) ∧ Q r σ') (fun X σ' => Wire σ' ∧ E X σ') := by
  refine V_met hl ⟨rfl, rfl, by decide⟩ rfl dkX1_readRule (Nat.le_of_ble_eq_true rfl) ?_
  show V l mdX1_readRule B 610 12100 0 0 (ab_End _ _) 0 [(0, .ref 7)] [] σ
  refine V_aload_n 0 0 rfl rfl rfl ?_
  refine V_iconst 1 (v := (1 : Int32)) rfl (by decide) ?_
  refine V_callV 2 1 (as := [.int (1 : Int32)]) (rest := []) rfl mlX1_119 yvX1_readSlot rfl rfl clX1 (wsh hW rfl) (by decide) (by decide) (Nat.le_of_ble_eq_true rfl) (by decide) (by decide) (fun B9 => ceX1_readSlot hl B9 hW h) (fun X9 τ9 h9 => VX_out rfl h9) ?_
  rintro v9 σ1 ⟨hW, u2, rfl, h⟩
  refine V_istore_n 3 (lv' := [(1, .int u2), (0, .ref 7)]) rfl rfl (by decide) rfl ?_
  refine V_iload_n 4 0 rfl rfl rfl ?_
  refine V_iconst 5 (v := (-1 : Int32)) rfl (by decide) ?_
  refine V_icmp_eq 6 (tgt := 23) rfl (by decide) (fun hc => ?_) (fun hc => ?_)
  · replace h := h.1 hc
    refine V_iconst 12 (v := (0 : Int32)) rfl (by decide) ?_
    exact V_zret 13 rfl rfl rfl ⟨hW, _, rfl, h⟩
  · replace h := h.2 hc
    refine V_pc 11 rfl ?_
    refine V_aload_n 7 1 rfl rfl rfl ?_
    refine V_getR 8 0 rfl clX1 flX1_9 (by decide) (wsh hW rfl) (fun _ => rfl) (wrf hW 16 rfl) ?_
    refine V_bipush 9 (v := (61 : Int32)) rfl (by decide) ?_
    refine V_callV 10 1 (as := [.int (61 : Int32)]) (rest := []) rfl mlX1_43 yvX6_take rfl rfl clX6 (wsh hW rfl) (by decide) (by decide) (Nat.le_of_ble_eq_true rfl) (by decide) (by decide) (fun B9 => ceX6_take hl B9 hW h) (fun X9 τ9 h9 => VX_out rfl h9) ?_
    rintro v9 σ3 ⟨hW, u4, rfl, h⟩
    refine V_if_ne 11 (tgt := 25) rfl (by decide) (fun hc => ?_) (fun hc => ?_)
    · replace h := h.1 hc
      refine V_aload_n 14 1 rfl rfl rfl ?_
      refine V_get (v := .int (σ3.2.1 7 2)) 15 2 rfl clX1 flX1_87 (by decide) (wsh hW rfl) (fun _ => rfl) ?_
      refine V_bipush 16 (v := (32 : Int32)) rfl (by decide) ?_
      refine V_imul 17 rfl ?_
      refine V_iload_n 18 0 rfl rfl rfl ?_
      refine V_iadd 19 rfl ?_
      refine V_pc 34 rfl ?_
      refine V_topi (fun v5 ev5 => ?_)
      replace h := h v5 ev5
      refine V_istore_n 20 (lv' := [(2, .int v5), (1, .int u2), (0, .ref 7)]) rfl rfl (by decide) rfl ?_
      refine V_aload_n 21 2 rfl rfl rfl ?_
      obtain ⟨q6, eq6, hq6, h⟩ := h
      refine V_getR 22 1 rfl clX1 flX1_15 (by decide) (wsh hW rfl) (fun _ => rfl) eq6 ?_
      refine V_getR 23 10 rfl clX0 flX1_102 (by decide) (wG hW hq6) (fun _ => rfl) (wG_f10 hW hq6) ?_
      refine V_aload_n 24 2 rfl rfl rfl ?_
      refine V_get (v := .int (σ3.2.1 7 2)) 25 2 rfl clX1 flX1_87 (by decide) (wsh hW rfl) (fun _ => rfl) ?_
      refine V_pc 46 rfl ?_
      refine V_dup2 26 rfl rfl rfl ?_
      obtain ⟨hin, h⟩ := h
      refine V_iald 27 rfl (wG_a9 hW hq6) hin ?_
      refine V_iconst 28 (v := (1 : Int32)) rfl (by decide) ?_
      refine V_iload_n 29 1 rfl rfl rfl ?_
      refine V_ishl 30 rfl ?_
      refine V_ior 31 rfl ?_
      refine V_pc 52 rfl ?_
      obtain ⟨hin, h⟩ := h
      refine V_iast 32 rfl (wG_a9 hW hq6) hin ?_
      refine V_nm (fun σ7 eσ7 => ?_)
      replace h := h σ7 eσ7
      have hW := wire_I eσ7 hW
      refine V_aload_n 33 2 rfl rfl rfl ?_
      obtain ⟨q8, eq8, hq8, h⟩ := h
      refine V_getR 34 1 rfl clX1 flX1_15 (by decide) (wsh hW rfl) (fun _ => rfl) eq8 ?_
      refine V_getR 35 12 rfl clX0 flX1_123 (by decide) (wG hW hq8) (fun _ => rfl) (wG_f12 hW hq8) ?_
      refine V_iload_n 36 0 rfl rfl rfl ?_
      refine V_aload_n 37 2 rfl rfl rfl ?_
      refine V_pc 62 rfl ?_
      obtain ⟨q9, eq9, hq9, h⟩ := h
      refine V_getR 38 1 rfl clX1 flX1_15 (by decide) (wsh hW rfl) (fun _ => rfl) eq9 ?_
      refine V_get (v := .int (σ7.2.1 q9 14)) 39 14 rfl clX0 flX1_126 (by decide) (wG hW hq9) (fun _ => rfl) ?_
      obtain ⟨hin, h⟩ := h
      refine V_iast 40 rfl (wG_a11 hW hq8) hin ?_
      refine V_nm (fun σ10 eσ10 => ?_)
      replace h := h σ10 eσ10
      have hW := wire_I eσ10 hW
      refine V_aload_n 41 2 rfl rfl rfl ?_
      refine V_iconst 42 (v := (0 : Int32)) rfl (by decide) ?_
      refine V_putI 43 3 rfl clX1 flX1_129 (by decide) (wsh hW rfl) rfl (fun _ _ => rfl) rfl rfl ?_
      refine V_nm (fun σ11 eσ11 => ?_)
      replace h := h σ11 eσ11
      have hW := wire_I eσ11 hW
      refine V_aload_n 44 2 rfl rfl rfl ?_
      refine V_iconst 45 (v := (0 : Int32)) rfl (by decide) ?_
      obtain ⟨d9, hd9, h⟩ := h
      refine V_callV 46 1 (as := [.int (0 : Int32)]) (rest := []) rfl mlX1_132 yvX1_readExpression rfl rfl clX1 (wsh hW rfl) (by omega) (by show 8 + (3 + 11) + 200 * d9 ≤ _; omega) (Nat.le_of_ble_eq_true rfl) (by decide) (by decide) (fun B9 => (ceRec hl d9).1 B9 hW h) (fun X9 τ9 h9 => VX_out rfl h9) ?_
      rintro v9 σ12 ⟨hW, u13, rfl, h⟩
      refine V_if_ne 47 (tgt := 84) rfl (by decide) (fun hc => ?_) (fun hc => ?_)
      · replace h := h.1 hc
        refine V_aload_n 50 2 rfl rfl rfl ?_
        obtain ⟨q14, eq14, hq14, h⟩ := h
        refine V_getR 51 1 rfl clX1 flX1_15 (by decide) (wsh hW rfl) (fun _ => rfl) eq14 ?_
        refine V_getR 52 13 rfl clX0 flX1_135 (by decide) (wG hW hq14) (fun _ => rfl) (wG_f13 hW hq14) ?_
        refine V_iload_n 53 0 rfl rfl rfl ?_
        refine V_aload_n 54 2 rfl rfl rfl ?_
        obtain ⟨q15, eq15, hq15, h⟩ := h
        refine V_getR 55 1 rfl clX1 flX1_15 (by decide) (wsh hW rfl) (fun _ => rfl) eq15 ?_
        refine V_pc 96 rfl ?_
        refine V_get (v := .int (σ12.2.1 q15 14)) 56 14 rfl clX0 flX1_126 (by decide) (wG hW hq15) (fun _ => rfl) ?_
        obtain ⟨hin, h⟩ := h
        refine V_iast 57 rfl (wG_a12 hW hq14) hin ?_
        refine V_nm (fun σ16 eσ16 => ?_)
        replace h := h σ16 eσ16
        have hW := wire_I eσ16 hW
        refine V_aload_n 58 2 rfl rfl rfl ?_
        obtain ⟨q17, eq17, hq17, h⟩ := h
        refine V_getR 59 1 rfl clX1 flX1_15 (by decide) (wsh hW rfl) (fun _ => rfl) eq17 ?_
        refine V_getR 60 11 rfl clX0 flX1_138 (by decide) (wG hW hq17) (fun _ => rfl) (wG_f11 hW hq17) ?_
        refine V_iload_n 61 0 rfl rfl rfl ?_
        refine V_pc 108 rfl ?_
        refine V_aload_n 62 2 rfl rfl rfl ?_
        refine V_get (v := .int (σ16.2.1 7 3)) 63 3 rfl clX1 flX1_129 (by decide) (wsh hW rfl) (fun _ => rfl) ?_
        obtain ⟨hin, h⟩ := h
        refine V_iast 64 rfl (wG_a10 hW hq17) hin ?_
        refine V_nm (fun σ18 eσ18 => ?_)
        replace h := h σ18 eσ18
        have hW := wire_I eσ18 hW
        refine V_aload_n 65 2 rfl rfl rfl ?_
        refine V_getR 66 0 rfl clX1 flX1_9 (by decide) (wsh hW rfl) (fun _ => rfl) (wrf hW 16 rfl) ?_
        refine V_bipush 67 (v := (59 : Int32)) rfl (by decide) ?_
        refine V_pc 119 rfl ?_
        refine V_callV 68 1 (as := [.int (59 : Int32)]) (rest := []) rfl mlX1_43 yvX6_take rfl rfl clX6 (wsh hW rfl) (by decide) (by decide) (Nat.le_of_ble_eq_true rfl) (by decide) (by decide) (fun B9 => ceX6_take hl B9 hW h) (fun X9 τ9 h9 => VX_out rfl h9) ?_
        rintro v9 σ19 ⟨hW, u20, rfl, h⟩
        exact V_zret 69 rfl rfl (nb1 h.1) ⟨hW, _, rfl, h.2⟩
      · replace h := h.2 hc
        refine V_pc 82 rfl ?_
        refine V_iconst 48 (v := (0 : Int32)) rfl (by decide) ?_
        exact V_zret 49 rfl rfl rfl ⟨hW, _, rfl, h⟩
    · replace h := h.2 hc
      refine V_pc 23 rfl ?_
      refine V_iconst 12 (v := (0 : Int32)) rfl (by decide) ?_
      exact V_zret 13 rfl rfl rfl ⟨hW, _, rfl, h⟩

def wX5_first (a0 : Int32) (a1 : Int32) (Q : Int32 → ab_S → Prop) (E : String → ab_S → Prop) (σ : ab_S) : Prop := vp_in ((a0 * (7 : Int32)) + a1) 210 ∧ (Q (σ.2.1 27 ((a0 * (7 : Int32)) + a1).toNatClampNeg) σ)
set_option maxHeartbeats 4000000 in
set_option maxRecDepth 100000 in
theorem ceX5_first {l : Launch} (hl : l.stackTraces = false) (B : Nat) {a0 : Int32} {a1 : Int32}  {Q : Int32 → ab_S → Prop} {E : String → ab_S → Prop} {σ : ab_S} (hW : Wire σ) (h : wX5_first a0 a1 Q E σ) : ab_Mt l yX5_first mdX5_first B 0 0 0 0 [.ref 23, .int a0, .int a1] σ (fun v σ' => Wire σ' ∧ ∃ r : Int32, v = some (.int r) ∧ Q r σ') (fun X σ' => Wire σ' ∧ E X σ') := by
  refine V_met hl ⟨rfl, rfl, by decide⟩ rfl dkX5_first (Nat.le_of_ble_eq_true rfl) ?_
  show V l mdX5_first B 0 0 0 0 (ab_End _ _) 0 [(0, .ref 23), (1, .int a0), (2, .int a1)] [] σ
  refine V_aload_n 0 0 rfl rfl rfl ?_
  refine V_getR 1 6 rfl clX5 flX5_21 (by decide) (wsh hW rfl) (fun _ => rfl) (wrf hW 35 rfl) ?_
  refine V_iload_n 2 1 rfl rfl rfl ?_
  refine V_bipush 3 (v := (7 : Int32)) rfl (by decide) ?_
  refine V_imul 4 rfl ?_
  refine V_iload_n 5 2 rfl rfl rfl ?_
  refine V_pc 9 rfl ?_
  refine V_iadd 6 rfl ?_
  obtain ⟨hin, h⟩ := h
  refine V_iald 7 rfl (wsh hW rfl) hin ?_
  exact V_iret 8 rfl rfl ⟨hW, _, rfl, h⟩

def wX2_enter (this : Nat) (a0 : Int32) (a1 : Int32) (Q : ab_S → Prop) (E : String → ab_S → Prop) (σ : ab_S) : Prop := (((250 : Int32) ≤ (σ.2.1 this 11)) → Q σ) ∧ (¬ ((250 : Int32) ≤ (σ.2.1 this 11)) → vp_in a0 250 ∧ (vp_in a0 250 ∧ (∀ σ1 : ab_S, σ1 = ab_I σ (this + 4) a0.toNatClampNeg ((σ.2.1 (this + 4) a0.toNatClampNeg) + (1 : Int32)) → vp_in (σ1.2.1 this 11) 250 ∧ (∀ σ2 : ab_S, σ2 = ab_I σ1 (this + 5) (σ1.2.1 this 11).toNatClampNeg a0 → vp_in (σ2.2.1 this 11) 250 ∧ (∀ σ3 : ab_S, σ3 = ab_I σ2 (this + 6) (σ2.2.1 this 11).toNatClampNeg a1 → (∀ σ4 : ab_S, σ4 = ab_I σ3 this 11 ((σ3.2.1 this 11) + (1 : Int32)) → ∃ q5, σ4.2.2.2 this 3 = some q5 ∧ isT q5 ∧ (vp_in a0 250 ∧ (vp_in a0 250 ∧ (wX5_first (σ4.2.1 (q5 + 1) a0.toNatClampNeg) (σ4.2.1 (this + 4) a0.toNatClampNeg) (fun u7 σ6 => (∀ σ8 : ab_S, σ8 = ab_I σ6 this 10 u7 → Q σ8)) E σ4)))))))))
set_option maxHeartbeats 4000000 in
set_option maxRecDepth 100000 in
theorem ceX2_enter {l : Launch} (hl : l.stackTraces = false) (B : Nat) {this : Nat} {a0 : Int32} {a1 : Int32} (hthis : isM this) {Q : ab_S → Prop} {E : String → ab_S → Prop} {σ : ab_S} (hW : Wire σ) (h : wX2_enter this a0 a1 Q E σ) : ab_Mt l yX2_enter mdX2_enter B 1 22 0 0 [.ref this, .int a0, .int a1] σ (fun v σ' => Wire σ' ∧ v = none ∧ Q σ') (fun X σ' => Wire σ' ∧ E X σ') := by
  refine V_met hl ⟨rfl, rfl, by decide⟩ rfl dkX2_enter (Nat.le_of_ble_eq_true rfl) ?_
  show V l mdX2_enter B 1 22 0 0 (ab_End _ _) 0 [(0, .ref this), (1, .int a0), (2, .int a1)] [] σ
  refine V_aload_n 0 0 rfl rfl rfl ?_
  refine V_get (v := .int (σ.2.1 this 11)) 1 11 rfl clX2 flX2_56 (by decide) (wM hW hthis) (fun _ => rfl) ?_
  refine V_sipush 2 (v := (250 : Int32)) rfl (by decide) ?_
  refine V_icmp_ge 3 (tgt := 76) rfl (by decide) (fun hc => ?_) (fun hc => ?_)
  · replace h := h.1 hc
    exact V_vret 44 rfl rfl ⟨hW, rfl, h⟩
  · replace h := h.2 hc
    refine V_pc 10 rfl ?_
    refine V_aload_n 4 0 rfl rfl rfl ?_
    refine V_getR 5 7 rfl clX2 flX2_21 (by decide) (wM hW hthis) (fun _ => rfl) (wM_f7 hW hthis) ?_
    refine V_iload_n 6 1 rfl rfl rfl ?_
    refine V_dup2 7 rfl rfl rfl ?_
    obtain ⟨hin, h⟩ := h
    refine V_iald 8 rfl (wM_a4 hW hthis) hin ?_
    refine V_iconst 9 (v := (1 : Int32)) rfl (by decide) ?_
    refine V_pc 18 rfl ?_
    refine V_iadd 10 rfl ?_
    obtain ⟨hin, h⟩ := h
    refine V_iast 11 rfl (wM_a4 hW hthis) hin ?_
    refine V_nm (fun σ1 eσ1 => ?_)
    replace h := h σ1 eσ1
    have hW := wire_I eσ1 hW
    refine V_aload_n 12 0 rfl rfl rfl ?_
    refine V_getR 13 8 rfl clX2 flX2_25 (by decide) (wM hW hthis) (fun _ => rfl) (wM_f8 hW hthis) ?_
    refine V_aload_n 14 0 rfl rfl rfl ?_
    refine V_get (v := .int (σ1.2.1 this 11)) 15 11 rfl clX2 flX2_56 (by decide) (wM hW hthis) (fun _ => rfl) ?_
    refine V_pc 28 rfl ?_
    refine V_iload_n 16 1 rfl rfl rfl ?_
    obtain ⟨hin, h⟩ := h
    refine V_iast 17 rfl (wM_a5 hW hthis) hin ?_
    refine V_nm (fun σ2 eσ2 => ?_)
    replace h := h σ2 eσ2
    have hW := wire_I eσ2 hW
    refine V_aload_n 18 0 rfl rfl rfl ?_
    refine V_getR 19 9 rfl clX2 flX2_28 (by decide) (wM hW hthis) (fun _ => rfl) (wM_f9 hW hthis) ?_
    refine V_aload_n 20 0 rfl rfl rfl ?_
    refine V_get (v := .int (σ2.2.1 this 11)) 21 11 rfl clX2 flX2_56 (by decide) (wM hW hthis) (fun _ => rfl) ?_
    refine V_pc 38 rfl ?_
    refine V_iload_n 22 2 rfl rfl rfl ?_
    obtain ⟨hin, h⟩ := h
    refine V_iast 23 rfl (wM_a6 hW hthis) hin ?_
    refine V_nm (fun σ3 eσ3 => ?_)
    replace h := h σ3 eσ3
    have hW := wire_I eσ3 hW
    refine V_aload_n 24 0 rfl rfl rfl ?_
    refine V_dup 25 rfl rfl ?_
    refine V_get (v := .int (σ3.2.1 this 11)) 26 11 rfl clX2 flX2_56 (by decide) (wM hW hthis) (fun _ => rfl) ?_
    refine V_iconst 27 (v := (1 : Int32)) rfl (by decide) ?_
    refine V_pc 46 rfl ?_
    refine V_iadd 28 rfl ?_
    refine V_putI 29 11 rfl clX2 flX2_56 (by decide) (wM hW hthis) rfl (fun _ _ => rfl) rfl rfl ?_
    refine V_nm (fun σ4 eσ4 => ?_)
    replace h := h σ4 eσ4
    have hW := wire_I eσ4 hW
    refine V_aload_n 30 0 rfl rfl rfl ?_
    refine V_aload_n 31 0 rfl rfl rfl ?_
    refine V_getR 32 0 rfl clX2 flX2_31 (by decide) (wM hW hthis) (fun _ => rfl) (wM_f0 hW hthis) ?_
    refine V_aload_n 33 0 rfl rfl rfl ?_
    obtain ⟨q5, eq5, hq5, h⟩ := h
    refine V_getR 34 3 rfl clX2 flX2_43 (by decide) (wM hW hthis) (fun _ => rfl) eq5 ?_
    refine V_pc 59 rfl ?_
    refine V_getR 35 1 rfl clX9 flX2_77 (by decide) (wT hW hq5) (fun _ => rfl) (wT_f1 hW hq5) ?_
    refine V_iload_n 36 1 rfl rfl rfl ?_
    obtain ⟨hin, h⟩ := h
    refine V_iald 37 rfl (wT_a1 hW hq5) hin ?_
    refine V_aload_n 38 0 rfl rfl rfl ?_
    refine V_getR 39 7 rfl clX2 flX2_21 (by decide) (wM hW hthis) (fun _ => rfl) (wM_f7 hW hthis) ?_
    refine V_iload_n 40 1 rfl rfl rfl ?_
    refine V_pc 69 rfl ?_
    obtain ⟨hin, h⟩ := h
    refine V_iald 41 rfl (wM_a4 hW hthis) hin ?_
    refine V_callV 42 2 (as := [.int (σ4.2.1 (q5 + 1) a0.toNatClampNeg), .int (σ4.2.1 (this + 4) a0.toNatClampNeg)]) (rest := [.ref this]) rfl mlX2_82 yvX5_first rfl rfl clX5 (wsh hW rfl) (by decide) (by decide) (Nat.le_of_ble_eq_true rfl) (by decide) (by decide) (fun B9 => ceX5_first hl B9 hW h) (fun X9 τ9 h9 => VX_out rfl h9) ?_
    rintro v9 σ6 ⟨hW, u7, rfl, h⟩
    refine V_putI 43 10 rfl clX2 flX2_70 (by decide) (wM hW hthis) rfl (fun _ _ => rfl) rfl rfl ?_
    refine V_nm (fun σ8 eσ8 => ?_)
    replace h := h σ8 eσ8
    have hW := wire_I eσ8 hW
    exact V_vret 44 rfl rfl ⟨hW, rfl, h⟩

def wX2_restart (this : Nat) (a0 : Nat) (a1 : Nat) (Q : ab_S → Prop) (E : String → ab_S → Prop) (σ : ab_S) : Prop := (∀ σ1 : ab_S, σ1 = ab_R σ this 2 (some a0) → (∀ σ2 : ab_S, σ2 = ab_R σ1 this 3 (some a1) → wJ7_fill_d0a16 (this + 1) 2000 (0 : Int64) (fun σ3 => wJ7_fill_d0a16 (this + 2) 96 (0 : Int64) (fun σ4 => wJ7_fill_53178 (this + 4) 250 (0 : Int32) (fun σ5 => (∀ σ6 : ab_S, σ6 = ab_I σ5 this 11 (0 : Int32) → (∀ σ7 : ab_S, σ7 = ab_I σ6 this 12 (0 : Int32) → (∀ σ8 : ab_S, σ8 = ab_I σ7 this 13 (0 : Int32) → wX2_enter this (0 : Int32) (-1 : Int32) (fun σ9 => Q σ9) E σ8)))) E σ4) E σ3) E σ2))
set_option maxHeartbeats 4000000 in
set_option maxRecDepth 100000 in
theorem ceX2_restart {l : Launch} (hl : l.stackTraces = false) (B : Nat) {this : Nat} {a0 : Nat} {a1 : Nat} (hthis : isM this) (ha0 : isG a0) (ha1 : isT a1) {Q : ab_S → Prop} {E : String → ab_S → Prop} {σ : ab_S} (hW : Wire σ) (h : wX2_restart this a0 a1 Q E σ) : ab_Mt l yX2_restart mdX2_restart B 2 44 0 0 [.ref this, .ref a0, .ref a1] σ (fun v σ' => Wire σ' ∧ v = none ∧ Q σ') (fun X σ' => Wire σ' ∧ E X σ') := by
  refine V_met hl ⟨rfl, rfl, by decide⟩ rfl dkX2_restart (Nat.le_of_ble_eq_true rfl) ?_
  show V l mdX2_restart B 2 44 0 0 (ab_End _ _) 0 [(0, .ref this), (1, .ref a0), (2, .ref a1)] [] σ
  refine V_aload_n 0 0 rfl rfl rfl ?_
  refine V_aload_n 1 1 rfl rfl rfl ?_
  refine V_putR (x := some a0) 2 2 rfl clX2 flX2_39 (by decide) (wM hW hthis) rfl (fun _ _ => rfl) (fun v9 h9 => by rcases h9 with rfl | ⟨a9, rfl⟩ <;> exact ⟨rfl, rfl⟩) ?_
  refine V_nm (fun σ1 eσ1 => ?_)
  replace h := h σ1 eσ1
  have hW := wM_r2 eσ1 hthis hW
  refine V_aload_n 3 0 rfl rfl rfl ?_
  refine V_aload_n 4 2 rfl rfl rfl ?_
  refine V_putR (x := some a1) 5 3 rfl clX2 flX2_43 (by decide) (wM hW hthis) rfl (fun _ _ => rfl) (fun v9 h9 => by rcases h9 with rfl | ⟨a9, rfl⟩ <;> exact ⟨rfl, rfl⟩) ?_
  refine V_nm (fun σ2 eσ2 => ?_)
  replace h := h σ2 eσ2
  have hW := wM_r3 eσ2 hthis hW
  refine V_aload_n 6 0 rfl rfl rfl ?_
  refine V_getR 7 4 rfl clX2 flX2_9 (by decide) (wM hW hthis) (fun _ => rfl) (wM_f4 hW hthis) ?_
  refine V_lconst 8 (v := (0 : Int64)) rfl (by decide) ?_
  refine V_callS 9 2 (as := [.ref (this + 1), .long (0 : Int64)]) (rest := []) rfl mlX2_47 yvJ7_fill_d0a16 rfl rfl (by decide) (by decide) (Nat.le_of_ble_eq_true rfl) (by decide) (by decide) (fun B9 => ceJ7_fill_d0a16 hl B9 (wM_s1 hthis) hW h) (fun X9 τ9 h9 => VX_out rfl h9) ?_
  rintro v9 σ3 ⟨hW, rfl, h⟩
  refine V_aload_n 10 0 rfl rfl rfl ?_
  refine V_getR 11 5 rfl clX2 flX2_15 (by decide) (wM hW hthis) (fun _ => rfl) (wM_f5 hW hthis) ?_
  refine V_lconst 12 (v := (0 : Int64)) rfl (by decide) ?_
  refine V_callS 13 2 (as := [.ref (this + 2), .long (0 : Int64)]) (rest := []) rfl mlX2_47 yvJ7_fill_d0a16 rfl rfl (by decide) (by decide) (Nat.le_of_ble_eq_true rfl) (by decide) (by decide) (fun B9 => ceJ7_fill_d0a16 hl B9 (wM_s2 hthis) hW h) (fun X9 τ9 h9 => VX_out rfl h9) ?_
  rintro v9 σ4 ⟨hW, rfl, h⟩
  refine V_aload_n 14 0 rfl rfl rfl ?_
  refine V_getR 15 7 rfl clX2 flX2_21 (by decide) (wM hW hthis) (fun _ => rfl) (wM_f7 hW hthis) ?_
  refine V_iconst 16 (v := (0 : Int32)) rfl (by decide) ?_
  refine V_callS 17 2 (as := [.ref (this + 4), .int (0 : Int32)]) (rest := []) rfl mlX2_53 yvJ7_fill_53178 rfl rfl (by decide) (by decide) (Nat.le_of_ble_eq_true rfl) (by decide) (by decide) (fun B9 => ceJ7_fill_53178 hl B9 (wM_s4 hthis) hW h) (fun X9 τ9 h9 => VX_out rfl h9) ?_
  rintro v9 σ5 ⟨hW, rfl, h⟩
  refine V_aload_n 18 0 rfl rfl rfl ?_
  refine V_iconst 19 (v := (0 : Int32)) rfl (by decide) ?_
  refine V_putI 20 11 rfl clX2 flX2_56 (by decide) (wM hW hthis) rfl (fun _ _ => rfl) rfl rfl ?_
  refine V_nm (fun σ6 eσ6 => ?_)
  replace h := h σ6 eσ6
  have hW := wire_I eσ6 hW
  refine V_aload_n 21 0 rfl rfl rfl ?_
  refine V_iconst 22 (v := (0 : Int32)) rfl (by decide) ?_
  refine V_putI 23 12 rfl clX2 flX2_60 (by decide) (wM hW hthis) rfl (fun _ _ => rfl) rfl rfl ?_
  refine V_nm (fun σ7 eσ7 => ?_)
  replace h := h σ7 eσ7
  have hW := wire_I eσ7 hW
  refine V_aload_n 24 0 rfl rfl rfl ?_
  refine V_iconst 25 (v := (0 : Int32)) rfl (by decide) ?_
  refine V_putI 26 13 rfl clX2 flX2_63 (by decide) (wM hW hthis) rfl (fun _ _ => rfl) rfl rfl ?_
  refine V_nm (fun σ8 eσ8 => ?_)
  replace h := h σ8 eσ8
  have hW := wire_I eσ8 hW
  refine V_aload_n 27 0 rfl rfl rfl ?_
  refine V_iconst 28 (v := (0 : Int32)) rfl (by decide) ?_
  refine V_iconst 29 (v := (-1 : Int32)) rfl (by decide) ?_
  refine V_callV 30 2 (as := [.int (0 : Int32), .int (-1 : Int32)]) (rest := []) rfl mlX2_66 yvX2_enter rfl rfl clX2 (wM hW hthis) (by decide) (by decide) (Nat.le_of_ble_eq_true rfl) (by decide) (by decide) (fun B9 => ceX2_enter hl B9 hthis hW h) (fun X9 τ9 h9 => VX_out rfl h9) ?_
  rintro v9 σ9 ⟨hW, rfl, h⟩
  exact V_vret 31 rfl rfl ⟨hW, rfl, h⟩

def wX2_lastNode (this : Nat) (Q : Int32 → ab_S → Prop) (E : String → ab_S → Prop) (σ : ab_S) : Prop := ((¬ (σ.2.1 this 11) = 0) → vp_in ((σ.2.1 this 11) - (1 : Int32)) 250 ∧ (Q (σ.2.1 (this + 5) ((σ.2.1 this 11) - (1 : Int32)).toNatClampNeg) σ)) ∧ (¬ (¬ (σ.2.1 this 11) = 0) → Q (-1 : Int32) σ)
set_option maxHeartbeats 4000000 in
set_option maxRecDepth 100000 in
theorem ceX2_lastNode {l : Launch} (hl : l.stackTraces = false) (B : Nat) {this : Nat} (hthis : isM this) {Q : Int32 → ab_S → Prop} {E : String → ab_S → Prop} {σ : ab_S} (hW : Wire σ) (h : wX2_lastNode this Q E σ) : ab_Mt l yX2_lastNode mdX2_lastNode B 0 0 0 0 [.ref this] σ (fun v σ' => Wire σ' ∧ ∃ r : Int32, v = some (.int r) ∧ Q r σ') (fun X σ' => Wire σ' ∧ E X σ') := by
  refine V_met hl ⟨rfl, rfl, by decide⟩ rfl dkX2_lastNode (Nat.le_of_ble_eq_true rfl) ?_
  show V l mdX2_lastNode B 0 0 0 0 (ab_End _ _) 0 [(0, .ref this)] [] σ
  refine V_aload_n 0 0 rfl rfl rfl ?_
  refine V_get (v := .int (σ.2.1 this 11)) 1 11 rfl clX2 flX2_56 (by decide) (wM hW hthis) (fun _ => rfl) ?_
  refine V_if_ne 2 (tgt := 11) rfl (by decide) (fun hc => ?_) (fun hc => ?_)
  · replace h := h.1 hc
    refine V_aload_n 5 0 rfl rfl rfl ?_
    refine V_getR 6 8 rfl clX2 flX2_25 (by decide) (wM hW hthis) (fun _ => rfl) (wM_f8 hW hthis) ?_
    refine V_aload_n 7 0 rfl rfl rfl ?_
    refine V_get (v := .int (σ.2.1 this 11)) 8 11 rfl clX2 flX2_56 (by decide) (wM hW hthis) (fun _ => rfl) ?_
    refine V_iconst 9 (v := (1 : Int32)) rfl (by decide) ?_
    refine V_isub 10 rfl ?_
    refine V_pc 21 rfl ?_
    obtain ⟨hin, h⟩ := h
    refine V_iald 11 rfl (wM_a5 hW hthis) hin ?_
    exact V_iret 12 rfl rfl ⟨hW, _, rfl, h⟩
  · replace h := h.2 hc
    refine V_pc 7 rfl ?_
    refine V_iconst 3 (v := (-1 : Int32)) rfl (by decide) ?_
    refine V_goto 4 (tgt := 22) rfl (by decide) ?_
    exact V_iret 12 rfl rfl ⟨hW, _, rfl, h⟩

def wX2_push (this : Nat) (a0 : Int64) (Q : ab_S → Prop) (E : String → ab_S → Prop) (σ : ab_S) : Prop := (((40 : Int32) ≤ (σ.2.1 this 12)) → Q σ) ∧ (¬ ((40 : Int32) ≤ (σ.2.1 this 12)) → vp_in (σ.2.1 this 12) 40 ∧ (∀ σ1 : ab_S, σ1 = ab_L σ (this + 3) (σ.2.1 this 12).toNatClampNeg a0 → (∀ σ2 : ab_S, σ2 = ab_I σ1 this 12 ((σ1.2.1 this 12) + (1 : Int32)) → Q σ2)))
set_option maxHeartbeats 4000000 in
set_option maxRecDepth 100000 in
theorem ceX2_push {l : Launch} (hl : l.stackTraces = false) (B : Nat) {this : Nat} {a0 : Int64} (hthis : isM this) {Q : ab_S → Prop} {E : String → ab_S → Prop} {σ : ab_S} (hW : Wire σ) (h : wX2_push this a0 Q E σ) : ab_Mt l yX2_push mdX2_push B 0 0 0 0 [.ref this, .long a0] σ (fun v σ' => Wire σ' ∧ v = none ∧ Q σ') (fun X σ' => Wire σ' ∧ E X σ') := by
  refine V_met hl ⟨rfl, rfl, by decide⟩ rfl dkX2_push (Nat.le_of_ble_eq_true rfl) ?_
  show V l mdX2_push B 0 0 0 0 (ab_End _ _) 0 [(0, .ref this), (1, .long a0)] [] σ
  refine V_aload_n 0 0 rfl rfl rfl ?_
  refine V_get (v := .int (σ.2.1 this 12)) 1 12 rfl clX2 flX2_60 (by decide) (wM hW hthis) (fun _ => rfl) ?_
  refine V_bipush 2 (v := (40 : Int32)) rfl (by decide) ?_
  refine V_icmp_ge 3 (tgt := 29) rfl (by decide) (fun hc => ?_) (fun hc => ?_)
  · replace h := h.1 hc
    exact V_vret 16 rfl rfl ⟨hW, rfl, h⟩
  · replace h := h.2 hc
    refine V_pc 9 rfl ?_
    refine V_aload_n 4 0 rfl rfl rfl ?_
    refine V_getR 5 6 rfl clX2 flX2_18 (by decide) (wM hW hthis) (fun _ => rfl) (wM_f6 hW hthis) ?_
    refine V_aload_n 6 0 rfl rfl rfl ?_
    refine V_get (v := .int (σ.2.1 this 12)) 7 12 rfl clX2 flX2_60 (by decide) (wM hW hthis) (fun _ => rfl) ?_
    refine V_lload_n 8 1 rfl rfl rfl ?_
    obtain ⟨hin, h⟩ := h
    refine V_last 9 rfl (wM_a3 hW hthis) hin ?_
    refine V_nm (fun σ1 eσ1 => ?_)
    replace h := h σ1 eσ1
    have hW := wire_L eσ1 hW
    refine V_pc 19 rfl ?_
    refine V_aload_n 10 0 rfl rfl rfl ?_
    refine V_dup 11 rfl rfl ?_
    refine V_get (v := .int (σ1.2.1 this 12)) 12 12 rfl clX2 flX2_60 (by decide) (wM hW hthis) (fun _ => rfl) ?_
    refine V_iconst 13 (v := (1 : Int32)) rfl (by decide) ?_
    refine V_iadd 14 rfl ?_
    refine V_putI 15 12 rfl clX2 flX2_60 (by decide) (wM hW hthis) rfl (fun _ _ => rfl) rfl rfl ?_
    refine V_nm (fun σ2 eσ2 => ?_)
    replace h := h σ2 eσ2
    have hW := wire_I eσ2 hW
    exact V_vret 16 rfl rfl ⟨hW, rfl, h⟩

def wX2_isVariable_j18 (this : Nat) (a0 : Int32) (Q : Int32 → ab_S → Prop) (E : String → ab_S → Prop)  (σ : ab_S) : Prop := Q (1 : Int32) σ
def wX2_isVariable (this : Nat) (a0 : Int32) (Q : Int32 → ab_S → Prop) (E : String → ab_S → Prop) (σ : ab_S) : Prop := ((¬ (σ.2.1 this 1) = 0) → Q (0 : Int32) σ) ∧ (¬ (¬ (σ.2.1 this 1) = 0) → ((a0 = (3 : Int32)) → wX2_isVariable_j18 this a0 Q E σ) ∧ (¬ (a0 = (3 : Int32)) → ((¬ a0 = (16 : Int32)) → Q (0 : Int32) σ) ∧ (¬ (¬ a0 = (16 : Int32)) → wX2_isVariable_j18 this a0 Q E σ)))
set_option maxHeartbeats 4000000 in
set_option maxRecDepth 100000 in
theorem ceX2_isVariable {l : Launch} (hl : l.stackTraces = false) (B : Nat) {this : Nat} {a0 : Int32} (hthis : isM this) {Q : Int32 → ab_S → Prop} {E : String → ab_S → Prop} {σ : ab_S} (hW : Wire σ) (h : wX2_isVariable this a0 Q E σ) : ab_Mt l yX2_isVariable mdX2_isVariable B 0 0 0 0 [.ref this, .int a0] σ (fun v σ' => Wire σ' ∧ ∃ r : Int32, v = some (.int r) ∧ Q r σ') (fun X σ' => Wire σ' ∧ E X σ') := by
  refine V_met hl ⟨rfl, rfl, by decide⟩ rfl dkX2_isVariable (Nat.le_of_ble_eq_true rfl) ?_
  show V l mdX2_isVariable B 0 0 0 0 (ab_End _ _) 0 [(0, .ref this), (1, .int a0)] [] σ
  revert h hW
  revert σ
  have k_j18 : ∀   (σ : ab_S), Wire σ → wX2_isVariable_j18 this a0 Q E  σ → V l mdX2_isVariable B 0 0 0 0 (ab_End (fun v σ' => Wire σ' ∧ ∃ r : Int32, v = some (.int r) ∧ Q r σ') (fun X σ' => Wire σ' ∧ E X σ')) 18 [] [] σ := by
    intro   σ hW h
    refine V_iconst 9 (v := (1 : Int32)) rfl (by decide) ?_
    refine V_goto 10 (tgt := 23) rfl (by decide) ?_
    exact V_zret 12 rfl rfl rfl ⟨hW, _, rfl, h⟩
  intro σ hW h
  refine V_aload_n 0 0 rfl rfl rfl ?_
  refine V_get (v := .int (σ.2.1 this 1)) 1 1 rfl clX2 flX2_35 (by decide) (wM hW hthis) (fun _ => rfl) ?_
  refine V_if_ne 2 (tgt := 22) rfl (by decide) (fun hc => ?_) (fun hc => ?_)
  · replace h := h.1 hc
    refine V_iconst 11 (v := (0 : Int32)) rfl (by decide) ?_
    exact V_zret 12 rfl rfl rfl ⟨hW, _, rfl, h⟩
  · replace h := h.2 hc
    refine V_pc 7 rfl ?_
    refine V_iload_n 3 1 rfl rfl rfl ?_
    refine V_iconst 4 (v := (3 : Int32)) rfl (by decide) ?_
    refine V_icmp_eq 5 (tgt := 18) rfl (by decide) (fun hc => ?_) (fun hc => ?_)
    · replace h := h.1 hc
      refine V_sub [] (lv' := []) rfl ?_
      exact k_j18 σ hW h
    · replace h := h.2 hc
      refine V_pc 12 rfl ?_
      refine V_iload_n 6 1 rfl rfl rfl ?_
      refine V_bipush 7 (v := (16 : Int32)) rfl (by decide) ?_
      refine V_icmp_ne 8 (tgt := 22) rfl (by decide) (fun hc => ?_) (fun hc => ?_)
      · replace h := h.1 hc
        refine V_iconst 11 (v := (0 : Int32)) rfl (by decide) ?_
        exact V_zret 12 rfl rfl rfl ⟨hW, _, rfl, h⟩
      · replace h := h.2 hc
        refine V_pc 18 rfl ?_
        refine V_sub [] (lv' := []) rfl ?_
        exact k_j18 σ hW h

def wX9_nodeAt (this : Nat) (a0 : Int32) (a1 : Int32) (Q : Int32 → ab_S → Prop) (E : String → ab_S → Prop) (σ : ab_S) : Prop := vp_in ((a0 * (4 : Int32)) + a1) 1000 ∧ (Q (σ.2.1 (this + 5) ((a0 * (4 : Int32)) + a1).toNatClampNeg) σ)
set_option maxHeartbeats 4000000 in
set_option maxRecDepth 100000 in
theorem ceX9_nodeAt {l : Launch} (hl : l.stackTraces = false) (B : Nat) {this : Nat} {a0 : Int32} {a1 : Int32} (hthis : isT this) {Q : Int32 → ab_S → Prop} {E : String → ab_S → Prop} {σ : ab_S} (hW : Wire σ) (h : wX9_nodeAt this a0 a1 Q E σ) : ab_Mt l yX9_nodeAt mdX9_nodeAt B 0 0 0 0 [.ref this, .int a0, .int a1] σ (fun v σ' => Wire σ' ∧ ∃ r : Int32, v = some (.int r) ∧ Q r σ') (fun X σ' => Wire σ' ∧ E X σ') := by
  refine V_met hl ⟨rfl, rfl, by decide⟩ rfl dkX9_nodeAt (Nat.le_of_ble_eq_true rfl) ?_
  show V l mdX9_nodeAt B 0 0 0 0 (ab_End _ _) 0 [(0, .ref this), (1, .int a0), (2, .int a1)] [] σ
  refine V_aload_n 0 0 rfl rfl rfl ?_
  refine V_getR 1 5 rfl clX9 flX9_24 (by decide) (wT hW hthis) (fun _ => rfl) (wT_f5 hW hthis) ?_
  refine V_iload_n 2 1 rfl rfl rfl ?_
  refine V_iconst 3 (v := (4 : Int32)) rfl (by decide) ?_
  refine V_imul 4 rfl ?_
  refine V_iload_n 5 2 rfl rfl rfl ?_
  refine V_pc 8 rfl ?_
  refine V_iadd 6 rfl ?_
  obtain ⟨hin, h⟩ := h
  refine V_iald 7 rfl (wT_a5 hW hthis) hin ?_
  exact V_iret 8 rfl rfl ⟨hW, _, rfl, h⟩

def wX2_keptAt (this : Nat) (a0 : Int32) (a1 : Int32) (Q : Int32 → ab_S → Prop) (E : String → ab_S → Prop) (σ : ab_S) : Prop := ∃ q1, σ.2.2.2 this 3 = some q1 ∧ isT q1 ∧ (wX9_nodeAt q1 a0 (a1 / (8 : Int32)) (fun u3 σ2 => Q ((u3 * (8 : Int32)) + (a1 - a1 / (8 : Int32) * (8 : Int32))) σ2) E σ)
set_option maxHeartbeats 4000000 in
set_option maxRecDepth 100000 in
theorem ceX2_keptAt {l : Launch} (hl : l.stackTraces = false) (B : Nat) {this : Nat} {a0 : Int32} {a1 : Int32} (hthis : isM this) {Q : Int32 → ab_S → Prop} {E : String → ab_S → Prop} {σ : ab_S} (hW : Wire σ) (h : wX2_keptAt this a0 a1 Q E σ) : ab_Mt l yX2_keptAt mdX2_keptAt B 1 22 0 0 [.ref this, .int a0, .int a1] σ (fun v σ' => Wire σ' ∧ ∃ r : Int32, v = some (.int r) ∧ Q r σ') (fun X σ' => Wire σ' ∧ E X σ') := by
  refine V_met hl ⟨rfl, rfl, by decide⟩ rfl dkX2_keptAt (Nat.le_of_ble_eq_true rfl) ?_
  show V l mdX2_keptAt B 1 22 0 0 (ab_End _ _) 0 [(0, .ref this), (1, .int a0), (2, .int a1)] [] σ
  refine V_aload_n 0 0 rfl rfl rfl ?_
  obtain ⟨q1, eq1, hq1, h⟩ := h
  refine V_getR 1 3 rfl clX2 flX2_43 (by decide) (wM hW hthis) (fun _ => rfl) eq1 ?_
  refine V_iload_n 2 1 rfl rfl rfl ?_
  refine V_iload_n 3 2 rfl rfl rfl ?_
  refine V_bipush 4 (v := (8 : Int32)) rfl (by decide) ?_
  refine V_idiv 5 rfl (by decide) ?_
  refine V_pc 9 rfl ?_
  refine V_callV 6 2 (as := [.int a0, .int (a1 / (8 : Int32))]) (rest := []) rfl mlX2_134 yvX9_nodeAt rfl rfl clX9 (wT hW hq1) (by decide) (by decide) (Nat.le_of_ble_eq_true rfl) (by decide) (by decide) (fun B9 => ceX9_nodeAt hl B9 hq1 hW h) (fun X9 τ9 h9 => VX_out rfl h9) ?_
  rintro v9 σ2 ⟨hW, u3, rfl, h⟩
  refine V_bipush 7 (v := (8 : Int32)) rfl (by decide) ?_
  refine V_imul 8 rfl ?_
  refine V_iload_n 9 2 rfl rfl rfl ?_
  refine V_bipush 10 (v := (8 : Int32)) rfl (by decide) ?_
  refine V_irem 11 rfl (by decide) ?_
  refine V_pc 19 rfl ?_
  refine V_iadd 12 rfl ?_
  exact V_iret 13 rfl rfl ⟨hW, _, rfl, h⟩

def wX2_pop (this : Nat) (Q : Int64 → ab_S → Prop) (E : String → ab_S → Prop) (σ : ab_S) : Prop := ((¬ (σ.2.1 this 12) = 0) → (∀ σ1 : ab_S, σ1 = ab_I σ this 12 ((σ.2.1 this 12) - (1 : Int32)) → vp_in (σ1.2.1 this 12) 40 ∧ (Q (σ1.2.2.1 (this + 3) (σ1.2.1 this 12).toNatClampNeg) σ1))) ∧ (¬ (¬ (σ.2.1 this 12) = 0) → Q (-9223372036854775808 : Int64) σ)
set_option maxHeartbeats 4000000 in
set_option maxRecDepth 100000 in
theorem ceX2_pop {l : Launch} (hl : l.stackTraces = false) (B : Nat) {this : Nat} (hthis : isM this) {Q : Int64 → ab_S → Prop} {E : String → ab_S → Prop} {σ : ab_S} (hW : Wire σ) (h : wX2_pop this Q E σ) : ab_Mt l yX2_pop mdX2_pop B 0 0 0 0 [.ref this] σ (fun v σ' => Wire σ' ∧ ∃ r : Int64, v = some (.long r) ∧ Q r σ') (fun X σ' => Wire σ' ∧ E X σ') := by
  refine V_met hl ⟨rfl, rfl, by decide⟩ rfl dkX2_pop (Nat.le_of_ble_eq_true rfl) ?_
  show V l mdX2_pop B 0 0 0 0 (ab_End _ _) 0 [(0, .ref this)] [] σ
  refine V_aload_n 0 0 rfl rfl rfl ?_
  refine V_get (v := .int (σ.2.1 this 12)) 1 12 rfl clX2 flX2_60 (by decide) (wM hW hthis) (fun _ => rfl) ?_
  refine V_if_ne 2 (tgt := 11) rfl (by decide) (fun hc => ?_) (fun hc => ?_)
  · replace h := h.1 hc
    refine V_aload_n 5 0 rfl rfl rfl ?_
    refine V_dup 6 rfl rfl ?_
    refine V_get (v := .int (σ.2.1 this 12)) 7 12 rfl clX2 flX2_60 (by decide) (wM hW hthis) (fun _ => rfl) ?_
    refine V_iconst 8 (v := (1 : Int32)) rfl (by decide) ?_
    refine V_isub 9 rfl ?_
    refine V_putI 10 12 rfl clX2 flX2_60 (by decide) (wM hW hthis) rfl (fun _ _ => rfl) rfl rfl ?_
    refine V_nm (fun σ1 eσ1 => ?_)
    replace h := h σ1 eσ1
    have hW := wire_I eσ1 hW
    refine V_aload_n 11 0 rfl rfl rfl ?_
    refine V_getR 12 6 rfl clX2 flX2_18 (by decide) (wM hW hthis) (fun _ => rfl) (wM_f6 hW hthis) ?_
    refine V_aload_n 13 0 rfl rfl rfl ?_
    refine V_get (v := .int (σ1.2.1 this 12)) 14 12 rfl clX2 flX2_60 (by decide) (wM hW hthis) (fun _ => rfl) ?_
    obtain ⟨hin, h⟩ := h
    refine V_lald 15 rfl (wM_a3 hW hthis) hin ?_
    refine V_pc 30 rfl ?_
    exact V_lret 16 rfl rfl ⟨hW, _, rfl, h⟩
  · replace h := h.2 hc
    refine V_pc 7 rfl ?_
    refine V_ldc2 3 (v := (-9223372036854775808 : Int64)) rfl ctX2_140 ?_
    exact V_lret 4 rfl rfl ⟨hW, _, rfl, h⟩

def wX2_operate_j16 (a0 : Int32) (a1 : Int64) (a2 : Int64) (Q : Int64 → ab_S → Prop) (E : String → ab_S → Prop)  (σ : ab_S) : Prop := Q (-9223372036854775808 : Int64) σ
def wX2_operate (a0 : Int32) (a1 : Int64) (a2 : Int64) (Q : Int64 → ab_S → Prop) (E : String → ab_S → Prop) (σ : ab_S) : Prop := (((lg_cmp a1 (-9223372036854775808 : Int64)) = 0) → wX2_operate_j16 a0 a1 a2 Q E σ) ∧ (¬ ((lg_cmp a1 (-9223372036854775808 : Int64)) = 0) → ((¬ (lg_cmp a2 (-9223372036854775808 : Int64)) = 0) → (a0 = 7 → Q (((a1 + a2).toInt32).toInt64) σ) ∧ (¬ a0 = 7 → (a0 = 8 → Q (((a1 - a2).toInt32).toInt64) σ) ∧ (¬ a0 = 8 → (a0 = 9 → Q (((a1 * a2).toInt32).toInt64) σ) ∧ (¬ a0 = 9 → (a0 = 10 → ((¬ (lg_cmp a2 (0 : Int64)) = 0) → ¬ a2 = 0 ∧ (Q (((a1 / a2).toInt32).toInt64) σ)) ∧ (¬ (¬ (lg_cmp a2 (0 : Int64)) = 0) → Q (-9223372036854775808 : Int64) σ)) ∧ (¬ a0 = 10 → (a0 = 11 → ((0 ≤ (lg_cmp a1 a2)) → Q (0 : Int64) σ) ∧ (¬ (0 ≤ (lg_cmp a1 a2)) → Q (1 : Int64) σ)) ∧ (¬ a0 = 11 → ((¬ (lg_cmp a1 a2) = 0) → Q (0 : Int64) σ) ∧ (¬ (¬ (lg_cmp a1 a2) = 0) → Q (1 : Int64) σ))))))) ∧ (¬ (¬ (lg_cmp a2 (-9223372036854775808 : Int64)) = 0) → wX2_operate_j16 a0 a1 a2 Q E σ))
set_option maxHeartbeats 4000000 in
set_option maxRecDepth 100000 in
theorem ceX2_operate {l : Launch} (hl : l.stackTraces = false) (B : Nat) {a0 : Int32} {a1 : Int64} {a2 : Int64}  {Q : Int64 → ab_S → Prop} {E : String → ab_S → Prop} {σ : ab_S} (hW : Wire σ) (h : wX2_operate a0 a1 a2 Q E σ) : ab_Mt l yX2_operate mdX2_operate B 0 0 0 0 [.int a0, .long a1, .long a2] σ (fun v σ' => Wire σ' ∧ ∃ r : Int64, v = some (.long r) ∧ Q r σ') (fun X σ' => Wire σ' ∧ E X σ') := by
  refine V_met hl ⟨rfl, rfl, by decide⟩ rfl dkX2_operate (Nat.le_of_ble_eq_true rfl) ?_
  show V l mdX2_operate B 0 0 0 0 (ab_End _ _) 0 [(0, .int a0), (1, .long a1), (3, .long a2)] [] σ
  revert h hW
  revert σ
  have k_j16 : ∀   (σ : ab_S), Wire σ → wX2_operate_j16 a0 a1 a2 Q E  σ → V l mdX2_operate B 0 0 0 0 (ab_End (fun v σ' => Wire σ' ∧ ∃ r : Int64, v = some (.long r) ∧ Q r σ') (fun X σ' => Wire σ' ∧ E X σ')) 16 [] [] σ := by
    intro   σ hW h
    refine V_ldc2 8 (v := (-9223372036854775808 : Int64)) rfl ctX2_140 ?_
    exact V_lret 9 rfl rfl ⟨hW, _, rfl, h⟩
  intro σ hW h
  refine V_lload_n 0 1 rfl rfl rfl ?_
  refine V_ldc2 1 (v := (-9223372036854775808 : Int64)) rfl ctX2_140 ?_
  refine V_lcmp 2 rfl ?_
  refine V_if_eq 3 (tgt := 16) rfl (by decide) (fun hc => ?_) (fun hc => ?_)
  · replace h := h.1 hc
    refine V_sub [] (lv' := []) rfl ?_
    exact k_j16 σ hW h
  · replace h := h.2 hc
    refine V_pc 8 rfl ?_
    refine V_lload_n 4 2 rfl rfl rfl ?_
    refine V_ldc2 5 (v := (-9223372036854775808 : Int64)) rfl ctX2_140 ?_
    refine V_lcmp 6 rfl ?_
    refine V_if_ne 7 (tgt := 20) rfl (by decide) (fun hc => ?_) (fun hc => ?_)
    · replace h := h.1 hc
      refine V_iload_n 10 0 rfl rfl rfl ?_
      by_cases hs0 : a0 = 7
      · replace h := h.1 hs0
        refine V_tab 11 (v := 7) (off := 35) (tgt := 56) rfl (by rw [hs0]; rfl) (by decide) rfl (by decide) ?_
        refine V_lload_n 12 1 rfl rfl rfl ?_
        refine V_lload_n 13 2 rfl rfl rfl ?_
        refine V_ladd 14 rfl ?_
        refine V_l2i 15 rfl ?_
        refine V_i2l 16 rfl ?_
        exact V_lret 17 rfl rfl ⟨hW, _, rfl, h⟩
      · replace h := h.2 hs0
        by_cases hs1 : a0 = 8
        · replace h := h.1 hs1
          refine V_tab 11 (v := 8) (off := 41) (tgt := 62) rfl (by rw [hs1]; rfl) (by decide) rfl (by decide) ?_
          refine V_lload_n 18 1 rfl rfl rfl ?_
          refine V_lload_n 19 2 rfl rfl rfl ?_
          refine V_lsub 20 rfl ?_
          refine V_l2i 21 rfl ?_
          refine V_i2l 22 rfl ?_
          exact V_lret 23 rfl rfl ⟨hW, _, rfl, h⟩
        · replace h := h.2 hs1
          by_cases hs2 : a0 = 9
          · replace h := h.1 hs2
            refine V_tab 11 (v := 9) (off := 47) (tgt := 68) rfl (by rw [hs2]; rfl) (by decide) rfl (by decide) ?_
            refine V_lload_n 24 1 rfl rfl rfl ?_
            refine V_lload_n 25 2 rfl rfl rfl ?_
            refine V_lmul 26 rfl ?_
            refine V_l2i 27 rfl ?_
            refine V_i2l 28 rfl ?_
            exact V_lret 29 rfl rfl ⟨hW, _, rfl, h⟩
          · replace h := h.2 hs2
            by_cases hs3 : a0 = 10
            · replace h := h.1 hs3
              refine V_tab 11 (v := 10) (off := 53) (tgt := 74) rfl (by rw [hs3]; rfl) (by decide) rfl (by decide) ?_
              refine V_lload_n 30 2 rfl rfl rfl ?_
              refine V_lconst 31 (v := (0 : Int64)) rfl (by decide) ?_
              refine V_lcmp 32 rfl ?_
              refine V_if_ne 33 (tgt := 86) rfl (by decide) (fun hc => ?_) (fun hc => ?_)
              · replace h := h.1 hc
                refine V_lload_n 36 1 rfl rfl rfl ?_
                refine V_lload_n 37 2 rfl rfl rfl ?_
                obtain ⟨hz, h⟩ := h
                refine V_ldiv 38 rfl hz ?_
                refine V_l2i 39 rfl ?_
                refine V_i2l 40 rfl ?_
                exact V_lret 41 rfl rfl ⟨hW, _, rfl, h⟩
              · replace h := h.2 hc
                refine V_pc 80 rfl ?_
                refine V_ldc2 34 (v := (-9223372036854775808 : Int64)) rfl ctX2_140 ?_
                refine V_goto 35 (tgt := 91) rfl (by decide) ?_
                exact V_lret 41 rfl rfl ⟨hW, _, rfl, h⟩
            · replace h := h.2 hs3
              by_cases hs4 : a0 = 11
              · replace h := h.1 hs4
                refine V_tab 11 (v := 11) (off := 71) (tgt := 92) rfl (by rw [hs4]; rfl) (by decide) rfl (by decide) ?_
                refine V_lload_n 42 1 rfl rfl rfl ?_
                refine V_lload_n 43 2 rfl rfl rfl ?_
                refine V_lcmp 44 rfl ?_
                refine V_if_ge 45 (tgt := 102) rfl (by decide) (fun hc => ?_) (fun hc => ?_)
                · replace h := h.1 hc
                  refine V_lconst 48 (v := (0 : Int64)) rfl (by decide) ?_
                  exact V_lret 49 rfl rfl ⟨hW, _, rfl, h⟩
                · replace h := h.2 hc
                  refine V_pc 98 rfl ?_
                  refine V_lconst 46 (v := (1 : Int64)) rfl (by decide) ?_
                  refine V_goto 47 (tgt := 103) rfl (by decide) ?_
                  exact V_lret 49 rfl rfl ⟨hW, _, rfl, h⟩
              · replace h := h.2 hs4
                refine V_tabOut 11 (tgt := 104) rfl (by have hq0 := lv_neT hs0 (show Int32.toInt 7 = 7 from by decide); have hq1 := lv_neT hs1 (show Int32.toInt 8 = 8 from by decide); have hq2 := lv_neT hs2 (show Int32.toInt 9 = 9 from by decide); have hq3 := lv_neT hs3 (show Int32.toInt 10 = 10 from by decide); have hq4 := lv_neT hs4 (show Int32.toInt 11 = 11 from by decide); omega) (by decide) ?_
                refine V_lload_n 50 1 rfl rfl rfl ?_
                refine V_lload_n 51 2 rfl rfl rfl ?_
                refine V_lcmp 52 rfl ?_
                refine V_if_ne 53 (tgt := 114) rfl (by decide) (fun hc => ?_) (fun hc => ?_)
                · replace h := h.1 hc
                  refine V_lconst 56 (v := (0 : Int64)) rfl (by decide) ?_
                  exact V_lret 57 rfl rfl ⟨hW, _, rfl, h⟩
                · replace h := h.2 hc
                  refine V_pc 110 rfl ?_
                  refine V_lconst 54 (v := (1 : Int64)) rfl (by decide) ?_
                  refine V_goto 55 (tgt := 115) rfl (by decide) ?_
                  exact V_lret 57 rfl rfl ⟨hW, _, rfl, h⟩
    · replace h := h.2 hc
      refine V_pc 16 rfl ?_
      refine V_sub [] (lv' := []) rfl ?_
      exact k_j16 σ hW h

def wX2_test (this : Nat) (a0 : Int32) (Q : ab_S → Prop) (E : String → ab_S → Prop) (σ : ab_S) : Prop := wX2_pop this (fun u2 σ1 => ((¬ (lg_cmp u2 (0 : Int64)) = 0) → ((¬ (lg_cmp u2 (-9223372036854775808 : Int64)) = 0) → Q σ1) ∧ (¬ (¬ (lg_cmp u2 (-9223372036854775808 : Int64)) = 0) → wX2_push this (-9223372036854775808 : Int64) (fun σ3 => vp_in (a0 - (1 : Int32)) 3000 ∧ ((∀ σ4 : ab_S, σ4 = ab_I σ3 this 10 (σ3.2.1 25 (a0 - (1 : Int32)).toNatClampNeg) → Q σ4))) E σ1)) ∧ (¬ (¬ (lg_cmp u2 (0 : Int64)) = 0) → (∀ σ5 : ab_S, σ5 = ab_I σ1 this 10 a0 → Q σ5))) E σ
set_option maxHeartbeats 4000000 in
set_option maxRecDepth 100000 in
theorem ceX2_test {l : Launch} (hl : l.stackTraces = false) (B : Nat) {this : Nat} {a0 : Int32} (hthis : isM this) {Q : ab_S → Prop} {E : String → ab_S → Prop} {σ : ab_S} (hW : Wire σ) (h : wX2_test this a0 Q E σ) : ab_Mt l yX2_test mdX2_test B 1 22 0 0 [.ref this, .int a0] σ (fun v σ' => Wire σ' ∧ v = none ∧ Q σ') (fun X σ' => Wire σ' ∧ E X σ') := by
  refine V_met hl ⟨rfl, rfl, by decide⟩ rfl dkX2_test (Nat.le_of_ble_eq_true rfl) ?_
  show V l mdX2_test B 1 22 0 0 (ab_End _ _) 0 [(0, .ref this), (1, .int a0)] [] σ
  refine V_aload_n 0 0 rfl rfl rfl ?_
  refine V_callV 1 0 (as := []) (rest := []) rfl mlX2_119 yvX2_pop rfl rfl clX2 (wM hW hthis) (by decide) (by decide) (Nat.le_of_ble_eq_true rfl) (by decide) (by decide) (fun B9 => ceX2_pop hl B9 hthis hW h) (fun X9 τ9 h9 => VX_out rfl h9) ?_
  rintro v9 σ1 ⟨hW, u2, rfl, h⟩
  refine V_lstore_n 2 (lv' := [(2, .long u2), (0, .ref this), (1, .int a0)]) rfl rfl (by decide) rfl ?_
  refine V_lload_n 3 0 rfl rfl rfl ?_
  refine V_lconst 4 (v := (0 : Int64)) rfl (by decide) ?_
  refine V_lcmp 5 rfl ?_
  refine V_if_ne 6 (tgt := 19) rfl (by decide) (fun hc => ?_) (fun hc => ?_)
  · replace h := h.1 hc
    refine V_lload_n 11 0 rfl rfl rfl ?_
    refine V_ldc2 12 (v := (-9223372036854775808 : Int64)) rfl ctX2_140 ?_
    refine V_lcmp 13 rfl ?_
    refine V_if_ne 14 (tgt := 49) rfl (by decide) (fun hc => ?_) (fun hc => ?_)
    · replace h := h.1 hc
      exact V_vret 27 rfl rfl ⟨hW, rfl, h⟩
    · replace h := h.2 hc
      refine V_pc 27 rfl ?_
      refine V_aload_n 15 1 rfl rfl rfl ?_
      refine V_ldc2 16 (v := (-9223372036854775808 : Int64)) rfl ctX2_140 ?_
      refine V_callV 17 1 (as := [.long (-9223372036854775808 : Int64)]) (rest := []) rfl mlX2_102 yvX2_push rfl rfl clX2 (wM hW hthis) (by decide) (by decide) (Nat.le_of_ble_eq_true rfl) (by decide) (by decide) (fun B9 => ceX2_push hl B9 hthis hW h) (fun X9 τ9 h9 => VX_out rfl h9) ?_
      rintro v9 σ3 ⟨hW, rfl, h⟩
      refine V_aload_n 18 1 rfl rfl rfl ?_
      refine V_aload_n 19 1 rfl rfl rfl ?_
      refine V_getR 20 0 rfl clX2 flX2_31 (by decide) (wM hW hthis) (fun _ => rfl) (wM_f0 hW hthis) ?_
      refine V_getR 21 4 rfl clX5 flX2_99 (by decide) (wsh hW rfl) (fun _ => rfl) (wrf hW 33 rfl) ?_
      refine V_iload_n 22 2 rfl rfl rfl ?_
      refine V_pc 43 rfl ?_
      refine V_iconst 23 (v := (1 : Int32)) rfl (by decide) ?_
      refine V_isub 24 rfl ?_
      obtain ⟨hin, h⟩ := h
      refine V_iald 25 rfl (wsh hW rfl) hin ?_
      refine V_putI 26 10 rfl clX2 flX2_70 (by decide) (wM hW hthis) rfl (fun _ _ => rfl) rfl rfl ?_
      refine V_nm (fun σ4 eσ4 => ?_)
      replace h := h σ4 eσ4
      have hW := wire_I eσ4 hW
      exact V_vret 27 rfl rfl ⟨hW, rfl, h⟩
  · replace h := h.2 hc
    refine V_pc 11 rfl ?_
    refine V_aload_n 7 1 rfl rfl rfl ?_
    refine V_iload_n 8 2 rfl rfl rfl ?_
    refine V_putI 9 10 rfl clX2 flX2_70 (by decide) (wM hW hthis) rfl (fun _ _ => rfl) rfl rfl ?_
    refine V_nm (fun σ5 eσ5 => ?_)
    replace h := h σ5 eσ5
    have hW := wire_I eσ5 hW
    refine V_goto 10 (tgt := 49) rfl (by decide) ?_
    exact V_vret 27 rfl rfl ⟨hW, rfl, h⟩

def wX2_set (this : Nat) (a0 : Int32) (a1 : Int32) (a2 : Int64) (Q : ab_S → Prop) (E : String → ab_S → Prop) (σ : ab_S) : Prop := vp_in a0 3000 ∧ (wX2_isVariable this (σ.2.1 24 a0.toNatClampNeg) (fun u2 σ1 => ((u2 = 0) → vp_in a0 3000 ∧ (wX2_keptAt this a1 (σ1.2.1 26 a0.toNatClampNeg) (fun u4 σ3 => vp_in u4 2000 ∧ (∀ σ5 : ab_S, σ5 = ab_L σ3 (this + 1) u4.toNatClampNeg a2 → Q σ5)) E σ1)) ∧ (¬ (u2 = 0) → vp_in a0 3000 ∧ (vp_in (σ1.2.1 25 a0.toNatClampNeg) 96 ∧ (∀ σ6 : ab_S, σ6 = ab_L σ1 (this + 2) (σ1.2.1 25 a0.toNatClampNeg).toNatClampNeg a2 → Q σ6)))) E σ)
set_option maxHeartbeats 4000000 in
set_option maxRecDepth 100000 in
theorem ceX2_set {l : Launch} (hl : l.stackTraces = false) (B : Nat) {this : Nat} {a0 : Int32} {a1 : Int32} {a2 : Int64} (hthis : isM this) {Q : ab_S → Prop} {E : String → ab_S → Prop} {σ : ab_S} (hW : Wire σ) (h : wX2_set this a0 a1 a2 Q E σ) : ab_Mt l yX2_set mdX2_set B 2 44 0 0 [.ref this, .int a0, .int a1, .long a2] σ (fun v σ' => Wire σ' ∧ v = none ∧ Q σ') (fun X σ' => Wire σ' ∧ E X σ') := by
  refine V_met hl ⟨rfl, rfl, by decide⟩ rfl dkX2_set (Nat.le_of_ble_eq_true rfl) ?_
  show V l mdX2_set B 2 44 0 0 (ab_End _ _) 0 [(0, .ref this), (1, .int a0), (2, .int a1), (3, .long a2)] [] σ
  refine V_aload_n 0 0 rfl rfl rfl ?_
  refine V_aload_n 1 0 rfl rfl rfl ?_
  refine V_getR 2 0 rfl clX2 flX2_31 (by decide) (wM hW hthis) (fun _ => rfl) (wM_f0 hW hthis) ?_
  refine V_getR 3 3 rfl clX5 flX2_96 (by decide) (wsh hW rfl) (fun _ => rfl) (wrf hW 32 rfl) ?_
  refine V_iload_n 4 1 rfl rfl rfl ?_
  obtain ⟨hin, h⟩ := h
  refine V_iald 5 rfl (wsh hW rfl) hin ?_
  refine V_pc 10 rfl ?_
  refine V_callV 6 1 (as := [.int (σ.2.1 24 a0.toNatClampNeg)]) (rest := []) rfl mlX2_109 yvX2_isVariable rfl rfl clX2 (wM hW hthis) (by decide) (by decide) (Nat.le_of_ble_eq_true rfl) (by decide) (by decide) (fun B9 => ceX2_isVariable hl B9 hthis hW h) (fun X9 τ9 h9 => VX_out rfl h9) ?_
  rintro v9 σ1 ⟨hW, u2, rfl, h⟩
  refine V_if_eq 7 (tgt := 34) rfl (by decide) (fun hc => ?_) (fun hc => ?_)
  · replace h := h.1 hc
    refine V_aload_n 18 0 rfl rfl rfl ?_
    refine V_getR 19 4 rfl clX2 flX2_9 (by decide) (wM hW hthis) (fun _ => rfl) (wM_f4 hW hthis) ?_
    refine V_aload_n 20 0 rfl rfl rfl ?_
    refine V_iload_n 21 2 rfl rfl rfl ?_
    refine V_aload_n 22 0 rfl rfl rfl ?_
    refine V_getR 23 0 rfl clX2 flX2_31 (by decide) (wM hW hthis) (fun _ => rfl) (wM_f0 hW hthis) ?_
    refine V_pc 44 rfl ?_
    refine V_getR 24 5 rfl clX5 flX2_113 (by decide) (wsh hW rfl) (fun _ => rfl) (wrf hW 34 rfl) ?_
    refine V_iload_n 25 1 rfl rfl rfl ?_
    obtain ⟨hin, h⟩ := h
    refine V_iald 26 rfl (wsh hW rfl) hin ?_
    refine V_callV 27 2 (as := [.int a1, .int (σ1.2.1 26 a0.toNatClampNeg)]) (rest := [.ref (this + 1)]) rfl mlX2_116 yvX2_keptAt rfl rfl clX2 (wM hW hthis) (by decide) (by decide) (Nat.le_of_ble_eq_true rfl) (by decide) (by decide) (fun B9 => ceX2_keptAt hl B9 hthis hW h) (fun X9 τ9 h9 => VX_out rfl h9) ?_
    rintro v9 σ3 ⟨hW, u4, rfl, h⟩
    refine V_lload_n 28 3 rfl rfl rfl ?_
    obtain ⟨hin, h⟩ := h
    refine V_last 29 rfl (wM_a1 hW hthis) hin ?_
    refine V_nm (fun σ5 eσ5 => ?_)
    replace h := h σ5 eσ5
    have hW := wire_L eσ5 hW
    exact V_vret 30 rfl rfl ⟨hW, rfl, h⟩
  · replace h := h.2 hc
    refine V_pc 16 rfl ?_
    refine V_aload_n 8 0 rfl rfl rfl ?_
    refine V_getR 9 5 rfl clX2 flX2_15 (by decide) (wM hW hthis) (fun _ => rfl) (wM_f5 hW hthis) ?_
    refine V_aload_n 10 0 rfl rfl rfl ?_
    refine V_getR 11 0 rfl clX2 flX2_31 (by decide) (wM hW hthis) (fun _ => rfl) (wM_f0 hW hthis) ?_
    refine V_getR 12 4 rfl clX5 flX2_99 (by decide) (wsh hW rfl) (fun _ => rfl) (wrf hW 33 rfl) ?_
    refine V_iload_n 13 1 rfl rfl rfl ?_
    refine V_pc 28 rfl ?_
    obtain ⟨hin, h⟩ := h
    refine V_iald 14 rfl (wsh hW rfl) hin ?_
    refine V_lload_n 15 3 rfl rfl rfl ?_
    obtain ⟨hin, h⟩ := h
    refine V_last 16 rfl (wM_a2 hW hthis) hin ?_
    refine V_nm (fun σ6 eσ6 => ?_)
    replace h := h σ6 eσ6
    have hW := wire_L eσ6 hW
    refine V_goto 17 (tgt := 54) rfl (by decide) ?_
    exact V_vret 30 rfl rfl ⟨hW, rfl, h⟩

def wX2_leave (this : Nat) (Q : ab_S → Prop) (E : String → ab_S → Prop) (σ : ab_S) : Prop := (∀ σ1 : ab_S, σ1 = ab_I σ this 11 ((σ.2.1 this 11) - (1 : Int32)) → vp_in (σ1.2.1 this 11) 250 ∧ (∀ v2 : Int32, v2 = (σ1.2.1 (this + 5) (σ1.2.1 this 11).toNatClampNeg) → vp_in (σ1.2.1 this 11) 250 ∧ ((∀ σ3 : ab_S, σ3 = ab_I σ1 this 10 (σ1.2.1 (this + 6) (σ1.2.1 this 11).toNatClampNeg) → ((¬ (σ3.2.1 this 11) = 0) → Q σ3) ∧ (¬ (¬ (σ3.2.1 this 11) = 0) → vp_in v2 250 ∧ (∃ q4, σ3.2.2.2 this 2 = some q4 ∧ isG q4 ∧ (∃ q5, σ3.2.2.2 this 2 = some q5 ∧ isG q5 ∧ (∃ q6, σ3.2.2.2 this 3 = some q6 ∧ isT q6 ∧ (vp_in v2 250 ∧ (wX0_symbolAt q5 (σ3.2.1 (q6 + 1) v2.toNatClampNeg) (0 : Int32) (fun u8 σ7 => vp_in u8 12 ∧ ((((σ7.2.1 (q4 + 17) u8.toNatClampNeg) ≤ (σ3.2.1 (this + 4) v2.toNatClampNeg)) → Q σ7) ∧ (¬ ((σ7.2.1 (q4 + 17) u8.toNatClampNeg) ≤ (σ3.2.1 (this + 4) v2.toNatClampNeg)) → wX2_enter this v2 (-1 : Int32) (fun σ9 => Q σ9) E σ7))) E σ3))))))))))
set_option maxHeartbeats 4000000 in
set_option maxRecDepth 100000 in
theorem ceX2_leave {l : Launch} (hl : l.stackTraces = false) (B : Nat) {this : Nat} (hthis : isM this) {Q : ab_S → Prop} {E : String → ab_S → Prop} {σ : ab_S} (hW : Wire σ) (h : wX2_leave this Q E σ) : ab_Mt l yX2_leave mdX2_leave B 2 44 0 0 [.ref this] σ (fun v σ' => Wire σ' ∧ v = none ∧ Q σ') (fun X σ' => Wire σ' ∧ E X σ') := by
  refine V_met hl ⟨rfl, rfl, by decide⟩ rfl dkX2_leave (Nat.le_of_ble_eq_true rfl) ?_
  show V l mdX2_leave B 2 44 0 0 (ab_End _ _) 0 [(0, .ref this)] [] σ
  refine V_aload_n 0 0 rfl rfl rfl ?_
  refine V_dup 1 rfl rfl ?_
  refine V_get (v := .int (σ.2.1 this 11)) 2 11 rfl clX2 flX2_56 (by decide) (wM hW hthis) (fun _ => rfl) ?_
  refine V_iconst 3 (v := (1 : Int32)) rfl (by decide) ?_
  refine V_isub 4 rfl ?_
  refine V_putI 5 11 rfl clX2 flX2_56 (by decide) (wM hW hthis) rfl (fun _ _ => rfl) rfl rfl ?_
  refine V_nm (fun σ1 eσ1 => ?_)
  replace h := h σ1 eσ1
  have hW := wire_I eσ1 hW
  refine V_aload_n 6 0 rfl rfl rfl ?_
  refine V_getR 7 8 rfl clX2 flX2_25 (by decide) (wM hW hthis) (fun _ => rfl) (wM_f8 hW hthis) ?_
  refine V_aload_n 8 0 rfl rfl rfl ?_
  refine V_get (v := .int (σ1.2.1 this 11)) 9 11 rfl clX2 flX2_56 (by decide) (wM hW hthis) (fun _ => rfl) ?_
  obtain ⟨hin, h⟩ := h
  refine V_iald 10 rfl (wM_a5 hW hthis) hin ?_
  refine V_pc 19 rfl ?_
  refine V_topi (fun v2 ev2 => ?_)
  replace h := h v2 ev2
  refine V_istore_n 11 (lv' := [(1, .int v2), (0, .ref this)]) rfl rfl (by decide) rfl ?_
  refine V_aload_n 12 1 rfl rfl rfl ?_
  refine V_aload_n 13 1 rfl rfl rfl ?_
  refine V_getR 14 9 rfl clX2 flX2_28 (by decide) (wM hW hthis) (fun _ => rfl) (wM_f9 hW hthis) ?_
  refine V_aload_n 15 1 rfl rfl rfl ?_
  refine V_get (v := .int (σ1.2.1 this 11)) 16 11 rfl clX2 flX2_56 (by decide) (wM hW hthis) (fun _ => rfl) ?_
  refine V_pc 29 rfl ?_
  obtain ⟨hin, h⟩ := h
  refine V_iald 17 rfl (wM_a6 hW hthis) hin ?_
  refine V_putI 18 10 rfl clX2 flX2_70 (by decide) (wM hW hthis) rfl (fun _ _ => rfl) rfl rfl ?_
  refine V_nm (fun σ3 eσ3 => ?_)
  replace h := h σ3 eσ3
  have hW := wire_I eσ3 hW
  refine V_aload_n 19 1 rfl rfl rfl ?_
  refine V_get (v := .int (σ3.2.1 this 11)) 20 11 rfl clX2 flX2_56 (by decide) (wM hW hthis) (fun _ => rfl) ?_
  refine V_if_ne 21 (tgt := 80) rfl (by decide) (fun hc => ?_) (fun hc => ?_)
  · replace h := h.1 hc
    exact V_vret 44 rfl rfl ⟨hW, rfl, h⟩
  · replace h := h.2 hc
    refine V_pc 40 rfl ?_
    refine V_aload_n 22 1 rfl rfl rfl ?_
    refine V_getR 23 7 rfl clX2 flX2_21 (by decide) (wM hW hthis) (fun _ => rfl) (wM_f7 hW hthis) ?_
    refine V_iload_n 24 0 rfl rfl rfl ?_
    obtain ⟨hin, h⟩ := h
    refine V_iald 25 rfl (wM_a4 hW hthis) hin ?_
    refine V_aload_n 26 1 rfl rfl rfl ?_
    obtain ⟨q4, eq4, hq4, h⟩ := h
    refine V_getR 27 2 rfl clX2 flX2_39 (by decide) (wM hW hthis) (fun _ => rfl) eq4 ?_
    refine V_pc 50 rfl ?_
    refine V_getR 28 19 rfl clX0 flX2_88 (by decide) (wG hW hq4) (fun _ => rfl) (wG_f19 hW hq4) ?_
    refine V_aload_n 29 1 rfl rfl rfl ?_
    obtain ⟨q5, eq5, hq5, h⟩ := h
    refine V_getR 30 2 rfl clX2 flX2_39 (by decide) (wM hW hthis) (fun _ => rfl) eq5 ?_
    refine V_aload_n 31 1 rfl rfl rfl ?_
    obtain ⟨q6, eq6, hq6, h⟩ := h
    refine V_getR 32 3 rfl clX2 flX2_43 (by decide) (wM hW hthis) (fun _ => rfl) eq6 ?_
    refine V_getR 33 1 rfl clX9 flX2_77 (by decide) (wT hW hq6) (fun _ => rfl) (wT_f1 hW hq6) ?_
    refine V_pc 64 rfl ?_
    refine V_iload_n 34 0 rfl rfl rfl ?_
    obtain ⟨hin, h⟩ := h
    refine V_iald 35 rfl (wT_a1 hW hq6) hin ?_
    refine V_iconst 36 (v := (0 : Int32)) rfl (by decide) ?_
    refine V_callV 37 2 (as := [.int (σ3.2.1 (q6 + 1) v2.toNatClampNeg), .int (0 : Int32)]) (rest := [.ref (q4 + 17), .int (σ3.2.1 (this + 4) v2.toNatClampNeg)]) rfl mlX2_93 yvX0_symbolAt rfl rfl clX0 (wG hW hq5) (by decide) (by decide) (Nat.le_of_ble_eq_true rfl) (by decide) (by decide) (fun B9 => ceX0_symbolAt hl B9 hq5 hW h) (fun X9 τ9 h9 => VX_out rfl h9) ?_
    rintro v9 σ7 ⟨hW, u8, rfl, h⟩
    obtain ⟨hin, h⟩ := h
    refine V_iald 38 rfl (wG_a17 hW hq4) hin ?_
    refine V_icmp_ge 39 (tgt := 80) rfl (by decide) (fun hc => ?_) (fun hc => ?_)
    · replace h := h.1 hc
      exact V_vret 44 rfl rfl ⟨hW, rfl, h⟩
    · replace h := h.2 hc
      refine V_pc 74 rfl ?_
      refine V_aload_n 40 1 rfl rfl rfl ?_
      refine V_iload_n 41 0 rfl rfl rfl ?_
      refine V_iconst 42 (v := (-1 : Int32)) rfl (by decide) ?_
      refine V_callV 43 2 (as := [.int v2, .int (-1 : Int32)]) (rest := []) rfl mlX2_66 yvX2_enter rfl rfl clX2 (wM hW hthis) (by decide) (by decide) (Nat.le_of_ble_eq_true rfl) (by decide) (by decide) (fun B9 => ceX2_enter hl B9 hthis hW h) (fun X9 τ9 h9 => VX_out rfl h9) ?_
      rintro v9 σ9 ⟨hW, rfl, h⟩
      exact V_vret 44 rfl rfl ⟨hW, rfl, h⟩

def wX2_perform_j207 (this : Nat) (a0 : Int32) (Q : ab_S → Prop) (E : String → ab_S → Prop) (y0 : Int64) (σ : ab_S) : Prop := wX2_push this y0 (fun σ1 => Q σ1) E σ
def wX2_perform (this : Nat) (a0 : Int32) (Q : ab_S → Prop) (E : String → ab_S → Prop) (σ : ab_S) : Prop := vp_in a0 3000 ∧ (∀ v2 : Int32, v2 = (σ.2.1 24 a0.toNatClampNeg) → vp_in ((σ.2.1 this 11) - (1 : Int32)) 250 ∧ (∀ v3 : Int32, v3 = (σ.2.1 (this + 5) ((σ.2.1 this 11) - (1 : Int32)).toNatClampNeg) → (∀ σ4 : ab_S, σ4 = ab_I σ this 10 (a0 + (1 : Int32)) → (v2 = 0 → vp_in a0 3000 ∧ (wX2_push this ((σ4.2.1 25 a0.toNatClampNeg).toInt64) (fun σ5 => Q σ5) E σ4)) ∧ (¬ v2 = 0 → (v2 = 1 → ∃ q6, σ4.2.2.2 this 3 = some q6 ∧ isT q6 ∧ (vp_in v3 250 ∧ (wX2_push this ((σ4.2.1 (q6 + 3) v3.toNatClampNeg).toInt64) (fun σ7 => Q σ7) E σ4))) ∧ (¬ v2 = 1 → (v2 = 2 → wX2_isVariable this v2 (fun u9 σ8 => ((u9 = 0) → vp_in a0 3000 ∧ (wX2_keptAt this v3 (σ8.2.1 26 a0.toNatClampNeg) (fun u11 σ10 => vp_in u11 2000 ∧ (wX2_perform_j207 this a0 Q E (σ10.2.2.1 (this + 1) u11.toNatClampNeg) σ10)) E σ8)) ∧ (¬ (u9 = 0) → vp_in a0 3000 ∧ (vp_in (σ8.2.1 25 a0.toNatClampNeg) 96 ∧ (wX2_perform_j207 this a0 Q E (σ8.2.2.1 (this + 2) (σ8.2.1 25 a0.toNatClampNeg).toNatClampNeg) σ8)))) E σ4) ∧ (¬ v2 = 2 → (v2 = 3 → wX2_isVariable this v2 (fun u13 σ12 => ((u13 = 0) → vp_in a0 3000 ∧ (wX2_keptAt this v3 (σ12.2.1 26 a0.toNatClampNeg) (fun u15 σ14 => vp_in u15 2000 ∧ (wX2_perform_j207 this a0 Q E (σ14.2.2.1 (this + 1) u15.toNatClampNeg) σ14)) E σ12)) ∧ (¬ (u13 = 0) → vp_in a0 3000 ∧ (vp_in (σ12.2.1 25 a0.toNatClampNeg) 96 ∧ (wX2_perform_j207 this a0 Q E (σ12.2.2.1 (this + 2) (σ12.2.1 25 a0.toNatClampNeg).toNatClampNeg) σ12)))) E σ4) ∧ (¬ v2 = 3 → (v2 = 4 → wX2_isVariable this v2 (fun u17 σ16 => ((u17 = 0) → vp_in a0 3000 ∧ (wX2_keptAt this v3 (σ16.2.1 26 a0.toNatClampNeg) (fun u19 σ18 => vp_in u19 2000 ∧ (wX2_perform_j207 this a0 Q E (σ18.2.2.1 (this + 1) u19.toNatClampNeg) σ18)) E σ16)) ∧ (¬ (u17 = 0) → vp_in a0 3000 ∧ (vp_in (σ16.2.1 25 a0.toNatClampNeg) 96 ∧ (wX2_perform_j207 this a0 Q E (σ16.2.2.1 (this + 2) (σ16.2.1 25 a0.toNatClampNeg).toNatClampNeg) σ16)))) E σ4) ∧ (¬ v2 = 4 → (v2 = 5 → wX2_isVariable this v2 (fun u21 σ20 => ((u21 = 0) → vp_in a0 3000 ∧ (wX2_keptAt this v3 (σ20.2.1 26 a0.toNatClampNeg) (fun u23 σ22 => vp_in u23 2000 ∧ (wX2_perform_j207 this a0 Q E (σ22.2.2.1 (this + 1) u23.toNatClampNeg) σ22)) E σ20)) ∧ (¬ (u21 = 0) → vp_in a0 3000 ∧ (vp_in (σ20.2.1 25 a0.toNatClampNeg) 96 ∧ (wX2_perform_j207 this a0 Q E (σ20.2.2.1 (this + 2) (σ20.2.1 25 a0.toNatClampNeg).toNatClampNeg) σ20)))) E σ4) ∧ (¬ v2 = 5 → (v2 = 6 → wX2_pop this (fun u25 σ24 => wX2_operate (8 : Int32) (0 : Int64) u25 (fun u27 σ26 => wX2_push this u27 (fun σ28 => Q σ28) E σ26) E σ24) E σ4) ∧ (¬ v2 = 6 → (v2 = 7 → wX2_pop this (fun u30 σ29 => wX2_pop this (fun u32 σ31 => wX2_operate v2 u32 u30 (fun u34 σ33 => wX2_push this u34 (fun σ35 => Q σ35) E σ33) E σ31) E σ29) E σ4) ∧ (¬ v2 = 7 → (v2 = 8 → wX2_pop this (fun u37 σ36 => wX2_pop this (fun u39 σ38 => wX2_operate v2 u39 u37 (fun u41 σ40 => wX2_push this u41 (fun σ42 => Q σ42) E σ40) E σ38) E σ36) E σ4) ∧ (¬ v2 = 8 → (v2 = 9 → wX2_pop this (fun u44 σ43 => wX2_pop this (fun u46 σ45 => wX2_operate v2 u46 u44 (fun u48 σ47 => wX2_push this u48 (fun σ49 => Q σ49) E σ47) E σ45) E σ43) E σ4) ∧ (¬ v2 = 9 → (v2 = 10 → wX2_pop this (fun u51 σ50 => wX2_pop this (fun u53 σ52 => wX2_operate v2 u53 u51 (fun u55 σ54 => wX2_push this u55 (fun σ56 => Q σ56) E σ54) E σ52) E σ50) E σ4) ∧ (¬ v2 = 10 → (v2 = 11 → wX2_pop this (fun u58 σ57 => wX2_pop this (fun u60 σ59 => wX2_operate v2 u60 u58 (fun u62 σ61 => wX2_push this u62 (fun σ63 => Q σ63) E σ61) E σ59) E σ57) E σ4) ∧ (¬ v2 = 11 → (v2 = 12 → wX2_pop this (fun u65 σ64 => wX2_pop this (fun u67 σ66 => wX2_operate v2 u67 u65 (fun u69 σ68 => wX2_push this u69 (fun σ70 => Q σ70) E σ68) E σ66) E σ64) E σ4) ∧ (¬ v2 = 12 → (v2 = 13 → vp_in a0 3000 ∧ (wX2_test this (σ4.2.1 25 a0.toNatClampNeg) (fun σ71 => Q σ71) E σ4)) ∧ (¬ v2 = 13 → (v2 = 14 → vp_in a0 3000 ∧ ((∀ σ72 : ab_S, σ72 = ab_I σ4 this 10 (σ4.2.1 25 a0.toNatClampNeg) → Q σ72))) ∧ (¬ v2 = 14 → (v2 = 15 → wX2_pop this (fun u74 σ73 => wX2_set this a0 v3 u74 (fun σ75 => Q σ75) E σ73) E σ4) ∧ (¬ v2 = 15 → (v2 = 16 → wX2_pop this (fun u77 σ76 => wX2_set this a0 v3 u77 (fun σ78 => Q σ78) E σ76) E σ4) ∧ (¬ v2 = 16 → (v2 = 17 → wX2_pop this (fun u80 σ79 => wX2_set this a0 v3 u80 (fun σ81 => Q σ81) E σ79) E σ4) ∧ (¬ v2 = 17 → (v2 = 18 → wX2_pop this (fun u83 σ82 => wX2_set this a0 v3 u83 (fun σ84 => Q σ84) E σ82) E σ4) ∧ (¬ v2 = 18 → (v2 = 19 → ∃ q85, σ4.2.2.2 this 3 = some q85 ∧ isT q85 ∧ (vp_in a0 3000 ∧ (wX9_nodeAt q85 v3 (σ4.2.1 25 a0.toNatClampNeg) (fun u87 σ86 => wX2_enter this u87 (σ86.2.1 this 10) (fun σ88 => Q σ88) E σ86) E σ4))) ∧ (¬ v2 = 19 → (v2 = 20 → wX2_leave this (fun σ89 => Q σ89) E σ4) ∧ (¬ v2 = 20 → wX2_pop this (fun u91 σ90 => wX2_pop this (fun u93 σ92 => wX2_operate v2 u93 u91 (fun u95 σ94 => wX2_push this u95 (fun σ96 => Q σ96) E σ94) E σ92) E σ90) E σ4))))))))))))))))))))))))
set_option maxHeartbeats 4000000 in
set_option maxRecDepth 100000 in
theorem ceX2_perform {l : Launch} (hl : l.stackTraces = false) (B : Nat) {this : Nat} {a0 : Int32} (hthis : isM this) {Q : ab_S → Prop} {E : String → ab_S → Prop} {σ : ab_S} (hW : Wire σ) (h : wX2_perform this a0 Q E σ) : ab_Mt l yX2_perform mdX2_perform B 3 68 0 0 [.ref this, .int a0] σ (fun v σ' => Wire σ' ∧ v = none ∧ Q σ') (fun X σ' => Wire σ' ∧ E X σ') := by
  refine V_met hl ⟨rfl, rfl, by decide⟩ rfl dkX2_perform (Nat.le_of_ble_eq_true rfl) ?_
  show V l mdX2_perform B 3 68 0 0 (ab_End _ _) 0 [(0, .ref this), (1, .int a0)] [] σ
  revert h hW
  revert σ
  have k_j207 : ∀ (y0 : Int64)  (σ : ab_S), Wire σ → wX2_perform_j207 this a0 Q E y0 σ → V l mdX2_perform B 3 68 0 0 (ab_End (fun v σ' => Wire σ' ∧ v = none ∧ Q σ') (fun X σ' => Wire σ' ∧ E X σ')) 207 [] [.long y0, .ref this] σ := by
    intro y0  σ hW h
    refine V_callV 64 1 (as := [.long y0]) (rest := []) rfl mlX2_102 yvX2_push rfl rfl clX2 (wM hW hthis) (by decide) (by decide) (Nat.le_of_ble_eq_true rfl) (by decide) (by decide) (fun B9 => ceX2_push hl B9 hthis hW h) (fun X9 τ9 h9 => VX_out rfl h9) ?_
    rintro v9 σ1 ⟨hW, rfl, h⟩
    refine V_goto 65 (tgt := 330) rfl (by decide) ?_
    exact V_vret 124 rfl rfl ⟨hW, rfl, h⟩
  intro σ hW h
  refine V_aload_n 0 0 rfl rfl rfl ?_
  refine V_getR 1 0 rfl clX2 flX2_31 (by decide) (wM hW hthis) (fun _ => rfl) (wM_f0 hW hthis) ?_
  refine V_getR 2 3 rfl clX5 flX2_96 (by decide) (wsh hW rfl) (fun _ => rfl) (wrf hW 32 rfl) ?_
  refine V_iload_n 3 1 rfl rfl rfl ?_
  obtain ⟨hin, h⟩ := h
  refine V_iald 4 rfl (wsh hW rfl) hin ?_
  refine V_topi (fun v2 ev2 => ?_)
  replace h := h v2 ev2
  refine V_istore_n 5 (lv' := [(2, .int v2), (0, .ref this), (1, .int a0)]) rfl rfl (by decide) rfl ?_
  refine V_pc 10 rfl ?_
  refine V_aload_n 6 1 rfl rfl rfl ?_
  refine V_getR 7 8 rfl clX2 flX2_25 (by decide) (wM hW hthis) (fun _ => rfl) (wM_f8 hW hthis) ?_
  refine V_aload_n 8 1 rfl rfl rfl ?_
  refine V_get (v := .int (σ.2.1 this 11)) 9 11 rfl clX2 flX2_56 (by decide) (wM hW hthis) (fun _ => rfl) ?_
  refine V_iconst 10 (v := (1 : Int32)) rfl (by decide) ?_
  refine V_isub 11 rfl ?_
  refine V_pc 20 rfl ?_
  obtain ⟨hin, h⟩ := h
  refine V_iald 12 rfl (wM_a5 hW hthis) hin ?_
  refine V_topi (fun v3 ev3 => ?_)
  replace h := h v3 ev3
  refine V_istore_n 13 (lv' := [(3, .int v3), (2, .int v2), (0, .ref this), (1, .int a0)]) rfl rfl (by decide) rfl ?_
  refine V_aload_n 14 2 rfl rfl rfl ?_
  refine V_iload_n 15 3 rfl rfl rfl ?_
  refine V_iconst 16 (v := (1 : Int32)) rfl (by decide) ?_
  refine V_iadd 17 rfl ?_
  refine V_pc 26 rfl ?_
  refine V_putI 18 10 rfl clX2 flX2_70 (by decide) (wM hW hthis) rfl (fun _ _ => rfl) rfl rfl ?_
  refine V_nm (fun σ4 eσ4 => ?_)
  replace h := h σ4 eσ4
  have hW := wire_I eσ4 hW
  refine V_iload_n 19 1 rfl rfl rfl ?_
  by_cases hs0 : v2 = 0
  · replace h := h.1 hs0
    refine V_tab 20 (v := 0) (off := 98) (tgt := 128) rfl (by rw [hs0]; rfl) (by decide) rfl (by decide) ?_
    refine V_aload_n 21 2 rfl rfl rfl ?_
    refine V_aload_n 22 2 rfl rfl rfl ?_
    refine V_getR 23 0 rfl clX2 flX2_31 (by decide) (wM hW hthis) (fun _ => rfl) (wM_f0 hW hthis) ?_
    refine V_getR 24 4 rfl clX5 flX2_99 (by decide) (wsh hW rfl) (fun _ => rfl) (wrf hW 33 rfl) ?_
    refine V_iload_n 25 3 rfl rfl rfl ?_
    obtain ⟨hin, h⟩ := h
    refine V_iald 26 rfl (wsh hW rfl) hin ?_
    refine V_pc 138 rfl ?_
    refine V_i2l 27 rfl ?_
    refine V_callV 28 1 (as := [.long ((σ4.2.1 25 a0.toNatClampNeg).toInt64)]) (rest := []) rfl mlX2_102 yvX2_push rfl rfl clX2 (wM hW hthis) (by decide) (by decide) (Nat.le_of_ble_eq_true rfl) (by decide) (by decide) (fun B9 => ceX2_push hl B9 hthis hW h) (fun X9 τ9 h9 => VX_out rfl h9) ?_
    rintro v9 σ5 ⟨hW, rfl, h⟩
    refine V_goto 29 (tgt := 330) rfl (by decide) ?_
    exact V_vret 124 rfl rfl ⟨hW, rfl, h⟩
  · replace h := h.2 hs0
    by_cases hs1 : v2 = 1
    · replace h := h.1 hs1
      refine V_tab 20 (v := 1) (off := 115) (tgt := 145) rfl (by rw [hs1]; rfl) (by decide) rfl (by decide) ?_
      refine V_aload_n 30 2 rfl rfl rfl ?_
      refine V_aload_n 31 2 rfl rfl rfl ?_
      obtain ⟨q6, eq6, hq6, h⟩ := h
      refine V_getR 32 3 rfl clX2 flX2_43 (by decide) (wM hW hthis) (fun _ => rfl) eq6 ?_
      refine V_getR 33 3 rfl clX9 flX2_106 (by decide) (wT hW hq6) (fun _ => rfl) (wT_f3 hW hq6) ?_
      refine V_iload_n 34 0 rfl rfl rfl ?_
      obtain ⟨hin, h⟩ := h
      refine V_iald 35 rfl (wT_a3 hW hq6) hin ?_
      refine V_pc 155 rfl ?_
      refine V_i2l 36 rfl ?_
      refine V_callV 37 1 (as := [.long ((σ4.2.1 (q6 + 3) v3.toNatClampNeg).toInt64)]) (rest := []) rfl mlX2_102 yvX2_push rfl rfl clX2 (wM hW hthis) (by decide) (by decide) (Nat.le_of_ble_eq_true rfl) (by decide) (by decide) (fun B9 => ceX2_push hl B9 hthis hW h) (fun X9 τ9 h9 => VX_out rfl h9) ?_
      rintro v9 σ7 ⟨hW, rfl, h⟩
      refine V_goto 38 (tgt := 330) rfl (by decide) ?_
      exact V_vret 124 rfl rfl ⟨hW, rfl, h⟩
    · replace h := h.2 hs1
      by_cases hs2 : v2 = 2
      · replace h := h.1 hs2
        refine V_tab 20 (v := 2) (off := 132) (tgt := 162) rfl (by rw [hs2]; rfl) (by decide) rfl (by decide) ?_
        refine V_aload_n 39 2 rfl rfl rfl ?_
        refine V_aload_n 40 2 rfl rfl rfl ?_
        refine V_iload_n 41 1 rfl rfl rfl ?_
        refine V_callV 42 1 (as := [.int v2]) (rest := [.ref this]) rfl mlX2_109 yvX2_isVariable rfl rfl clX2 (wM hW hthis) (by decide) (by decide) (Nat.le_of_ble_eq_true rfl) (by decide) (by decide) (fun B9 => ceX2_isVariable hl B9 hthis hW h) (fun X9 τ9 h9 => VX_out rfl h9) ?_
        rintro v9 σ8 ⟨hW, u9, rfl, h⟩
        refine V_if_eq 43 (tgt := 188) rfl (by decide) (fun hc => ?_) (fun hc => ?_)
        · replace h := h.1 hc
          refine V_aload_n 53 2 rfl rfl rfl ?_
          refine V_getR 54 4 rfl clX2 flX2_9 (by decide) (wM hW hthis) (fun _ => rfl) (wM_f4 hW hthis) ?_
          refine V_aload_n 55 2 rfl rfl rfl ?_
          refine V_iload_n 56 0 rfl rfl rfl ?_
          refine V_aload_n 57 2 rfl rfl rfl ?_
          refine V_getR 58 0 rfl clX2 flX2_31 (by decide) (wM hW hthis) (fun _ => rfl) (wM_f0 hW hthis) ?_
          refine V_pc 198 rfl ?_
          refine V_getR 59 5 rfl clX5 flX2_113 (by decide) (wsh hW rfl) (fun _ => rfl) (wrf hW 34 rfl) ?_
          refine V_iload_n 60 3 rfl rfl rfl ?_
          obtain ⟨hin, h⟩ := h
          refine V_iald 61 rfl (wsh hW rfl) hin ?_
          refine V_callV 62 2 (as := [.int v3, .int (σ8.2.1 26 a0.toNatClampNeg)]) (rest := [.ref (this + 1), .ref this]) rfl mlX2_116 yvX2_keptAt rfl rfl clX2 (wM hW hthis) (by decide) (by decide) (Nat.le_of_ble_eq_true rfl) (by decide) (by decide) (fun B9 => ceX2_keptAt hl B9 hthis hW h) (fun X9 τ9 h9 => VX_out rfl h9) ?_
          rintro v9 σ10 ⟨hW, u11, rfl, h⟩
          obtain ⟨hin, h⟩ := h
          refine V_lald 63 rfl (wM_a1 hW hthis) hin ?_
          refine V_sub [] (lv' := []) rfl ?_
          exact k_j207 (σ10.2.2.1 (this + 1) u11.toNatClampNeg) σ10 hW h
        · replace h := h.2 hc
          refine V_pc 171 rfl ?_
          refine V_aload_n 44 2 rfl rfl rfl ?_
          refine V_getR 45 5 rfl clX2 flX2_15 (by decide) (wM hW hthis) (fun _ => rfl) (wM_f5 hW hthis) ?_
          refine V_aload_n 46 2 rfl rfl rfl ?_
          refine V_getR 47 0 rfl clX2 flX2_31 (by decide) (wM hW hthis) (fun _ => rfl) (wM_f0 hW hthis) ?_
          refine V_getR 48 4 rfl clX5 flX2_99 (by decide) (wsh hW rfl) (fun _ => rfl) (wrf hW 33 rfl) ?_
          refine V_iload_n 49 3 rfl rfl rfl ?_
          refine V_pc 183 rfl ?_
          obtain ⟨hin, h⟩ := h
          refine V_iald 50 rfl (wsh hW rfl) hin ?_
          obtain ⟨hin, h⟩ := h
          refine V_lald 51 rfl (wM_a2 hW hthis) hin ?_
          refine V_goto 52 (tgt := 207) rfl (by decide) ?_
          refine V_sub [] (lv' := []) rfl ?_
          exact k_j207 (σ8.2.2.1 (this + 2) (σ8.2.1 25 a0.toNatClampNeg).toNatClampNeg) σ8 hW h
      · replace h := h.2 hs2
        by_cases hs3 : v2 = 3
        · replace h := h.1 hs3
          refine V_tab 20 (v := 3) (off := 132) (tgt := 162) rfl (by rw [hs3]; rfl) (by decide) rfl (by decide) ?_
          refine V_aload_n 39 2 rfl rfl rfl ?_
          refine V_aload_n 40 2 rfl rfl rfl ?_
          refine V_iload_n 41 1 rfl rfl rfl ?_
          refine V_callV 42 1 (as := [.int v2]) (rest := [.ref this]) rfl mlX2_109 yvX2_isVariable rfl rfl clX2 (wM hW hthis) (by decide) (by decide) (Nat.le_of_ble_eq_true rfl) (by decide) (by decide) (fun B9 => ceX2_isVariable hl B9 hthis hW h) (fun X9 τ9 h9 => VX_out rfl h9) ?_
          rintro v9 σ12 ⟨hW, u13, rfl, h⟩
          refine V_if_eq 43 (tgt := 188) rfl (by decide) (fun hc => ?_) (fun hc => ?_)
          · replace h := h.1 hc
            refine V_aload_n 53 2 rfl rfl rfl ?_
            refine V_getR 54 4 rfl clX2 flX2_9 (by decide) (wM hW hthis) (fun _ => rfl) (wM_f4 hW hthis) ?_
            refine V_aload_n 55 2 rfl rfl rfl ?_
            refine V_iload_n 56 0 rfl rfl rfl ?_
            refine V_aload_n 57 2 rfl rfl rfl ?_
            refine V_getR 58 0 rfl clX2 flX2_31 (by decide) (wM hW hthis) (fun _ => rfl) (wM_f0 hW hthis) ?_
            refine V_pc 198 rfl ?_
            refine V_getR 59 5 rfl clX5 flX2_113 (by decide) (wsh hW rfl) (fun _ => rfl) (wrf hW 34 rfl) ?_
            refine V_iload_n 60 3 rfl rfl rfl ?_
            obtain ⟨hin, h⟩ := h
            refine V_iald 61 rfl (wsh hW rfl) hin ?_
            refine V_callV 62 2 (as := [.int v3, .int (σ12.2.1 26 a0.toNatClampNeg)]) (rest := [.ref (this + 1), .ref this]) rfl mlX2_116 yvX2_keptAt rfl rfl clX2 (wM hW hthis) (by decide) (by decide) (Nat.le_of_ble_eq_true rfl) (by decide) (by decide) (fun B9 => ceX2_keptAt hl B9 hthis hW h) (fun X9 τ9 h9 => VX_out rfl h9) ?_
            rintro v9 σ14 ⟨hW, u15, rfl, h⟩
            obtain ⟨hin, h⟩ := h
            refine V_lald 63 rfl (wM_a1 hW hthis) hin ?_
            refine V_sub [] (lv' := []) rfl ?_
            exact k_j207 (σ14.2.2.1 (this + 1) u15.toNatClampNeg) σ14 hW h
          · replace h := h.2 hc
            refine V_pc 171 rfl ?_
            refine V_aload_n 44 2 rfl rfl rfl ?_
            refine V_getR 45 5 rfl clX2 flX2_15 (by decide) (wM hW hthis) (fun _ => rfl) (wM_f5 hW hthis) ?_
            refine V_aload_n 46 2 rfl rfl rfl ?_
            refine V_getR 47 0 rfl clX2 flX2_31 (by decide) (wM hW hthis) (fun _ => rfl) (wM_f0 hW hthis) ?_
            refine V_getR 48 4 rfl clX5 flX2_99 (by decide) (wsh hW rfl) (fun _ => rfl) (wrf hW 33 rfl) ?_
            refine V_iload_n 49 3 rfl rfl rfl ?_
            refine V_pc 183 rfl ?_
            obtain ⟨hin, h⟩ := h
            refine V_iald 50 rfl (wsh hW rfl) hin ?_
            obtain ⟨hin, h⟩ := h
            refine V_lald 51 rfl (wM_a2 hW hthis) hin ?_
            refine V_goto 52 (tgt := 207) rfl (by decide) ?_
            refine V_sub [] (lv' := []) rfl ?_
            exact k_j207 (σ12.2.2.1 (this + 2) (σ12.2.1 25 a0.toNatClampNeg).toNatClampNeg) σ12 hW h
        · replace h := h.2 hs3
          by_cases hs4 : v2 = 4
          · replace h := h.1 hs4
            refine V_tab 20 (v := 4) (off := 132) (tgt := 162) rfl (by rw [hs4]; rfl) (by decide) rfl (by decide) ?_
            refine V_aload_n 39 2 rfl rfl rfl ?_
            refine V_aload_n 40 2 rfl rfl rfl ?_
            refine V_iload_n 41 1 rfl rfl rfl ?_
            refine V_callV 42 1 (as := [.int v2]) (rest := [.ref this]) rfl mlX2_109 yvX2_isVariable rfl rfl clX2 (wM hW hthis) (by decide) (by decide) (Nat.le_of_ble_eq_true rfl) (by decide) (by decide) (fun B9 => ceX2_isVariable hl B9 hthis hW h) (fun X9 τ9 h9 => VX_out rfl h9) ?_
            rintro v9 σ16 ⟨hW, u17, rfl, h⟩
            refine V_if_eq 43 (tgt := 188) rfl (by decide) (fun hc => ?_) (fun hc => ?_)
            · replace h := h.1 hc
              refine V_aload_n 53 2 rfl rfl rfl ?_
              refine V_getR 54 4 rfl clX2 flX2_9 (by decide) (wM hW hthis) (fun _ => rfl) (wM_f4 hW hthis) ?_
              refine V_aload_n 55 2 rfl rfl rfl ?_
              refine V_iload_n 56 0 rfl rfl rfl ?_
              refine V_aload_n 57 2 rfl rfl rfl ?_
              refine V_getR 58 0 rfl clX2 flX2_31 (by decide) (wM hW hthis) (fun _ => rfl) (wM_f0 hW hthis) ?_
              refine V_pc 198 rfl ?_
              refine V_getR 59 5 rfl clX5 flX2_113 (by decide) (wsh hW rfl) (fun _ => rfl) (wrf hW 34 rfl) ?_
              refine V_iload_n 60 3 rfl rfl rfl ?_
              obtain ⟨hin, h⟩ := h
              refine V_iald 61 rfl (wsh hW rfl) hin ?_
              refine V_callV 62 2 (as := [.int v3, .int (σ16.2.1 26 a0.toNatClampNeg)]) (rest := [.ref (this + 1), .ref this]) rfl mlX2_116 yvX2_keptAt rfl rfl clX2 (wM hW hthis) (by decide) (by decide) (Nat.le_of_ble_eq_true rfl) (by decide) (by decide) (fun B9 => ceX2_keptAt hl B9 hthis hW h) (fun X9 τ9 h9 => VX_out rfl h9) ?_
              rintro v9 σ18 ⟨hW, u19, rfl, h⟩
              obtain ⟨hin, h⟩ := h
              refine V_lald 63 rfl (wM_a1 hW hthis) hin ?_
              refine V_sub [] (lv' := []) rfl ?_
              exact k_j207 (σ18.2.2.1 (this + 1) u19.toNatClampNeg) σ18 hW h
            · replace h := h.2 hc
              refine V_pc 171 rfl ?_
              refine V_aload_n 44 2 rfl rfl rfl ?_
              refine V_getR 45 5 rfl clX2 flX2_15 (by decide) (wM hW hthis) (fun _ => rfl) (wM_f5 hW hthis) ?_
              refine V_aload_n 46 2 rfl rfl rfl ?_
              refine V_getR 47 0 rfl clX2 flX2_31 (by decide) (wM hW hthis) (fun _ => rfl) (wM_f0 hW hthis) ?_
              refine V_getR 48 4 rfl clX5 flX2_99 (by decide) (wsh hW rfl) (fun _ => rfl) (wrf hW 33 rfl) ?_
              refine V_iload_n 49 3 rfl rfl rfl ?_
              refine V_pc 183 rfl ?_
              obtain ⟨hin, h⟩ := h
              refine V_iald 50 rfl (wsh hW rfl) hin ?_
              obtain ⟨hin, h⟩ := h
              refine V_lald 51 rfl (wM_a2 hW hthis) hin ?_
              refine V_goto 52 (tgt := 207) rfl (by decide) ?_
              refine V_sub [] (lv' := []) rfl ?_
              exact k_j207 (σ16.2.2.1 (this + 2) (σ16.2.1 25 a0.toNatClampNeg).toNatClampNeg) σ16 hW h
          · replace h := h.2 hs4
            by_cases hs5 : v2 = 5
            · replace h := h.1 hs5
              refine V_tab 20 (v := 5) (off := 132) (tgt := 162) rfl (by rw [hs5]; rfl) (by decide) rfl (by decide) ?_
              refine V_aload_n 39 2 rfl rfl rfl ?_
              refine V_aload_n 40 2 rfl rfl rfl ?_
              refine V_iload_n 41 1 rfl rfl rfl ?_
              refine V_callV 42 1 (as := [.int v2]) (rest := [.ref this]) rfl mlX2_109 yvX2_isVariable rfl rfl clX2 (wM hW hthis) (by decide) (by decide) (Nat.le_of_ble_eq_true rfl) (by decide) (by decide) (fun B9 => ceX2_isVariable hl B9 hthis hW h) (fun X9 τ9 h9 => VX_out rfl h9) ?_
              rintro v9 σ20 ⟨hW, u21, rfl, h⟩
              refine V_if_eq 43 (tgt := 188) rfl (by decide) (fun hc => ?_) (fun hc => ?_)
              · replace h := h.1 hc
                refine V_aload_n 53 2 rfl rfl rfl ?_
                refine V_getR 54 4 rfl clX2 flX2_9 (by decide) (wM hW hthis) (fun _ => rfl) (wM_f4 hW hthis) ?_
                refine V_aload_n 55 2 rfl rfl rfl ?_
                refine V_iload_n 56 0 rfl rfl rfl ?_
                refine V_aload_n 57 2 rfl rfl rfl ?_
                refine V_getR 58 0 rfl clX2 flX2_31 (by decide) (wM hW hthis) (fun _ => rfl) (wM_f0 hW hthis) ?_
                refine V_pc 198 rfl ?_
                refine V_getR 59 5 rfl clX5 flX2_113 (by decide) (wsh hW rfl) (fun _ => rfl) (wrf hW 34 rfl) ?_
                refine V_iload_n 60 3 rfl rfl rfl ?_
                obtain ⟨hin, h⟩ := h
                refine V_iald 61 rfl (wsh hW rfl) hin ?_
                refine V_callV 62 2 (as := [.int v3, .int (σ20.2.1 26 a0.toNatClampNeg)]) (rest := [.ref (this + 1), .ref this]) rfl mlX2_116 yvX2_keptAt rfl rfl clX2 (wM hW hthis) (by decide) (by decide) (Nat.le_of_ble_eq_true rfl) (by decide) (by decide) (fun B9 => ceX2_keptAt hl B9 hthis hW h) (fun X9 τ9 h9 => VX_out rfl h9) ?_
                rintro v9 σ22 ⟨hW, u23, rfl, h⟩
                obtain ⟨hin, h⟩ := h
                refine V_lald 63 rfl (wM_a1 hW hthis) hin ?_
                refine V_sub [] (lv' := []) rfl ?_
                exact k_j207 (σ22.2.2.1 (this + 1) u23.toNatClampNeg) σ22 hW h
              · replace h := h.2 hc
                refine V_pc 171 rfl ?_
                refine V_aload_n 44 2 rfl rfl rfl ?_
                refine V_getR 45 5 rfl clX2 flX2_15 (by decide) (wM hW hthis) (fun _ => rfl) (wM_f5 hW hthis) ?_
                refine V_aload_n 46 2 rfl rfl rfl ?_
                refine V_getR 47 0 rfl clX2 flX2_31 (by decide) (wM hW hthis) (fun _ => rfl) (wM_f0 hW hthis) ?_
                refine V_getR 48 4 rfl clX5 flX2_99 (by decide) (wsh hW rfl) (fun _ => rfl) (wrf hW 33 rfl) ?_
                refine V_iload_n 49 3 rfl rfl rfl ?_
                refine V_pc 183 rfl ?_
                obtain ⟨hin, h⟩ := h
                refine V_iald 50 rfl (wsh hW rfl) hin ?_
                obtain ⟨hin, h⟩ := h
                refine V_lald 51 rfl (wM_a2 hW hthis) hin ?_
                refine V_goto 52 (tgt := 207) rfl (by decide) ?_
                refine V_sub [] (lv' := []) rfl ?_
                exact k_j207 (σ20.2.2.1 (this + 2) (σ20.2.1 25 a0.toNatClampNeg).toNatClampNeg) σ20 hW h
            · replace h := h.2 hs5
              by_cases hs6 : v2 = 6
              · replace h := h.1 hs6
                refine V_tab 20 (v := 6) (off := 183) (tgt := 213) rfl (by rw [hs6]; rfl) (by decide) rfl (by decide) ?_
                refine V_aload_n 66 2 rfl rfl rfl ?_
                refine V_bipush 67 (v := (8 : Int32)) rfl (by decide) ?_
                refine V_lconst 68 (v := (0 : Int64)) rfl (by decide) ?_
                refine V_aload_n 69 2 rfl rfl rfl ?_
                refine V_callV 70 0 (as := []) (rest := [.long (0 : Int64), .int (8 : Int32), .ref this]) rfl mlX2_119 yvX2_pop rfl rfl clX2 (wM hW hthis) (by decide) (by decide) (Nat.le_of_ble_eq_true rfl) (by decide) (by decide) (fun B9 => ceX2_pop hl B9 hthis hW h) (fun X9 τ9 h9 => VX_out rfl h9) ?_
                rintro v9 σ24 ⟨hW, u25, rfl, h⟩
                refine V_callS 71 3 (as := [.int (8 : Int32), .long (0 : Int64), .long u25]) (rest := [.ref this]) rfl mlX2_123 yvX2_operate rfl rfl (by decide) (by decide) (Nat.le_of_ble_eq_true rfl) (by decide) (by decide) (fun B9 => ceX2_operate hl B9 hW h) (fun X9 τ9 h9 => VX_out rfl h9) ?_
                rintro v9 σ26 ⟨hW, u27, rfl, h⟩
                refine V_callV 72 1 (as := [.long u27]) (rest := []) rfl mlX2_102 yvX2_push rfl rfl clX2 (wM hW hthis) (by decide) (by decide) (Nat.le_of_ble_eq_true rfl) (by decide) (by decide) (fun B9 => ceX2_push hl B9 hthis hW h) (fun X9 τ9 h9 => VX_out rfl h9) ?_
                rintro v9 σ28 ⟨hW, rfl, h⟩
                refine V_goto 73 (tgt := 330) rfl (by decide) ?_
                exact V_vret 124 rfl rfl ⟨hW, rfl, h⟩
              · replace h := h.2 hs6
                by_cases hs7 : v2 = 7
                · replace h := h.1 hs7
                  refine V_tab 20 (v := 7) (off := 280) (tgt := 310) rfl (by rw [hs7]; rfl) (by decide) rfl (by decide) ?_
                  refine V_aload_n 114 2 rfl rfl rfl ?_
                  refine V_callV 115 0 (as := []) (rest := []) rfl mlX2_119 yvX2_pop rfl rfl clX2 (wM hW hthis) (by decide) (by decide) (Nat.le_of_ble_eq_true rfl) (by decide) (by decide) (fun B9 => ceX2_pop hl B9 hthis hW h) (fun X9 τ9 h9 => VX_out rfl h9) ?_
                  rintro v9 σ29 ⟨hW, u30, rfl, h⟩
                  refine V_lstore 116 (lv' := [(4, .long u30), (3, .int v3), (2, .int v2), (0, .ref this), (1, .int a0)]) rfl (by decide) rfl ?_
                  refine V_aload_n 117 3 rfl rfl rfl ?_
                  refine V_iload_n 118 2 rfl rfl rfl ?_
                  refine V_aload_n 119 3 rfl rfl rfl ?_
                  refine V_callV 120 0 (as := []) (rest := [.int v2, .ref this]) rfl mlX2_119 yvX2_pop rfl rfl clX2 (wM hW hthis) (by decide) (by decide) (Nat.le_of_ble_eq_true rfl) (by decide) (by decide) (fun B9 => ceX2_pop hl B9 hthis hW h) (fun X9 τ9 h9 => VX_out rfl h9) ?_
                  rintro v9 σ31 ⟨hW, u32, rfl, h⟩
                  refine V_lload 121 0 rfl rfl ?_
                  refine V_callS 122 3 (as := [.int v2, .long u32, .long u30]) (rest := [.ref this]) rfl mlX2_123 yvX2_operate rfl rfl (by decide) (by decide) (Nat.le_of_ble_eq_true rfl) (by decide) (by decide) (fun B9 => ceX2_operate hl B9 hW h) (fun X9 τ9 h9 => VX_out rfl h9) ?_
                  rintro v9 σ33 ⟨hW, u34, rfl, h⟩
                  refine V_callV 123 1 (as := [.long u34]) (rest := []) rfl mlX2_102 yvX2_push rfl rfl clX2 (wM hW hthis) (by decide) (by decide) (Nat.le_of_ble_eq_true rfl) (by decide) (by decide) (fun B9 => ceX2_push hl B9 hthis hW h) (fun X9 τ9 h9 => VX_out rfl h9) ?_
                  rintro v9 σ35 ⟨hW, rfl, h⟩
                  exact V_vret 124 rfl rfl ⟨hW, rfl, h⟩
                · replace h := h.2 hs7
                  by_cases hs8 : v2 = 8
                  · replace h := h.1 hs8
                    refine V_tab 20 (v := 8) (off := 280) (tgt := 310) rfl (by rw [hs8]; rfl) (by decide) rfl (by decide) ?_
                    refine V_aload_n 114 2 rfl rfl rfl ?_
                    refine V_callV 115 0 (as := []) (rest := []) rfl mlX2_119 yvX2_pop rfl rfl clX2 (wM hW hthis) (by decide) (by decide) (Nat.le_of_ble_eq_true rfl) (by decide) (by decide) (fun B9 => ceX2_pop hl B9 hthis hW h) (fun X9 τ9 h9 => VX_out rfl h9) ?_
                    rintro v9 σ36 ⟨hW, u37, rfl, h⟩
                    refine V_lstore 116 (lv' := [(4, .long u37), (3, .int v3), (2, .int v2), (0, .ref this), (1, .int a0)]) rfl (by decide) rfl ?_
                    refine V_aload_n 117 3 rfl rfl rfl ?_
                    refine V_iload_n 118 2 rfl rfl rfl ?_
                    refine V_aload_n 119 3 rfl rfl rfl ?_
                    refine V_callV 120 0 (as := []) (rest := [.int v2, .ref this]) rfl mlX2_119 yvX2_pop rfl rfl clX2 (wM hW hthis) (by decide) (by decide) (Nat.le_of_ble_eq_true rfl) (by decide) (by decide) (fun B9 => ceX2_pop hl B9 hthis hW h) (fun X9 τ9 h9 => VX_out rfl h9) ?_
                    rintro v9 σ38 ⟨hW, u39, rfl, h⟩
                    refine V_lload 121 0 rfl rfl ?_
                    refine V_callS 122 3 (as := [.int v2, .long u39, .long u37]) (rest := [.ref this]) rfl mlX2_123 yvX2_operate rfl rfl (by decide) (by decide) (Nat.le_of_ble_eq_true rfl) (by decide) (by decide) (fun B9 => ceX2_operate hl B9 hW h) (fun X9 τ9 h9 => VX_out rfl h9) ?_
                    rintro v9 σ40 ⟨hW, u41, rfl, h⟩
                    refine V_callV 123 1 (as := [.long u41]) (rest := []) rfl mlX2_102 yvX2_push rfl rfl clX2 (wM hW hthis) (by decide) (by decide) (Nat.le_of_ble_eq_true rfl) (by decide) (by decide) (fun B9 => ceX2_push hl B9 hthis hW h) (fun X9 τ9 h9 => VX_out rfl h9) ?_
                    rintro v9 σ42 ⟨hW, rfl, h⟩
                    exact V_vret 124 rfl rfl ⟨hW, rfl, h⟩
                  · replace h := h.2 hs8
                    by_cases hs9 : v2 = 9
                    · replace h := h.1 hs9
                      refine V_tab 20 (v := 9) (off := 280) (tgt := 310) rfl (by rw [hs9]; rfl) (by decide) rfl (by decide) ?_
                      refine V_aload_n 114 2 rfl rfl rfl ?_
                      refine V_callV 115 0 (as := []) (rest := []) rfl mlX2_119 yvX2_pop rfl rfl clX2 (wM hW hthis) (by decide) (by decide) (Nat.le_of_ble_eq_true rfl) (by decide) (by decide) (fun B9 => ceX2_pop hl B9 hthis hW h) (fun X9 τ9 h9 => VX_out rfl h9) ?_
                      rintro v9 σ43 ⟨hW, u44, rfl, h⟩
                      refine V_lstore 116 (lv' := [(4, .long u44), (3, .int v3), (2, .int v2), (0, .ref this), (1, .int a0)]) rfl (by decide) rfl ?_
                      refine V_aload_n 117 3 rfl rfl rfl ?_
                      refine V_iload_n 118 2 rfl rfl rfl ?_
                      refine V_aload_n 119 3 rfl rfl rfl ?_
                      refine V_callV 120 0 (as := []) (rest := [.int v2, .ref this]) rfl mlX2_119 yvX2_pop rfl rfl clX2 (wM hW hthis) (by decide) (by decide) (Nat.le_of_ble_eq_true rfl) (by decide) (by decide) (fun B9 => ceX2_pop hl B9 hthis hW h) (fun X9 τ9 h9 => VX_out rfl h9) ?_
                      rintro v9 σ45 ⟨hW, u46, rfl, h⟩
                      refine V_lload 121 0 rfl rfl ?_
                      refine V_callS 122 3 (as := [.int v2, .long u46, .long u44]) (rest := [.ref this]) rfl mlX2_123 yvX2_operate rfl rfl (by decide) (by decide) (Nat.le_of_ble_eq_true rfl) (by decide) (by decide) (fun B9 => ceX2_operate hl B9 hW h) (fun X9 τ9 h9 => VX_out rfl h9) ?_
                      rintro v9 σ47 ⟨hW, u48, rfl, h⟩
                      refine V_callV 123 1 (as := [.long u48]) (rest := []) rfl mlX2_102 yvX2_push rfl rfl clX2 (wM hW hthis) (by decide) (by decide) (Nat.le_of_ble_eq_true rfl) (by decide) (by decide) (fun B9 => ceX2_push hl B9 hthis hW h) (fun X9 τ9 h9 => VX_out rfl h9) ?_
                      rintro v9 σ49 ⟨hW, rfl, h⟩
                      exact V_vret 124 rfl rfl ⟨hW, rfl, h⟩
                    · replace h := h.2 hs9
                      by_cases hs10 : v2 = 10
                      · replace h := h.1 hs10
                        refine V_tab 20 (v := 10) (off := 280) (tgt := 310) rfl (by rw [hs10]; rfl) (by decide) rfl (by decide) ?_
                        refine V_aload_n 114 2 rfl rfl rfl ?_
                        refine V_callV 115 0 (as := []) (rest := []) rfl mlX2_119 yvX2_pop rfl rfl clX2 (wM hW hthis) (by decide) (by decide) (Nat.le_of_ble_eq_true rfl) (by decide) (by decide) (fun B9 => ceX2_pop hl B9 hthis hW h) (fun X9 τ9 h9 => VX_out rfl h9) ?_
                        rintro v9 σ50 ⟨hW, u51, rfl, h⟩
                        refine V_lstore 116 (lv' := [(4, .long u51), (3, .int v3), (2, .int v2), (0, .ref this), (1, .int a0)]) rfl (by decide) rfl ?_
                        refine V_aload_n 117 3 rfl rfl rfl ?_
                        refine V_iload_n 118 2 rfl rfl rfl ?_
                        refine V_aload_n 119 3 rfl rfl rfl ?_
                        refine V_callV 120 0 (as := []) (rest := [.int v2, .ref this]) rfl mlX2_119 yvX2_pop rfl rfl clX2 (wM hW hthis) (by decide) (by decide) (Nat.le_of_ble_eq_true rfl) (by decide) (by decide) (fun B9 => ceX2_pop hl B9 hthis hW h) (fun X9 τ9 h9 => VX_out rfl h9) ?_
                        rintro v9 σ52 ⟨hW, u53, rfl, h⟩
                        refine V_lload 121 0 rfl rfl ?_
                        refine V_callS 122 3 (as := [.int v2, .long u53, .long u51]) (rest := [.ref this]) rfl mlX2_123 yvX2_operate rfl rfl (by decide) (by decide) (Nat.le_of_ble_eq_true rfl) (by decide) (by decide) (fun B9 => ceX2_operate hl B9 hW h) (fun X9 τ9 h9 => VX_out rfl h9) ?_
                        rintro v9 σ54 ⟨hW, u55, rfl, h⟩
                        refine V_callV 123 1 (as := [.long u55]) (rest := []) rfl mlX2_102 yvX2_push rfl rfl clX2 (wM hW hthis) (by decide) (by decide) (Nat.le_of_ble_eq_true rfl) (by decide) (by decide) (fun B9 => ceX2_push hl B9 hthis hW h) (fun X9 τ9 h9 => VX_out rfl h9) ?_
                        rintro v9 σ56 ⟨hW, rfl, h⟩
                        exact V_vret 124 rfl rfl ⟨hW, rfl, h⟩
                      · replace h := h.2 hs10
                        by_cases hs11 : v2 = 11
                        · replace h := h.1 hs11
                          refine V_tab 20 (v := 11) (off := 280) (tgt := 310) rfl (by rw [hs11]; rfl) (by decide) rfl (by decide) ?_
                          refine V_aload_n 114 2 rfl rfl rfl ?_
                          refine V_callV 115 0 (as := []) (rest := []) rfl mlX2_119 yvX2_pop rfl rfl clX2 (wM hW hthis) (by decide) (by decide) (Nat.le_of_ble_eq_true rfl) (by decide) (by decide) (fun B9 => ceX2_pop hl B9 hthis hW h) (fun X9 τ9 h9 => VX_out rfl h9) ?_
                          rintro v9 σ57 ⟨hW, u58, rfl, h⟩
                          refine V_lstore 116 (lv' := [(4, .long u58), (3, .int v3), (2, .int v2), (0, .ref this), (1, .int a0)]) rfl (by decide) rfl ?_
                          refine V_aload_n 117 3 rfl rfl rfl ?_
                          refine V_iload_n 118 2 rfl rfl rfl ?_
                          refine V_aload_n 119 3 rfl rfl rfl ?_
                          refine V_callV 120 0 (as := []) (rest := [.int v2, .ref this]) rfl mlX2_119 yvX2_pop rfl rfl clX2 (wM hW hthis) (by decide) (by decide) (Nat.le_of_ble_eq_true rfl) (by decide) (by decide) (fun B9 => ceX2_pop hl B9 hthis hW h) (fun X9 τ9 h9 => VX_out rfl h9) ?_
                          rintro v9 σ59 ⟨hW, u60, rfl, h⟩
                          refine V_lload 121 0 rfl rfl ?_
                          refine V_callS 122 3 (as := [.int v2, .long u60, .long u58]) (rest := [.ref this]) rfl mlX2_123 yvX2_operate rfl rfl (by decide) (by decide) (Nat.le_of_ble_eq_true rfl) (by decide) (by decide) (fun B9 => ceX2_operate hl B9 hW h) (fun X9 τ9 h9 => VX_out rfl h9) ?_
                          rintro v9 σ61 ⟨hW, u62, rfl, h⟩
                          refine V_callV 123 1 (as := [.long u62]) (rest := []) rfl mlX2_102 yvX2_push rfl rfl clX2 (wM hW hthis) (by decide) (by decide) (Nat.le_of_ble_eq_true rfl) (by decide) (by decide) (fun B9 => ceX2_push hl B9 hthis hW h) (fun X9 τ9 h9 => VX_out rfl h9) ?_
                          rintro v9 σ63 ⟨hW, rfl, h⟩
                          exact V_vret 124 rfl rfl ⟨hW, rfl, h⟩
                        · replace h := h.2 hs11
                          by_cases hs12 : v2 = 12
                          · replace h := h.1 hs12
                            refine V_tab 20 (v := 12) (off := 280) (tgt := 310) rfl (by rw [hs12]; rfl) (by decide) rfl (by decide) ?_
                            refine V_aload_n 114 2 rfl rfl rfl ?_
                            refine V_callV 115 0 (as := []) (rest := []) rfl mlX2_119 yvX2_pop rfl rfl clX2 (wM hW hthis) (by decide) (by decide) (Nat.le_of_ble_eq_true rfl) (by decide) (by decide) (fun B9 => ceX2_pop hl B9 hthis hW h) (fun X9 τ9 h9 => VX_out rfl h9) ?_
                            rintro v9 σ64 ⟨hW, u65, rfl, h⟩
                            refine V_lstore 116 (lv' := [(4, .long u65), (3, .int v3), (2, .int v2), (0, .ref this), (1, .int a0)]) rfl (by decide) rfl ?_
                            refine V_aload_n 117 3 rfl rfl rfl ?_
                            refine V_iload_n 118 2 rfl rfl rfl ?_
                            refine V_aload_n 119 3 rfl rfl rfl ?_
                            refine V_callV 120 0 (as := []) (rest := [.int v2, .ref this]) rfl mlX2_119 yvX2_pop rfl rfl clX2 (wM hW hthis) (by decide) (by decide) (Nat.le_of_ble_eq_true rfl) (by decide) (by decide) (fun B9 => ceX2_pop hl B9 hthis hW h) (fun X9 τ9 h9 => VX_out rfl h9) ?_
                            rintro v9 σ66 ⟨hW, u67, rfl, h⟩
                            refine V_lload 121 0 rfl rfl ?_
                            refine V_callS 122 3 (as := [.int v2, .long u67, .long u65]) (rest := [.ref this]) rfl mlX2_123 yvX2_operate rfl rfl (by decide) (by decide) (Nat.le_of_ble_eq_true rfl) (by decide) (by decide) (fun B9 => ceX2_operate hl B9 hW h) (fun X9 τ9 h9 => VX_out rfl h9) ?_
                            rintro v9 σ68 ⟨hW, u69, rfl, h⟩
                            refine V_callV 123 1 (as := [.long u69]) (rest := []) rfl mlX2_102 yvX2_push rfl rfl clX2 (wM hW hthis) (by decide) (by decide) (Nat.le_of_ble_eq_true rfl) (by decide) (by decide) (fun B9 => ceX2_push hl B9 hthis hW h) (fun X9 τ9 h9 => VX_out rfl h9) ?_
                            rintro v9 σ70 ⟨hW, rfl, h⟩
                            exact V_vret 124 rfl rfl ⟨hW, rfl, h⟩
                          · replace h := h.2 hs12
                            by_cases hs13 : v2 = 13
                            · replace h := h.1 hs13
                              refine V_tab 20 (v := 13) (off := 200) (tgt := 230) rfl (by rw [hs13]; rfl) (by decide) rfl (by decide) ?_
                              refine V_aload_n 74 2 rfl rfl rfl ?_
                              refine V_aload_n 75 2 rfl rfl rfl ?_
                              refine V_getR 76 0 rfl clX2 flX2_31 (by decide) (wM hW hthis) (fun _ => rfl) (wM_f0 hW hthis) ?_
                              refine V_getR 77 4 rfl clX5 flX2_99 (by decide) (wsh hW rfl) (fun _ => rfl) (wrf hW 33 rfl) ?_
                              refine V_iload_n 78 3 rfl rfl rfl ?_
                              obtain ⟨hin, h⟩ := h
                              refine V_iald 79 rfl (wsh hW rfl) hin ?_
                              refine V_pc 240 rfl ?_
                              refine V_callV 80 1 (as := [.int (σ4.2.1 25 a0.toNatClampNeg)]) (rest := []) rfl mlX2_127 yvX2_test rfl rfl clX2 (wM hW hthis) (by decide) (by decide) (Nat.le_of_ble_eq_true rfl) (by decide) (by decide) (fun B9 => ceX2_test hl B9 hthis hW h) (fun X9 τ9 h9 => VX_out rfl h9) ?_
                              rintro v9 σ71 ⟨hW, rfl, h⟩
                              refine V_goto 81 (tgt := 330) rfl (by decide) ?_
                              exact V_vret 124 rfl rfl ⟨hW, rfl, h⟩
                            · replace h := h.2 hs13
                              by_cases hs14 : v2 = 14
                              · replace h := h.1 hs14
                                refine V_tab 20 (v := 14) (off := 216) (tgt := 246) rfl (by rw [hs14]; rfl) (by decide) rfl (by decide) ?_
                                refine V_aload_n 82 2 rfl rfl rfl ?_
                                refine V_aload_n 83 2 rfl rfl rfl ?_
                                refine V_getR 84 0 rfl clX2 flX2_31 (by decide) (wM hW hthis) (fun _ => rfl) (wM_f0 hW hthis) ?_
                                refine V_getR 85 4 rfl clX5 flX2_99 (by decide) (wsh hW rfl) (fun _ => rfl) (wrf hW 33 rfl) ?_
                                refine V_iload_n 86 3 rfl rfl rfl ?_
                                obtain ⟨hin, h⟩ := h
                                refine V_iald 87 rfl (wsh hW rfl) hin ?_
                                refine V_pc 256 rfl ?_
                                refine V_putI 88 10 rfl clX2 flX2_70 (by decide) (wM hW hthis) rfl (fun _ _ => rfl) rfl rfl ?_
                                refine V_nm (fun σ72 eσ72 => ?_)
                                replace h := h σ72 eσ72
                                have hW := wire_I eσ72 hW
                                refine V_goto 89 (tgt := 330) rfl (by decide) ?_
                                exact V_vret 124 rfl rfl ⟨hW, rfl, h⟩
                              · replace h := h.2 hs14
                                by_cases hs15 : v2 = 15
                                · replace h := h.1 hs15
                                  refine V_tab 20 (v := 15) (off := 232) (tgt := 262) rfl (by rw [hs15]; rfl) (by decide) rfl (by decide) ?_
                                  refine V_aload_n 90 2 rfl rfl rfl ?_
                                  refine V_iload_n 91 3 rfl rfl rfl ?_
                                  refine V_iload_n 92 0 rfl rfl rfl ?_
                                  refine V_aload_n 93 2 rfl rfl rfl ?_
                                  refine V_callV 94 0 (as := []) (rest := [.int v3, .int a0, .ref this]) rfl mlX2_119 yvX2_pop rfl rfl clX2 (wM hW hthis) (by decide) (by decide) (Nat.le_of_ble_eq_true rfl) (by decide) (by decide) (fun B9 => ceX2_pop hl B9 hthis hW h) (fun X9 τ9 h9 => VX_out rfl h9) ?_
                                  rintro v9 σ73 ⟨hW, u74, rfl, h⟩
                                  refine V_callV 95 3 (as := [.int a0, .int v3, .long u74]) (rest := []) rfl mlX2_130 yvX2_set rfl rfl clX2 (wM hW hthis) (by decide) (by decide) (Nat.le_of_ble_eq_true rfl) (by decide) (by decide) (fun B9 => ceX2_set hl B9 hthis hW h) (fun X9 τ9 h9 => VX_out rfl h9) ?_
                                  rintro v9 σ75 ⟨hW, rfl, h⟩
                                  refine V_goto 96 (tgt := 330) rfl (by decide) ?_
                                  exact V_vret 124 rfl rfl ⟨hW, rfl, h⟩
                                · replace h := h.2 hs15
                                  by_cases hs16 : v2 = 16
                                  · replace h := h.1 hs16
                                    refine V_tab 20 (v := 16) (off := 232) (tgt := 262) rfl (by rw [hs16]; rfl) (by decide) rfl (by decide) ?_
                                    refine V_aload_n 90 2 rfl rfl rfl ?_
                                    refine V_iload_n 91 3 rfl rfl rfl ?_
                                    refine V_iload_n 92 0 rfl rfl rfl ?_
                                    refine V_aload_n 93 2 rfl rfl rfl ?_
                                    refine V_callV 94 0 (as := []) (rest := [.int v3, .int a0, .ref this]) rfl mlX2_119 yvX2_pop rfl rfl clX2 (wM hW hthis) (by decide) (by decide) (Nat.le_of_ble_eq_true rfl) (by decide) (by decide) (fun B9 => ceX2_pop hl B9 hthis hW h) (fun X9 τ9 h9 => VX_out rfl h9) ?_
                                    rintro v9 σ76 ⟨hW, u77, rfl, h⟩
                                    refine V_callV 95 3 (as := [.int a0, .int v3, .long u77]) (rest := []) rfl mlX2_130 yvX2_set rfl rfl clX2 (wM hW hthis) (by decide) (by decide) (Nat.le_of_ble_eq_true rfl) (by decide) (by decide) (fun B9 => ceX2_set hl B9 hthis hW h) (fun X9 τ9 h9 => VX_out rfl h9) ?_
                                    rintro v9 σ78 ⟨hW, rfl, h⟩
                                    refine V_goto 96 (tgt := 330) rfl (by decide) ?_
                                    exact V_vret 124 rfl rfl ⟨hW, rfl, h⟩
                                  · replace h := h.2 hs16
                                    by_cases hs17 : v2 = 17
                                    · replace h := h.1 hs17
                                      refine V_tab 20 (v := 17) (off := 232) (tgt := 262) rfl (by rw [hs17]; rfl) (by decide) rfl (by decide) ?_
                                      refine V_aload_n 90 2 rfl rfl rfl ?_
                                      refine V_iload_n 91 3 rfl rfl rfl ?_
                                      refine V_iload_n 92 0 rfl rfl rfl ?_
                                      refine V_aload_n 93 2 rfl rfl rfl ?_
                                      refine V_callV 94 0 (as := []) (rest := [.int v3, .int a0, .ref this]) rfl mlX2_119 yvX2_pop rfl rfl clX2 (wM hW hthis) (by decide) (by decide) (Nat.le_of_ble_eq_true rfl) (by decide) (by decide) (fun B9 => ceX2_pop hl B9 hthis hW h) (fun X9 τ9 h9 => VX_out rfl h9) ?_
                                      rintro v9 σ79 ⟨hW, u80, rfl, h⟩
                                      refine V_callV 95 3 (as := [.int a0, .int v3, .long u80]) (rest := []) rfl mlX2_130 yvX2_set rfl rfl clX2 (wM hW hthis) (by decide) (by decide) (Nat.le_of_ble_eq_true rfl) (by decide) (by decide) (fun B9 => ceX2_set hl B9 hthis hW h) (fun X9 τ9 h9 => VX_out rfl h9) ?_
                                      rintro v9 σ81 ⟨hW, rfl, h⟩
                                      refine V_goto 96 (tgt := 330) rfl (by decide) ?_
                                      exact V_vret 124 rfl rfl ⟨hW, rfl, h⟩
                                    · replace h := h.2 hs17
                                      by_cases hs18 : v2 = 18
                                      · replace h := h.1 hs18
                                        refine V_tab 20 (v := 18) (off := 232) (tgt := 262) rfl (by rw [hs18]; rfl) (by decide) rfl (by decide) ?_
                                        refine V_aload_n 90 2 rfl rfl rfl ?_
                                        refine V_iload_n 91 3 rfl rfl rfl ?_
                                        refine V_iload_n 92 0 rfl rfl rfl ?_
                                        refine V_aload_n 93 2 rfl rfl rfl ?_
                                        refine V_callV 94 0 (as := []) (rest := [.int v3, .int a0, .ref this]) rfl mlX2_119 yvX2_pop rfl rfl clX2 (wM hW hthis) (by decide) (by decide) (Nat.le_of_ble_eq_true rfl) (by decide) (by decide) (fun B9 => ceX2_pop hl B9 hthis hW h) (fun X9 τ9 h9 => VX_out rfl h9) ?_
                                        rintro v9 σ82 ⟨hW, u83, rfl, h⟩
                                        refine V_callV 95 3 (as := [.int a0, .int v3, .long u83]) (rest := []) rfl mlX2_130 yvX2_set rfl rfl clX2 (wM hW hthis) (by decide) (by decide) (Nat.le_of_ble_eq_true rfl) (by decide) (by decide) (fun B9 => ceX2_set hl B9 hthis hW h) (fun X9 τ9 h9 => VX_out rfl h9) ?_
                                        rintro v9 σ84 ⟨hW, rfl, h⟩
                                        refine V_goto 96 (tgt := 330) rfl (by decide) ?_
                                        exact V_vret 124 rfl rfl ⟨hW, rfl, h⟩
                                      · replace h := h.2 hs18
                                        by_cases hs19 : v2 = 19
                                        · replace h := h.1 hs19
                                          refine V_tab 20 (v := 19) (off := 245) (tgt := 275) rfl (by rw [hs19]; rfl) (by decide) rfl (by decide) ?_
                                          refine V_aload_n 97 2 rfl rfl rfl ?_
                                          refine V_aload_n 98 2 rfl rfl rfl ?_
                                          obtain ⟨q85, eq85, hq85, h⟩ := h
                                          refine V_getR 99 3 rfl clX2 flX2_43 (by decide) (wM hW hthis) (fun _ => rfl) eq85 ?_
                                          refine V_iload_n 100 0 rfl rfl rfl ?_
                                          refine V_aload_n 101 2 rfl rfl rfl ?_
                                          refine V_getR 102 0 rfl clX2 flX2_31 (by decide) (wM hW hthis) (fun _ => rfl) (wM_f0 hW hthis) ?_
                                          refine V_pc 285 rfl ?_
                                          refine V_getR 103 4 rfl clX5 flX2_99 (by decide) (wsh hW rfl) (fun _ => rfl) (wrf hW 33 rfl) ?_
                                          refine V_iload_n 104 3 rfl rfl rfl ?_
                                          obtain ⟨hin, h⟩ := h
                                          refine V_iald 105 rfl (wsh hW rfl) hin ?_
                                          refine V_callV 106 2 (as := [.int v3, .int (σ4.2.1 25 a0.toNatClampNeg)]) (rest := [.ref this]) rfl mlX2_134 yvX9_nodeAt rfl rfl clX9 (wT hW hq85) (by decide) (by decide) (Nat.le_of_ble_eq_true rfl) (by decide) (by decide) (fun B9 => ceX9_nodeAt hl B9 hq85 hW h) (fun X9 τ9 h9 => VX_out rfl h9) ?_
                                          rintro v9 σ86 ⟨hW, u87, rfl, h⟩
                                          refine V_aload_n 107 2 rfl rfl rfl ?_
                                          refine V_get (v := .int (σ86.2.1 this 10)) 108 10 rfl clX2 flX2_70 (by decide) (wM hW hthis) (fun _ => rfl) ?_
                                          refine V_callV 109 2 (as := [.int u87, .int (σ86.2.1 this 10)]) (rest := []) rfl mlX2_66 yvX2_enter rfl rfl clX2 (wM hW hthis) (by decide) (by decide) (Nat.le_of_ble_eq_true rfl) (by decide) (by decide) (fun B9 => ceX2_enter hl B9 hthis hW h) (fun X9 τ9 h9 => VX_out rfl h9) ?_
                                          rintro v9 σ88 ⟨hW, rfl, h⟩
                                          refine V_goto 110 (tgt := 330) rfl (by decide) ?_
                                          exact V_vret 124 rfl rfl ⟨hW, rfl, h⟩
                                        · replace h := h.2 hs19
                                          by_cases hs20 : v2 = 20
                                          · replace h := h.1 hs20
                                            refine V_tab 20 (v := 20) (off := 273) (tgt := 303) rfl (by rw [hs20]; rfl) (by decide) rfl (by decide) ?_
                                            refine V_aload_n 111 2 rfl rfl rfl ?_
                                            refine V_callV 112 0 (as := []) (rest := []) rfl mlX2_137 yvX2_leave rfl rfl clX2 (wM hW hthis) (by decide) (by decide) (Nat.le_of_ble_eq_true rfl) (by decide) (by decide) (fun B9 => ceX2_leave hl B9 hthis hW h) (fun X9 τ9 h9 => VX_out rfl h9) ?_
                                            rintro v9 σ89 ⟨hW, rfl, h⟩
                                            refine V_goto 113 (tgt := 330) rfl (by decide) ?_
                                            exact V_vret 124 rfl rfl ⟨hW, rfl, h⟩
                                          · replace h := h.2 hs20
                                            refine V_tabOut 20 (tgt := 310) rfl (by have hq0 := lv_neT hs0 (show Int32.toInt 0 = 0 from by decide); have hq1 := lv_neT hs1 (show Int32.toInt 1 = 1 from by decide); have hq2 := lv_neT hs2 (show Int32.toInt 2 = 2 from by decide); have hq3 := lv_neT hs3 (show Int32.toInt 3 = 3 from by decide); have hq4 := lv_neT hs4 (show Int32.toInt 4 = 4 from by decide); have hq5 := lv_neT hs5 (show Int32.toInt 5 = 5 from by decide); have hq6 := lv_neT hs6 (show Int32.toInt 6 = 6 from by decide); have hq7 := lv_neT hs7 (show Int32.toInt 7 = 7 from by decide); have hq8 := lv_neT hs8 (show Int32.toInt 8 = 8 from by decide); have hq9 := lv_neT hs9 (show Int32.toInt 9 = 9 from by decide); have hq10 := lv_neT hs10 (show Int32.toInt 10 = 10 from by decide); have hq11 := lv_neT hs11 (show Int32.toInt 11 = 11 from by decide); have hq12 := lv_neT hs12 (show Int32.toInt 12 = 12 from by decide); have hq13 := lv_neT hs13 (show Int32.toInt 13 = 13 from by decide); have hq14 := lv_neT hs14 (show Int32.toInt 14 = 14 from by decide); have hq15 := lv_neT hs15 (show Int32.toInt 15 = 15 from by decide); have hq16 := lv_neT hs16 (show Int32.toInt 16 = 16 from by decide); have hq17 := lv_neT hs17 (show Int32.toInt 17 = 17 from by decide); have hq18 := lv_neT hs18 (show Int32.toInt 18 = 18 from by decide); have hq19 := lv_neT hs19 (show Int32.toInt 19 = 19 from by decide); have hq20 := lv_neT hs20 (show Int32.toInt 20 = 20 from by decide); omega) (by decide) ?_
                                            refine V_aload_n 114 2 rfl rfl rfl ?_
                                            refine V_callV 115 0 (as := []) (rest := []) rfl mlX2_119 yvX2_pop rfl rfl clX2 (wM hW hthis) (by decide) (by decide) (Nat.le_of_ble_eq_true rfl) (by decide) (by decide) (fun B9 => ceX2_pop hl B9 hthis hW h) (fun X9 τ9 h9 => VX_out rfl h9) ?_
                                            rintro v9 σ90 ⟨hW, u91, rfl, h⟩
                                            refine V_lstore 116 (lv' := [(4, .long u91), (3, .int v3), (2, .int v2), (0, .ref this), (1, .int a0)]) rfl (by decide) rfl ?_
                                            refine V_aload_n 117 3 rfl rfl rfl ?_
                                            refine V_iload_n 118 2 rfl rfl rfl ?_
                                            refine V_aload_n 119 3 rfl rfl rfl ?_
                                            refine V_callV 120 0 (as := []) (rest := [.int v2, .ref this]) rfl mlX2_119 yvX2_pop rfl rfl clX2 (wM hW hthis) (by decide) (by decide) (Nat.le_of_ble_eq_true rfl) (by decide) (by decide) (fun B9 => ceX2_pop hl B9 hthis hW h) (fun X9 τ9 h9 => VX_out rfl h9) ?_
                                            rintro v9 σ92 ⟨hW, u93, rfl, h⟩
                                            refine V_lload 121 0 rfl rfl ?_
                                            refine V_callS 122 3 (as := [.int v2, .long u93, .long u91]) (rest := [.ref this]) rfl mlX2_123 yvX2_operate rfl rfl (by decide) (by decide) (Nat.le_of_ble_eq_true rfl) (by decide) (by decide) (fun B9 => ceX2_operate hl B9 hW h) (fun X9 τ9 h9 => VX_out rfl h9) ?_
                                            rintro v9 σ94 ⟨hW, u95, rfl, h⟩
                                            refine V_callV 123 1 (as := [.long u95]) (rest := []) rfl mlX2_102 yvX2_push rfl rfl clX2 (wM hW hthis) (by decide) (by decide) (Nat.le_of_ble_eq_true rfl) (by decide) (by decide) (fun B9 => ceX2_push hl B9 hthis hW h) (fun X9 τ9 h9 => VX_out rfl h9) ?_
                                            rintro v9 σ96 ⟨hW, rfl, h⟩
                                            exact V_vret 124 rfl rfl ⟨hW, rfl, h⟩

def wX2_run_j28 (this : Nat) (a0 : Int32) (Q : Int32 → ab_S → Prop) (E : String → ab_S → Prop) (x2 : Int32) (σ : ab_S) : Prop := (∀ σ1 : ab_S, σ1 = ab_I σ this 13 ((σ.2.1 this 13) + x2) → Q x2 σ1)
def wX2_run_l2_b (this : Nat) (a0 : Int32) (Q : Int32 → ab_S → Prop) (E : String → ab_S → Prop) (K28 : Int32 → ab_S → Prop) (Bk : Int32 → ab_S → Prop) (x2 : Int32) (σ : ab_S) : Prop := ((a0 ≤ x2) → K28 x2 σ) ∧ (¬ (a0 ≤ x2) → (((σ.2.1 this 11) ≤ 0) → K28 x2 σ) ∧ (¬ ((σ.2.1 this 11) ≤ 0) → wX2_perform this (σ.2.1 this 10) (fun σ2 => ∀ v3 : Int32, v3 = (x2 + 1) → Bk v3 σ2) E σ))
def wX2_run_l2 (this : Nat) (a0 : Int32) (Q : Int32 → ab_S → Prop) (E : String → ab_S → Prop) (K28 : Int32 → ab_S → Prop) : Nat → Int32 → ab_S → Prop
  | 0, _, _ => False
  | n + 1, x2, σ => wX2_run_l2_b this a0 Q E K28 (wX2_run_l2 this a0 Q E K28 n) x2 σ
def wX2_run (this : Nat) (a0 : Int32) (Q : Int32 → ab_S → Prop) (E : String → ab_S → Prop) (σ : ab_S) : Prop := ∃ n, wX2_run_l2 this a0 Q E (wX2_run_j28 this a0 Q E) n (0 : Int32) σ
set_option maxHeartbeats 4000000 in
set_option maxRecDepth 100000 in
theorem ceX2_run {l : Launch} (hl : l.stackTraces = false) (B : Nat) {this : Nat} {a0 : Int32} (hthis : isM this) {Q : Int32 → ab_S → Prop} {E : String → ab_S → Prop} {σ : ab_S} (hW : Wire σ) (h : wX2_run this a0 Q E σ) : ab_Mt l yX2_run mdX2_run B 4 93 0 0 [.ref this, .int a0] σ (fun v σ' => Wire σ' ∧ ∃ r : Int32, v = some (.int r) ∧ Q r σ') (fun X σ' => Wire σ' ∧ E X σ') := by
  refine V_met hl ⟨rfl, rfl, by decide⟩ rfl dkX2_run (Nat.le_of_ble_eq_true rfl) ?_
  show V l mdX2_run B 4 93 0 0 (ab_End _ _) 0 [(0, .ref this), (1, .int a0)] [] σ
  revert h hW
  revert σ
  have k_j28 : ∀ (x2 : Int32)  (σ : ab_S), Wire σ → wX2_run_j28 this a0 Q E x2 σ → V l mdX2_run B 4 93 0 0 (ab_End (fun v σ' => Wire σ' ∧ ∃ r : Int32, v = some (.int r) ∧ Q r σ') (fun X σ' => Wire σ' ∧ E X σ')) 28 [(0, .ref this), (2, .int x2)] [] σ := by
    intro x2  σ hW h
    refine V_aload_n 14 0 rfl rfl rfl ?_
    refine V_dup 15 rfl rfl ?_
    refine V_get (v := .int (σ.2.1 this 13)) 16 13 rfl clX2 flX2_63 (by decide) (wM hW hthis) (fun _ => rfl) ?_
    refine V_iload_n 17 1 rfl rfl rfl ?_
    refine V_iadd 18 rfl ?_
    refine V_putI 19 13 rfl clX2 flX2_63 (by decide) (wM hW hthis) rfl (fun _ _ => rfl) rfl rfl ?_
    refine V_nm (fun σ1 eσ1 => ?_)
    replace h := h σ1 eσ1
    have hW := wire_I eσ1 hW
    refine V_iload_n 20 1 rfl rfl rfl ?_
    exact V_iret 21 rfl rfl ⟨hW, _, rfl, h⟩
  have k_l2 : ∀ (n : Nat) (x2 : Int32)  (σ : ab_S), Wire σ → wX2_run_l2 this a0 Q E (wX2_run_j28 this a0 Q E) n x2 σ → V l mdX2_run B 4 93 0 0 (ab_End (fun v σ' => Wire σ' ∧ ∃ r : Int32, v = some (.int r) ∧ Q r σ') (fun X σ' => Wire σ' ∧ E X σ')) 2 [(0, .ref this), (1, .int a0), (2, .int x2)] [] σ := by
    have step : ∀ (K28 : Int32 → ab_S → Prop) (k_K28 : ∀ (x2 : Int32)  (σ : ab_S), Wire σ → K28 x2 σ → V l mdX2_run B 4 93 0 0 (ab_End (fun v σ' => Wire σ' ∧ ∃ r : Int32, v = some (.int r) ∧ Q r σ') (fun X σ' => Wire σ' ∧ E X σ')) 28 [(0, .ref this), (2, .int x2)] [] σ), ∀ (Bk : Int32 → ab_S → Prop) (k_Bk : ∀ (x2 : Int32)  (σ : ab_S), Wire σ → Bk x2 σ → V l mdX2_run B 4 93 0 0 (ab_End (fun v σ' => Wire σ' ∧ ∃ r : Int32, v = some (.int r) ∧ Q r σ') (fun X σ' => Wire σ' ∧ E X σ')) 2 [(0, .ref this), (1, .int a0), (2, .int x2)] [] σ), ∀ (x2 : Int32)  (σ : ab_S), Wire σ → wX2_run_l2_b this a0 Q E K28 Bk x2 σ → V l mdX2_run B 4 93 0 0 (ab_End (fun v σ' => Wire σ' ∧ ∃ r : Int32, v = some (.int r) ∧ Q r σ') (fun X σ' => Wire σ' ∧ E X σ')) 2 [(0, .ref this), (1, .int a0), (2, .int x2)] [] σ := by
      intro K28 k_K28 Bk k_Bk
      intro x2  σ hW h
      refine V_iload_n 2 2 rfl rfl rfl ?_
      refine V_iload_n 3 1 rfl rfl rfl ?_
      refine V_icmp_ge 4 (tgt := 28) rfl (by decide) (fun hc => ?_) (fun hc => ?_)
      · replace h := h.1 hc
        refine V_sub [0, 2] (lv' := [(0, .ref this), (2, .int x2)]) rfl ?_
        exact k_K28 x2  σ hW h
      · replace h := h.2 hc
        refine V_pc 7 rfl ?_
        refine V_aload_n 5 0 rfl rfl rfl ?_
        refine V_get (v := .int (σ.2.1 this 11)) 6 11 rfl clX2 flX2_56 (by decide) (wM hW hthis) (fun _ => rfl) ?_
        refine V_if_le 7 (tgt := 28) rfl (by decide) (fun hc => ?_) (fun hc => ?_)
        · replace h := h.1 hc
          refine V_sub [0, 2] (lv' := [(0, .ref this), (2, .int x2)]) rfl ?_
          exact k_K28 x2  σ hW h
        · replace h := h.2 hc
          refine V_pc 14 rfl ?_
          refine V_aload_n 8 0 rfl rfl rfl ?_
          refine V_aload_n 9 0 rfl rfl rfl ?_
          refine V_get (v := .int (σ.2.1 this 10)) 10 10 rfl clX2 flX2_70 (by decide) (wM hW hthis) (fun _ => rfl) ?_
          refine V_callV 11 1 (as := [.int (σ.2.1 this 10)]) (rest := []) rfl mlX2_73 yvX2_perform rfl rfl clX2 (wM hW hthis) (by decide) (by decide) (Nat.le_of_ble_eq_true rfl) (by decide) (by decide) (fun B9 => ceX2_perform hl B9 hthis hW h) (fun X9 τ9 h9 => VX_out rfl h9) ?_
          rintro v9 σ2 ⟨hW, rfl, h⟩
          obtain ⟨v3, ev3⟩ : ∃ z : Int32, z = (x2 + 1) := ⟨_, rfl⟩
          replace h := h v3 ev3
          refine V_iinc 12 2 (v := v3) (lv' := [(2, .int v3), (0, .ref this), (1, .int a0)]) rfl rfl ((in_1 _).trans ev3.symm) (by decide) rfl ?_
          refine V_goto 13 (tgt := 2) rfl (by decide) ?_
          refine V_sub [1, 2, 0] (lv' := [(0, .ref this), (1, .int a0), (2, .int v3)]) rfl ?_
          exact k_Bk v3  σ2 hW h
    intro n
    induction n with
    | zero => intro x2  σ hW h; exact absurd h id
    | succ n ih => exact step _ k_j28 _ ih
  intro σ hW h
  refine V_iconst 0 (v := (0 : Int32)) rfl (by decide) ?_
  refine V_istore_n 1 (lv' := [(2, .int (0 : Int32)), (0, .ref this), (1, .int a0)]) rfl rfl (by decide) rfl ?_
  refine V_sub [1, 2, 0] (lv' := [(0, .ref this), (1, .int a0), (2, .int (0 : Int32))]) rfl ?_
  obtain ⟨n, h⟩ := h
  exact k_l2 n (0 : Int32) σ hW h

def wX3_addInduced_j83 (a0 : Nat) (a1 : Int32) (Q : ab_S → Prop) (E : String → ab_S → Prop) (Bk : Int32 → ab_S → Prop) (x3 : Int32) (σ : ab_S) : Prop := ∀ v1 : Int32, v1 = (x3 + 1) → Bk v1 σ
def wX3_addInduced_l23_b (a0 : Nat) (a1 : Int32) (Q : ab_S → Prop) (E : String → ab_S → Prop) (K83 : Int32 → ab_S → Prop) (Bk : Int32 → Int32 → Int32 → ab_S → Prop) (x3 : Int32) (x4 : Int32) (x5 : Int32) (σ : ab_S) : Prop := vp_in x4 12 ∧ ((((σ.2.1 (a0 + 2) x4.toNatClampNeg) ≤ x5) → K83 x3 σ) ∧ (¬ ((σ.2.1 (a0 + 2) x4.toNatClampNeg) ≤ x5) → vp_in ((x4 * (8 : Int32)) + x5) 96 ∧ (∀ v2 : Int32, v2 = (σ.2.1 (a0 + 15) ((x4 * (8 : Int32)) + x5).toNatClampNeg) → vp_in (((a1 * (32 : Int32)) + (x3 * (8 : Int32))) + x5) 960 ∧ (vp_in (((a1 * (32 : Int32)) + (x3 * (8 : Int32))) + x5) 960 ∧ (∀ σ3 : ab_S, σ3 = ab_I σ 10 (((a1 * (32 : Int32)) + (x3 * (8 : Int32))) + x5).toNatClampNeg ((σ.2.1 10 (((a1 * (32 : Int32)) + (x3 * (8 : Int32))) + x5).toNatClampNeg) ||| (v2 <<< ((x3 * (8 : Int32)) &&& 31))) → ∀ v4 : Int32, v4 = (x5 + 1) → Bk x3 x4 v4 σ3)))))
def wX3_addInduced_l23 (a0 : Nat) (a1 : Int32) (Q : ab_S → Prop) (E : String → ab_S → Prop) (K83 : Int32 → ab_S → Prop) : Nat → Int32 → Int32 → Int32 → ab_S → Prop
  | 0, _, _, _, _ => False
  | n + 1, x3, x4, x5, σ => wX3_addInduced_l23_b a0 a1 Q E K83 (wX3_addInduced_l23 a0 a1 Q E K83 n) x3 x4 x5 σ
def wX3_addInduced_l2_b (a0 : Nat) (a1 : Int32) (Q : ab_S → Prop) (E : String → ab_S → Prop) (Bk : Int32 → ab_S → Prop) (x3 : Int32) (σ : ab_S) : Prop := vp_in a1 30 ∧ ((((σ.2.1 (a0 + 6) a1.toNatClampNeg) < x3) → Q σ) ∧ (¬ ((σ.2.1 (a0 + 6) a1.toNatClampNeg) < x3) → wX0_symbolAt a0 a1 x3 (fun u6 σ5 => ∃ n, wX3_addInduced_l23 a0 a1 Q E (wX3_addInduced_j83 a0 a1 Q E Bk) n x3 u6 (0 : Int32) σ5) E σ))
def wX3_addInduced_l2 (a0 : Nat) (a1 : Int32) (Q : ab_S → Prop) (E : String → ab_S → Prop) : Nat → Int32 → ab_S → Prop
  | 0, _, _ => False
  | n + 1, x3, σ => wX3_addInduced_l2_b a0 a1 Q E (wX3_addInduced_l2 a0 a1 Q E n) x3 σ
def wX3_addInduced (a0 : Nat) (a1 : Int32) (Q : ab_S → Prop) (E : String → ab_S → Prop) (σ : ab_S) : Prop := ∃ n, wX3_addInduced_l2 a0 a1 Q E n (0 : Int32) σ
set_option maxHeartbeats 4000000 in
set_option maxRecDepth 100000 in
theorem ceX3_addInduced {l : Launch} (hl : l.stackTraces = false) (B : Nat) {a0 : Nat} {a1 : Int32} (ha0 : isG a0) {Q : ab_S → Prop} {E : String → ab_S → Prop} {σ : ab_S} (hW : Wire σ) (h : wX3_addInduced a0 a1 Q E σ) : ab_Mt l yX3_addInduced mdX3_addInduced B 1 22 0 0 [.ref 9, .ref a0, .int a1] σ (fun v σ' => Wire σ' ∧ v = none ∧ Q σ') (fun X σ' => Wire σ' ∧ E X σ') := by
  refine V_met hl ⟨rfl, rfl, by decide⟩ rfl dkX3_addInduced (Nat.le_of_ble_eq_true rfl) ?_
  show V l mdX3_addInduced B 1 22 0 0 (ab_End _ _) 0 [(0, .ref 9), (1, .ref a0), (2, .int a1)] [] σ
  revert h hW
  revert σ
  have k_l2 : ∀ (n : Nat) (x3 : Int32)  (σ : ab_S), Wire σ → wX3_addInduced_l2 a0 a1 Q E n x3 σ → V l mdX3_addInduced B 1 22 0 0 (ab_End (fun v σ' => Wire σ' ∧ v = none ∧ Q σ') (fun X σ' => Wire σ' ∧ E X σ')) 2 [(0, .ref 9), (1, .ref a0), (2, .int a1), (3, .int x3)] [] σ := by
    have step : ∀ (Bk : Int32 → ab_S → Prop) (k_Bk : ∀ (x3 : Int32)  (σ : ab_S), Wire σ → Bk x3 σ → V l mdX3_addInduced B 1 22 0 0 (ab_End (fun v σ' => Wire σ' ∧ v = none ∧ Q σ') (fun X σ' => Wire σ' ∧ E X σ')) 2 [(0, .ref 9), (1, .ref a0), (2, .int a1), (3, .int x3)] [] σ), ∀ (x3 : Int32)  (σ : ab_S), Wire σ → wX3_addInduced_l2_b a0 a1 Q E Bk x3 σ → V l mdX3_addInduced B 1 22 0 0 (ab_End (fun v σ' => Wire σ' ∧ v = none ∧ Q σ') (fun X σ' => Wire σ' ∧ E X σ')) 2 [(0, .ref 9), (1, .ref a0), (2, .int a1), (3, .int x3)] [] σ := by
      intro Bk k_Bk
      have k_j83 : ∀ (x3 : Int32)  (σ : ab_S), Wire σ → wX3_addInduced_j83 a0 a1 Q E Bk x3 σ → V l mdX3_addInduced B 1 22 0 0 (ab_End (fun v σ' => Wire σ' ∧ v = none ∧ Q σ') (fun X σ' => Wire σ' ∧ E X σ')) 83 [(0, .ref 9), (1, .ref a0), (2, .int a1), (3, .int x3)] [] σ := by
        intro x3  σ hW h
        obtain ⟨v1, ev1⟩ : ∃ z : Int32, z = (x3 + 1) := ⟨_, rfl⟩
        replace h := h v1 ev1
        refine V_iinc 52 3 (v := v1) (lv' := [(3, .int v1), (0, .ref 9), (1, .ref a0), (2, .int a1)]) rfl rfl ((in_1 _).trans ev1.symm) (by decide) rfl ?_
        refine V_goto 53 (tgt := 2) rfl (by decide) ?_
        refine V_sub [1, 2, 3, 0] (lv' := [(0, .ref 9), (1, .ref a0), (2, .int a1), (3, .int v1)]) rfl ?_
        exact k_Bk v1  σ hW h
      have k_l23 : ∀ (n : Nat) (x3 : Int32) (x4 : Int32) (x5 : Int32)  (σ : ab_S), Wire σ → wX3_addInduced_l23 a0 a1 Q E (wX3_addInduced_j83 a0 a1 Q E Bk) n x3 x4 x5 σ → V l mdX3_addInduced B 1 22 0 0 (ab_End (fun v σ' => Wire σ' ∧ v = none ∧ Q σ') (fun X σ' => Wire σ' ∧ E X σ')) 23 [(0, .ref 9), (1, .ref a0), (2, .int a1), (3, .int x3), (4, .int x4), (5, .int x5)] [] σ := by
        have step : ∀ (K83 : Int32 → ab_S → Prop) (k_K83 : ∀ (x3 : Int32)  (σ : ab_S), Wire σ → K83 x3 σ → V l mdX3_addInduced B 1 22 0 0 (ab_End (fun v σ' => Wire σ' ∧ v = none ∧ Q σ') (fun X σ' => Wire σ' ∧ E X σ')) 83 [(0, .ref 9), (1, .ref a0), (2, .int a1), (3, .int x3)] [] σ), ∀ (Bk : Int32 → Int32 → Int32 → ab_S → Prop) (k_Bk : ∀ (x3 : Int32) (x4 : Int32) (x5 : Int32)  (σ : ab_S), Wire σ → Bk x3 x4 x5 σ → V l mdX3_addInduced B 1 22 0 0 (ab_End (fun v σ' => Wire σ' ∧ v = none ∧ Q σ') (fun X σ' => Wire σ' ∧ E X σ')) 23 [(0, .ref 9), (1, .ref a0), (2, .int a1), (3, .int x3), (4, .int x4), (5, .int x5)] [] σ), ∀ (x3 : Int32) (x4 : Int32) (x5 : Int32)  (σ : ab_S), Wire σ → wX3_addInduced_l23_b a0 a1 Q E K83 Bk x3 x4 x5 σ → V l mdX3_addInduced B 1 22 0 0 (ab_End (fun v σ' => Wire σ' ∧ v = none ∧ Q σ') (fun X σ' => Wire σ' ∧ E X σ')) 23 [(0, .ref 9), (1, .ref a0), (2, .int a1), (3, .int x3), (4, .int x4), (5, .int x5)] [] σ := by
          intro K83 k_K83 Bk k_Bk
          intro x3 x4 x5  σ hW h
          refine V_iload 15 5 rfl rfl ?_
          refine V_aload_n 16 1 rfl rfl rfl ?_
          refine V_getR 17 2 rfl clX0 flX3_71 (by decide) (wG hW ha0) (fun _ => rfl) (wG_f2 hW ha0) ?_
          refine V_iload 18 4 rfl rfl ?_
          obtain ⟨hin, h⟩ := h
          refine V_iald 19 rfl (wG_a2 hW ha0) hin ?_
          refine V_icmp_ge 20 (tgt := 83) rfl (by decide) (fun hc => ?_) (fun hc => ?_)
          · replace h := h.1 hc
            refine V_sub [0, 1, 2, 3] (lv' := [(0, .ref 9), (1, .ref a0), (2, .int a1), (3, .int x3)]) rfl ?_
            exact k_K83 x3  σ hW h
          · replace h := h.2 hc
            refine V_pc 35 rfl ?_
            refine V_aload_n 21 1 rfl rfl rfl ?_
            refine V_getR 22 17 rfl clX0 flX3_30 (by decide) (wG hW ha0) (fun _ => rfl) (wG_f17 hW ha0) ?_
            refine V_iload 23 4 rfl rfl ?_
            refine V_bipush 24 (v := (8 : Int32)) rfl (by decide) ?_
            refine V_imul 25 rfl ?_
            refine V_iload 26 5 rfl rfl ?_
            refine V_pc 46 rfl ?_
            refine V_iadd 27 rfl ?_
            obtain ⟨hin, h⟩ := h
            refine V_iald 28 rfl (wG_a15 hW ha0) hin ?_
            refine V_topi (fun v2 ev2 => ?_)
            replace h := h v2 ev2
            refine V_istore 29 (lv' := [(6, .int v2), (0, .ref 9), (1, .ref a0), (2, .int a1), (3, .int x3), (4, .int x4), (5, .int x5)]) rfl (by decide) rfl ?_
            refine V_aload_n 30 1 rfl rfl rfl ?_
            refine V_getR 31 0 rfl clX3 flX3_9 (by decide) (wsh hW rfl) (fun _ => rfl) (wrf hW 18 rfl) ?_
            refine V_iload_n 32 3 rfl rfl rfl ?_
            refine V_pc 55 rfl ?_
            refine V_bipush 33 (v := (32 : Int32)) rfl (by decide) ?_
            refine V_imul 34 rfl ?_
            refine V_iload_n 35 4 rfl rfl rfl ?_
            refine V_bipush 36 (v := (8 : Int32)) rfl (by decide) ?_
            refine V_imul 37 rfl ?_
            refine V_iadd 38 rfl ?_
            refine V_pc 63 rfl ?_
            refine V_iload 39 6 rfl rfl ?_
            refine V_iadd 40 rfl ?_
            refine V_dup2 41 rfl rfl rfl ?_
            obtain ⟨hin, h⟩ := h
            refine V_iald 42 rfl (wsh hW rfl) hin ?_
            refine V_iload 43 0 rfl rfl ?_
            refine V_iload_n 44 4 rfl rfl rfl ?_
            refine V_pc 71 rfl ?_
            refine V_bipush 45 (v := (8 : Int32)) rfl (by decide) ?_
            refine V_imul 46 rfl ?_
            refine V_ishl 47 rfl ?_
            refine V_ior 48 rfl ?_
            obtain ⟨hin, h⟩ := h
            refine V_iast 49 rfl (wsh hW rfl) hin ?_
            refine V_nm (fun σ3 eσ3 => ?_)
            replace h := h σ3 eσ3
            have hW := wire_I eσ3 hW
            obtain ⟨v4, ev4⟩ : ∃ z : Int32, z = (x5 + 1) := ⟨_, rfl⟩
            replace h := h v4 ev4
            refine V_iinc 50 6 (v := v4) (lv' := [(5, .int v4), (6, .int v2), (0, .ref 9), (1, .ref a0), (2, .int a1), (3, .int x3), (4, .int x4)]) rfl rfl ((in_1 _).trans ev4.symm) (by decide) rfl ?_
            refine V_pc 80 rfl ?_
            refine V_goto 51 (tgt := 23) rfl (by decide) ?_
            refine V_sub [2, 3, 4, 5, 6, 0] (lv' := [(0, .ref 9), (1, .ref a0), (2, .int a1), (3, .int x3), (4, .int x4), (5, .int v4)]) rfl ?_
            exact k_Bk x3 x4 v4  σ3 hW h
        intro n
        induction n with
        | zero => intro x3 x4 x5  σ hW h; exact absurd h id
        | succ n ih => exact step _ k_j83 _ ih
      intro x3  σ hW h
      refine V_iload_n 2 3 rfl rfl rfl ?_
      refine V_aload_n 3 1 rfl rfl rfl ?_
      refine V_getR 4 7 rfl clX0 flX3_80 (by decide) (wG hW ha0) (fun _ => rfl) (wG_f7 hW ha0) ?_
      refine V_iload_n 5 2 rfl rfl rfl ?_
      obtain ⟨hin, h⟩ := h
      refine V_iald 6 rfl (wG_a6 hW ha0) hin ?_
      refine V_icmp_gt 7 (tgt := 89) rfl (by decide) (fun hc => ?_) (fun hc => ?_)
      · replace h := h.1 hc
        exact V_vret 54 rfl rfl ⟨hW, rfl, h⟩
      · replace h := h.2 hc
        refine V_pc 12 rfl ?_
        refine V_aload_n 8 1 rfl rfl rfl ?_
        refine V_iload_n 9 2 rfl rfl rfl ?_
        refine V_iload_n 10 3 rfl rfl rfl ?_
        refine V_callV 11 2 (as := [.int a1, .int x3]) (rest := []) rfl mlX3_83 yvX0_symbolAt rfl rfl clX0 (wG hW ha0) (by decide) (by decide) (Nat.le_of_ble_eq_true rfl) (by decide) (by decide) (fun B9 => ceX0_symbolAt hl B9 ha0 hW h) (fun X9 τ9 h9 => VX_out rfl h9) ?_
        rintro v9 σ5 ⟨hW, u6, rfl, h⟩
        refine V_istore 12 (lv' := [(4, .int u6), (0, .ref 9), (1, .ref a0), (2, .int a1), (3, .int x3)]) rfl (by decide) rfl ?_
        refine V_iconst 13 (v := (0 : Int32)) rfl (by decide) ?_
        refine V_istore 14 (lv' := [(5, .int (0 : Int32)), (4, .int u6), (0, .ref 9), (1, .ref a0), (2, .int a1), (3, .int x3)]) rfl (by decide) rfl ?_
        refine V_sub [2, 3, 4, 5, 1, 0] (lv' := [(0, .ref 9), (1, .ref a0), (2, .int a1), (3, .int x3), (4, .int u6), (5, .int (0 : Int32))]) rfl ?_
        obtain ⟨n, h⟩ := h
        exact k_l23 n x3 u6 (0 : Int32) σ5 hW h
    intro n
    induction n with
    | zero => intro x3  σ hW h; exact absurd h id
    | succ n ih => exact step  _ ih
  intro σ hW h
  refine V_iconst 0 (v := (0 : Int32)) rfl (by decide) ?_
  refine V_istore_n 1 (lv' := [(3, .int (0 : Int32)), (0, .ref 9), (1, .ref a0), (2, .int a1)]) rfl rfl (by decide) rfl ?_
  refine V_sub [1, 2, 3, 0] (lv' := [(0, .ref 9), (1, .ref a0), (2, .int a1), (3, .int (0 : Int32))]) rfl ?_
  obtain ⟨n, h⟩ := h
  exact k_l2 n (0 : Int32) σ hW h

def wX3_close_j82 (a0 : Nat) (a1 : Int32) (Q : ab_S → Prop) (E : String → ab_S → Prop) (Bk : Int32 → Int32 → Int32 → ab_S → Prop) (x3 : Int32) (x4 : Int32) (x5 : Int32) (σ : ab_S) : Prop := ∀ v1 : Int32, v1 = (x5 + 1) → Bk x3 x4 v1 σ
def wX3_close_j76 (a0 : Nat) (a1 : Int32) (Q : ab_S → Prop) (E : String → ab_S → Prop) (K82 : Int32 → Int32 → Int32 → ab_S → Prop) (Bk : Int32 → Int32 → Int32 → Int32 → ab_S → Prop) (x3 : Int32) (x4 : Int32) (x5 : Int32) (x6 : Int32) (σ : ab_S) : Prop := ∀ v2 : Int32, v2 = (x6 + 1) → Bk x3 x4 x5 v2 σ
def wX3_close_l31_b (a0 : Nat) (a1 : Int32) (Q : ab_S → Prop) (E : String → ab_S → Prop) (K82 : Int32 → Int32 → Int32 → ab_S → Prop) (Bk : Int32 → Int32 → Int32 → Int32 → ab_S → Prop) (x3 : Int32) (x4 : Int32) (x5 : Int32) (x6 : Int32) (σ : ab_S) : Prop := ((x4 ≤ x6) → K82 x3 x4 x5 σ) ∧ (¬ (x4 ≤ x6) → vp_in (x3 + x6) 960 ∧ (((((((σ.2.1 10 (x3 + x6).toNatClampNeg).toUInt32 >>> (x5.toUInt32 &&& Int32.toUInt32 31)).toInt32) &&& (1 : Int32)) = 0) → wX3_close_j76 a0 a1 Q E K82 Bk x3 x4 x5 x6 σ) ∧ (¬ (((((σ.2.1 10 (x3 + x6).toNatClampNeg).toUInt32 >>> (x5.toUInt32 &&& Int32.toUInt32 31)).toInt32) &&& (1 : Int32)) = 0) → vp_in (x3 + x6) 960 ∧ (vp_in (x3 + x5) 960 ∧ (vp_in (x3 + x6) 960 ∧ (∀ σ3 : ab_S, σ3 = ab_I σ 10 (x3 + x6).toNatClampNeg ((σ.2.1 10 (x3 + x6).toNatClampNeg) ||| (σ.2.1 10 (x3 + x5).toNatClampNeg)) → wX3_close_j76 a0 a1 Q E K82 Bk x3 x4 x5 x6 σ3))))))
def wX3_close_l31 (a0 : Nat) (a1 : Int32) (Q : ab_S → Prop) (E : String → ab_S → Prop) (K82 : Int32 → Int32 → Int32 → ab_S → Prop) : Nat → Int32 → Int32 → Int32 → Int32 → ab_S → Prop
  | 0, _, _, _, _, _ => False
  | n + 1, x3, x4, x5, x6, σ => wX3_close_l31_b a0 a1 Q E K82 (wX3_close_l31 a0 a1 Q E K82 n) x3 x4 x5 x6 σ
def wX3_close_l21_b (a0 : Nat) (a1 : Int32) (Q : ab_S → Prop) (E : String → ab_S → Prop) (Bk : Int32 → Int32 → Int32 → ab_S → Prop) (x3 : Int32) (x4 : Int32) (x5 : Int32) (σ : ab_S) : Prop := ((x4 ≤ x5) → Q σ) ∧ (¬ (x4 ≤ x5) → ∃ n, wX3_close_l31 a0 a1 Q E (wX3_close_j82 a0 a1 Q E Bk) n x3 x4 x5 (0 : Int32) σ)
def wX3_close_l21 (a0 : Nat) (a1 : Int32) (Q : ab_S → Prop) (E : String → ab_S → Prop) : Nat → Int32 → Int32 → Int32 → ab_S → Prop
  | 0, _, _, _, _ => False
  | n + 1, x3, x4, x5, σ => wX3_close_l21_b a0 a1 Q E (wX3_close_l21 a0 a1 Q E n) x3 x4 x5 σ
def wX3_close (a0 : Nat) (a1 : Int32) (Q : ab_S → Prop) (E : String → ab_S → Prop) (σ : ab_S) : Prop := ∀ v4 : Int32, v4 = (a1 * (32 : Int32)) → vp_in a1 30 ∧ (∀ v5 : Int32, v5 = (((σ.2.1 (a0 + 6) a1.toNatClampNeg) + (1 : Int32)) * (8 : Int32)) → ∃ n, wX3_close_l21 a0 a1 Q E n v4 v5 (0 : Int32) σ)
set_option maxHeartbeats 4000000 in
set_option maxRecDepth 100000 in
theorem ceX3_close {l : Launch} (hl : l.stackTraces = false) (B : Nat) {a0 : Nat} {a1 : Int32} (ha0 : isG a0) {Q : ab_S → Prop} {E : String → ab_S → Prop} {σ : ab_S} (hW : Wire σ) (h : wX3_close a0 a1 Q E σ) : ab_Mt l yX3_close mdX3_close B 0 0 0 0 [.ref 9, .ref a0, .int a1] σ (fun v σ' => Wire σ' ∧ v = none ∧ Q σ') (fun X σ' => Wire σ' ∧ E X σ') := by
  refine V_met hl ⟨rfl, rfl, by decide⟩ rfl dkX3_close (Nat.le_of_ble_eq_true rfl) ?_
  show V l mdX3_close B 0 0 0 0 (ab_End _ _) 0 [(0, .ref 9), (1, .ref a0), (2, .int a1)] [] σ
  revert h hW
  revert σ
  have k_l21 : ∀ (n : Nat) (x3 : Int32) (x4 : Int32) (x5 : Int32)  (σ : ab_S), Wire σ → wX3_close_l21 a0 a1 Q E n x3 x4 x5 σ → V l mdX3_close B 0 0 0 0 (ab_End (fun v σ' => Wire σ' ∧ v = none ∧ Q σ') (fun X σ' => Wire σ' ∧ E X σ')) 21 [(0, .ref 9), (3, .int x3), (4, .int x4), (5, .int x5)] [] σ := by
    have step : ∀ (Bk : Int32 → Int32 → Int32 → ab_S → Prop) (k_Bk : ∀ (x3 : Int32) (x4 : Int32) (x5 : Int32)  (σ : ab_S), Wire σ → Bk x3 x4 x5 σ → V l mdX3_close B 0 0 0 0 (ab_End (fun v σ' => Wire σ' ∧ v = none ∧ Q σ') (fun X σ' => Wire σ' ∧ E X σ')) 21 [(0, .ref 9), (3, .int x3), (4, .int x4), (5, .int x5)] [] σ), ∀ (x3 : Int32) (x4 : Int32) (x5 : Int32)  (σ : ab_S), Wire σ → wX3_close_l21_b a0 a1 Q E Bk x3 x4 x5 σ → V l mdX3_close B 0 0 0 0 (ab_End (fun v σ' => Wire σ' ∧ v = none ∧ Q σ') (fun X σ' => Wire σ' ∧ E X σ')) 21 [(0, .ref 9), (3, .int x3), (4, .int x4), (5, .int x5)] [] σ := by
      intro Bk k_Bk
      have k_j82 : ∀ (x3 : Int32) (x4 : Int32) (x5 : Int32)  (σ : ab_S), Wire σ → wX3_close_j82 a0 a1 Q E Bk x3 x4 x5 σ → V l mdX3_close B 0 0 0 0 (ab_End (fun v σ' => Wire σ' ∧ v = none ∧ Q σ') (fun X σ' => Wire σ' ∧ E X σ')) 82 [(0, .ref 9), (3, .int x3), (4, .int x4), (5, .int x5)] [] σ := by
        intro x3 x4 x5  σ hW h
        obtain ⟨v1, ev1⟩ : ∃ z : Int32, z = (x5 + 1) := ⟨_, rfl⟩
        replace h := h v1 ev1
        refine V_iinc 51 3 (v := v1) (lv' := [(5, .int v1), (0, .ref 9), (3, .int x3), (4, .int x4)]) rfl rfl ((in_1 _).trans ev1.symm) (by decide) rfl ?_
        refine V_goto 52 (tgt := 21) rfl (by decide) ?_
        refine V_sub [1, 2, 3, 0] (lv' := [(0, .ref 9), (3, .int x3), (4, .int x4), (5, .int v1)]) rfl ?_
        exact k_Bk x3 x4 v1  σ hW h
      have k_l31 : ∀ (n : Nat) (x3 : Int32) (x4 : Int32) (x5 : Int32) (x6 : Int32)  (σ : ab_S), Wire σ → wX3_close_l31 a0 a1 Q E (wX3_close_j82 a0 a1 Q E Bk) n x3 x4 x5 x6 σ → V l mdX3_close B 0 0 0 0 (ab_End (fun v σ' => Wire σ' ∧ v = none ∧ Q σ') (fun X σ' => Wire σ' ∧ E X σ')) 31 [(0, .ref 9), (3, .int x3), (4, .int x4), (5, .int x5), (6, .int x6)] [] σ := by
        have step : ∀ (K82 : Int32 → Int32 → Int32 → ab_S → Prop) (k_K82 : ∀ (x3 : Int32) (x4 : Int32) (x5 : Int32)  (σ : ab_S), Wire σ → K82 x3 x4 x5 σ → V l mdX3_close B 0 0 0 0 (ab_End (fun v σ' => Wire σ' ∧ v = none ∧ Q σ') (fun X σ' => Wire σ' ∧ E X σ')) 82 [(0, .ref 9), (3, .int x3), (4, .int x4), (5, .int x5)] [] σ), ∀ (Bk : Int32 → Int32 → Int32 → Int32 → ab_S → Prop) (k_Bk : ∀ (x3 : Int32) (x4 : Int32) (x5 : Int32) (x6 : Int32)  (σ : ab_S), Wire σ → Bk x3 x4 x5 x6 σ → V l mdX3_close B 0 0 0 0 (ab_End (fun v σ' => Wire σ' ∧ v = none ∧ Q σ') (fun X σ' => Wire σ' ∧ E X σ')) 31 [(0, .ref 9), (3, .int x3), (4, .int x4), (5, .int x5), (6, .int x6)] [] σ), ∀ (x3 : Int32) (x4 : Int32) (x5 : Int32) (x6 : Int32)  (σ : ab_S), Wire σ → wX3_close_l31_b a0 a1 Q E K82 Bk x3 x4 x5 x6 σ → V l mdX3_close B 0 0 0 0 (ab_End (fun v σ' => Wire σ' ∧ v = none ∧ Q σ') (fun X σ' => Wire σ' ∧ E X σ')) 31 [(0, .ref 9), (3, .int x3), (4, .int x4), (5, .int x5), (6, .int x6)] [] σ := by
          intro K82 k_K82 Bk k_Bk
          have k_j76 : ∀ (x3 : Int32) (x4 : Int32) (x5 : Int32) (x6 : Int32)  (σ : ab_S), Wire σ → wX3_close_j76 a0 a1 Q E K82 Bk x3 x4 x5 x6 σ → V l mdX3_close B 0 0 0 0 (ab_End (fun v σ' => Wire σ' ∧ v = none ∧ Q σ') (fun X σ' => Wire σ' ∧ E X σ')) 76 [(0, .ref 9), (3, .int x3), (4, .int x4), (5, .int x5), (6, .int x6)] [] σ := by
            intro x3 x4 x5 x6  σ hW h
            obtain ⟨v2, ev2⟩ : ∃ z : Int32, z = (x6 + 1) := ⟨_, rfl⟩
            replace h := h v2 ev2
            refine V_iinc 49 4 (v := v2) (lv' := [(6, .int v2), (0, .ref 9), (3, .int x3), (4, .int x4), (5, .int x5)]) rfl rfl ((in_1 _).trans ev2.symm) (by decide) rfl ?_
            refine V_goto 50 (tgt := 31) rfl (by decide) ?_
            refine V_sub [1, 2, 3, 4, 0] (lv' := [(0, .ref 9), (3, .int x3), (4, .int x4), (5, .int x5), (6, .int v2)]) rfl ?_
            exact k_Bk x3 x4 x5 v2  σ hW h
          intro x3 x4 x5 x6  σ hW h
          refine V_iload 20 4 rfl rfl ?_
          refine V_iload 21 2 rfl rfl ?_
          refine V_icmp_ge 22 (tgt := 82) rfl (by decide) (fun hc => ?_) (fun hc => ?_)
          · replace h := h.1 hc
            refine V_sub [0, 1, 2, 3] (lv' := [(0, .ref 9), (3, .int x3), (4, .int x4), (5, .int x5)]) rfl ?_
            exact k_K82 x3 x4 x5  σ hW h
          · replace h := h.2 hc
            refine V_pc 38 rfl ?_
            refine V_aload_n 23 0 rfl rfl rfl ?_
            refine V_getR 24 0 rfl clX3 flX3_9 (by decide) (wsh hW rfl) (fun _ => rfl) (wrf hW 18 rfl) ?_
            refine V_iload_n 25 1 rfl rfl rfl ?_
            refine V_iload 26 4 rfl rfl ?_
            refine V_iadd 27 rfl ?_
            obtain ⟨hin, h⟩ := h
            refine V_iald 28 rfl (wsh hW rfl) hin ?_
            refine V_pc 47 rfl ?_
            refine V_iload 29 3 rfl rfl ?_
            refine V_iushr 30 rfl ?_
            refine V_iconst 31 (v := (1 : Int32)) rfl (by decide) ?_
            refine V_iand 32 rfl ?_
            refine V_if_eq 33 (tgt := 76) rfl (by decide) (fun hc => ?_) (fun hc => ?_)
            · replace h := h.1 hc
              exact k_j76 x3 x4 x5 x6 σ hW h
            · replace h := h.2 hc
              refine V_pc 55 rfl ?_
              refine V_aload_n 34 0 rfl rfl rfl ?_
              refine V_getR 35 0 rfl clX3 flX3_9 (by decide) (wsh hW rfl) (fun _ => rfl) (wrf hW 18 rfl) ?_
              refine V_iload_n 36 1 rfl rfl rfl ?_
              refine V_iload 37 4 rfl rfl ?_
              refine V_iadd 38 rfl ?_
              refine V_dup2 39 rfl rfl rfl ?_
              refine V_pc 64 rfl ?_
              obtain ⟨hin, h⟩ := h
              refine V_iald 40 rfl (wsh hW rfl) hin ?_
              refine V_aload_n 41 0 rfl rfl rfl ?_
              refine V_getR 42 0 rfl clX3 flX3_9 (by decide) (wsh hW rfl) (fun _ => rfl) (wrf hW 18 rfl) ?_
              refine V_iload_n 43 1 rfl rfl rfl ?_
              refine V_iload 44 3 rfl rfl ?_
              refine V_iadd 45 rfl ?_
              refine V_pc 73 rfl ?_
              obtain ⟨hin, h⟩ := h
              refine V_iald 46 rfl (wsh hW rfl) hin ?_
              refine V_ior 47 rfl ?_
              obtain ⟨hin, h⟩ := h
              refine V_iast 48 rfl (wsh hW rfl) hin ?_
              refine V_nm (fun σ3 eσ3 => ?_)
              replace h := h σ3 eσ3
              have hW := wire_I eσ3 hW
              exact k_j76 x3 x4 x5 x6 σ3 hW h
        intro n
        induction n with
        | zero => intro x3 x4 x5 x6  σ hW h; exact absurd h id
        | succ n ih => exact step _ k_j82 _ ih
      intro x3 x4 x5  σ hW h
      refine V_iload 15 3 rfl rfl ?_
      refine V_iload 16 2 rfl rfl ?_
      refine V_icmp_ge 17 (tgt := 88) rfl (by decide) (fun hc => ?_) (fun hc => ?_)
      · replace h := h.1 hc
        exact V_vret 53 rfl rfl ⟨hW, rfl, h⟩
      · replace h := h.2 hc
        refine V_pc 28 rfl ?_
        refine V_iconst 18 (v := (0 : Int32)) rfl (by decide) ?_
        refine V_istore 19 (lv' := [(6, .int (0 : Int32)), (0, .ref 9), (3, .int x3), (4, .int x4), (5, .int x5)]) rfl (by decide) rfl ?_
        refine V_sub [1, 2, 3, 4, 0] (lv' := [(0, .ref 9), (3, .int x3), (4, .int x4), (5, .int x5), (6, .int (0 : Int32))]) rfl ?_
        obtain ⟨n, h⟩ := h
        exact k_l31 n x3 x4 x5 (0 : Int32) σ hW h
    intro n
    induction n with
    | zero => intro x3 x4 x5  σ hW h; exact absurd h id
    | succ n ih => exact step  _ ih
  intro σ hW h
  refine V_iload_n 0 2 rfl rfl rfl ?_
  refine V_bipush 1 (v := (32 : Int32)) rfl (by decide) ?_
  refine V_imul 2 rfl ?_
  refine V_topi (fun v4 ev4 => ?_)
  replace h := h v4 ev4
  refine V_istore_n 3 (lv' := [(3, .int v4), (0, .ref 9), (1, .ref a0), (2, .int a1)]) rfl rfl (by decide) rfl ?_
  refine V_aload_n 4 2 rfl rfl rfl ?_
  refine V_getR 5 7 rfl clX0 flX3_80 (by decide) (wG hW ha0) (fun _ => rfl) (wG_f7 hW ha0) ?_
  refine V_pc 9 rfl ?_
  refine V_iload_n 6 3 rfl rfl rfl ?_
  obtain ⟨hin, h⟩ := h
  refine V_iald 7 rfl (wG_a6 hW ha0) hin ?_
  refine V_iconst 8 (v := (1 : Int32)) rfl (by decide) ?_
  refine V_iadd 9 rfl ?_
  refine V_bipush 10 (v := (8 : Int32)) rfl (by decide) ?_
  refine V_imul 11 rfl ?_
  refine V_pc 16 rfl ?_
  refine V_topi (fun v5 ev5 => ?_)
  replace h := h v5 ev5
  refine V_istore 12 (lv' := [(4, .int v5), (3, .int v4), (0, .ref 9), (1, .ref a0), (2, .int a1)]) rfl (by decide) rfl ?_
  refine V_iconst 13 (v := (0 : Int32)) rfl (by decide) ?_
  refine V_istore 14 (lv' := [(5, .int (0 : Int32)), (4, .int v5), (3, .int v4), (0, .ref 9), (1, .ref a0), (2, .int a1)]) rfl (by decide) rfl ?_
  refine V_sub [3, 2, 1, 0] (lv' := [(0, .ref 9), (3, .int v4), (4, .int v5), (5, .int (0 : Int32))]) rfl ?_
  obtain ⟨n, h⟩ := h
  exact k_l21 n v4 v5 (0 : Int32) σ hW h

def wX3_collectInduced_j121 (a0 : Nat) (a1 : Int32) (Q : Int32 → ab_S → Prop) (E : String → ab_S → Prop) (Bk : Int32 → Int32 → ab_S → Prop) (x3 : Int32) (x4 : Int32) (σ : ab_S) : Prop := ∀ v1 : Int32, v1 = (x4 + 1) → Bk x3 v1 σ
def wX3_collectInduced_j101 (a0 : Nat) (a1 : Int32) (Q : Int32 → ab_S → Prop) (E : String → ab_S → Prop) (K121 : Int32 → Int32 → ab_S → Prop) (Bk : Int32 → Int32 → Int32 → Int32 → ab_S → Prop) (x4 : Int32) (x5 : Int32) (x6 : Int32) (x7 : Int32) (x8 : Int32) (y0 : Int32) (y1 : Int32) (σ : ab_S) : Prop := ∀ v2 : Int32, v2 = (y1 ||| y0) → vp_in x8 96 ∧ (vp_in x8 96 ∧ (∀ σ3 : ab_S, σ3 = ab_I σ (a0 + 15) x8.toNatClampNeg ((σ.2.1 (a0 + 15) x8.toNatClampNeg) ||| x7) → ∀ v4 : Int32, v4 = (x6 + 1) → Bk v2 x4 x5 v4 σ3))
def wX3_collectInduced_l28_b (a0 : Nat) (a1 : Int32) (Q : Int32 → ab_S → Prop) (E : String → ab_S → Prop) (K121 : Int32 → Int32 → ab_S → Prop) (Bk : Int32 → Int32 → Int32 → Int32 → ab_S → Prop) (x3 : Int32) (x4 : Int32) (x5 : Int32) (x6 : Int32) (σ : ab_S) : Prop := vp_in x5 12 ∧ ((((σ.2.1 (a0 + 2) x5.toNatClampNeg) ≤ x6) → K121 x3 x4 σ) ∧ (¬ ((σ.2.1 (a0 + 2) x5.toNatClampNeg) ≤ x6) → vp_in (((a1 * (32 : Int32)) + (x4 * (8 : Int32))) + x6) 960 ∧ (∀ v5 : Int32, v5 = ((((σ.2.1 10 (((a1 * (32 : Int32)) + (x4 * (8 : Int32))) + x6).toNatClampNeg).toUInt32 >>> ((x4 * (8 : Int32)).toUInt32 &&& Int32.toUInt32 31)).toInt32) &&& (255 : Int32)) → ∀ v6 : Int32, v6 = ((x5 * (8 : Int32)) + x6) → vp_in v6 96 ∧ ((((v5 &&& ((σ.2.1 (a0 + 15) v6.toNatClampNeg) ^^^ (-1 : Int32))) = 0) → wX3_collectInduced_j101 a0 a1 Q E K121 Bk x4 x5 x6 v5 v6 (0 : Int32) x3 σ) ∧ (¬ ((v5 &&& ((σ.2.1 (a0 + 15) v6.toNatClampNeg) ^^^ (-1 : Int32))) = 0) → wX3_collectInduced_j101 a0 a1 Q E K121 Bk x4 x5 x6 v5 v6 (1 : Int32) x3 σ)))))
def wX3_collectInduced_l28 (a0 : Nat) (a1 : Int32) (Q : Int32 → ab_S → Prop) (E : String → ab_S → Prop) (K121 : Int32 → Int32 → ab_S → Prop) : Nat → Int32 → Int32 → Int32 → Int32 → ab_S → Prop
  | 0, _, _, _, _, _ => False
  | n + 1, x3, x4, x5, x6, σ => wX3_collectInduced_l28_b a0 a1 Q E K121 (wX3_collectInduced_l28 a0 a1 Q E K121 n) x3 x4 x5 x6 σ
def wX3_collectInduced_l5_b (a0 : Nat) (a1 : Int32) (Q : Int32 → ab_S → Prop) (E : String → ab_S → Prop) (Bk : Int32 → Int32 → ab_S → Prop) (x3 : Int32) (x4 : Int32) (σ : ab_S) : Prop := vp_in a1 30 ∧ ((((σ.2.1 (a0 + 6) a1.toNatClampNeg) < x4) → (x3 = 0 ∨ x3 = 1) ∧ Q x3 σ) ∧ (¬ ((σ.2.1 (a0 + 6) a1.toNatClampNeg) < x4) → wX0_symbolAt a0 a1 x4 (fun u8 σ7 => ∃ n, wX3_collectInduced_l28 a0 a1 Q E (wX3_collectInduced_j121 a0 a1 Q E Bk) n x3 x4 u8 (0 : Int32) σ7) E σ))
def wX3_collectInduced_l5 (a0 : Nat) (a1 : Int32) (Q : Int32 → ab_S → Prop) (E : String → ab_S → Prop) : Nat → Int32 → Int32 → ab_S → Prop
  | 0, _, _, _ => False
  | n + 1, x3, x4, σ => wX3_collectInduced_l5_b a0 a1 Q E (wX3_collectInduced_l5 a0 a1 Q E n) x3 x4 σ
def wX3_collectInduced (a0 : Nat) (a1 : Int32) (Q : Int32 → ab_S → Prop) (E : String → ab_S → Prop) (σ : ab_S) : Prop := ∃ n, wX3_collectInduced_l5 a0 a1 Q E n (0 : Int32) (0 : Int32) σ
set_option maxHeartbeats 4000000 in
set_option maxRecDepth 100000 in
theorem ceX3_collectInduced {l : Launch} (hl : l.stackTraces = false) (B : Nat) {a0 : Nat} {a1 : Int32} (ha0 : isG a0) {Q : Int32 → ab_S → Prop} {E : String → ab_S → Prop} {σ : ab_S} (hW : Wire σ) (h : wX3_collectInduced a0 a1 Q E σ) : ab_Mt l yX3_collectInduced mdX3_collectInduced B 1 22 0 0 [.ref 9, .ref a0, .int a1] σ (fun v σ' => Wire σ' ∧ ∃ r : Int32, v = some (.int r) ∧ Q r σ') (fun X σ' => Wire σ' ∧ E X σ') := by
  refine V_met hl ⟨rfl, rfl, by decide⟩ rfl dkX3_collectInduced (Nat.le_of_ble_eq_true rfl) ?_
  show V l mdX3_collectInduced B 1 22 0 0 (ab_End _ _) 0 [(0, .ref 9), (1, .ref a0), (2, .int a1)] [] σ
  revert h hW
  revert σ
  have k_l5 : ∀ (n : Nat) (x3 : Int32) (x4 : Int32)  (σ : ab_S), Wire σ → wX3_collectInduced_l5 a0 a1 Q E n x3 x4 σ → V l mdX3_collectInduced B 1 22 0 0 (ab_End (fun v σ' => Wire σ' ∧ ∃ r : Int32, v = some (.int r) ∧ Q r σ') (fun X σ' => Wire σ' ∧ E X σ')) 5 [(0, .ref 9), (1, .ref a0), (2, .int a1), (3, .int x3), (4, .int x4)] [] σ := by
    have step : ∀ (Bk : Int32 → Int32 → ab_S → Prop) (k_Bk : ∀ (x3 : Int32) (x4 : Int32)  (σ : ab_S), Wire σ → Bk x3 x4 σ → V l mdX3_collectInduced B 1 22 0 0 (ab_End (fun v σ' => Wire σ' ∧ ∃ r : Int32, v = some (.int r) ∧ Q r σ') (fun X σ' => Wire σ' ∧ E X σ')) 5 [(0, .ref 9), (1, .ref a0), (2, .int a1), (3, .int x3), (4, .int x4)] [] σ), ∀ (x3 : Int32) (x4 : Int32)  (σ : ab_S), Wire σ → wX3_collectInduced_l5_b a0 a1 Q E Bk x3 x4 σ → V l mdX3_collectInduced B 1 22 0 0 (ab_End (fun v σ' => Wire σ' ∧ ∃ r : Int32, v = some (.int r) ∧ Q r σ') (fun X σ' => Wire σ' ∧ E X σ')) 5 [(0, .ref 9), (1, .ref a0), (2, .int a1), (3, .int x3), (4, .int x4)] [] σ := by
      intro Bk k_Bk
      have k_j121 : ∀ (x3 : Int32) (x4 : Int32)  (σ : ab_S), Wire σ → wX3_collectInduced_j121 a0 a1 Q E Bk x3 x4 σ → V l mdX3_collectInduced B 1 22 0 0 (ab_End (fun v σ' => Wire σ' ∧ ∃ r : Int32, v = some (.int r) ∧ Q r σ') (fun X σ' => Wire σ' ∧ E X σ')) 121 [(0, .ref 9), (1, .ref a0), (2, .int a1), (3, .int x3), (4, .int x4)] [] σ := by
        intro x3 x4  σ hW h
        obtain ⟨v1, ev1⟩ : ∃ z : Int32, z = (x4 + 1) := ⟨_, rfl⟩
        replace h := h v1 ev1
        refine V_iinc 73 4 (v := v1) (lv' := [(4, .int v1), (0, .ref 9), (1, .ref a0), (2, .int a1), (3, .int x3)]) rfl rfl ((in_1 _).trans ev1.symm) (by decide) rfl ?_
        refine V_goto 74 (tgt := 5) rfl (by decide) ?_
        refine V_sub [1, 2, 3, 4, 0] (lv' := [(0, .ref 9), (1, .ref a0), (2, .int a1), (3, .int x3), (4, .int v1)]) rfl ?_
        exact k_Bk x3 v1  σ hW h
      have k_l28 : ∀ (n : Nat) (x3 : Int32) (x4 : Int32) (x5 : Int32) (x6 : Int32)  (σ : ab_S), Wire σ → wX3_collectInduced_l28 a0 a1 Q E (wX3_collectInduced_j121 a0 a1 Q E Bk) n x3 x4 x5 x6 σ → V l mdX3_collectInduced B 1 22 0 0 (ab_End (fun v σ' => Wire σ' ∧ ∃ r : Int32, v = some (.int r) ∧ Q r σ') (fun X σ' => Wire σ' ∧ E X σ')) 28 [(0, .ref 9), (1, .ref a0), (2, .int a1), (3, .int x3), (4, .int x4), (5, .int x5), (6, .int x6)] [] σ := by
        have step : ∀ (K121 : Int32 → Int32 → ab_S → Prop) (k_K121 : ∀ (x3 : Int32) (x4 : Int32)  (σ : ab_S), Wire σ → K121 x3 x4 σ → V l mdX3_collectInduced B 1 22 0 0 (ab_End (fun v σ' => Wire σ' ∧ ∃ r : Int32, v = some (.int r) ∧ Q r σ') (fun X σ' => Wire σ' ∧ E X σ')) 121 [(0, .ref 9), (1, .ref a0), (2, .int a1), (3, .int x3), (4, .int x4)] [] σ), ∀ (Bk : Int32 → Int32 → Int32 → Int32 → ab_S → Prop) (k_Bk : ∀ (x3 : Int32) (x4 : Int32) (x5 : Int32) (x6 : Int32)  (σ : ab_S), Wire σ → Bk x3 x4 x5 x6 σ → V l mdX3_collectInduced B 1 22 0 0 (ab_End (fun v σ' => Wire σ' ∧ ∃ r : Int32, v = some (.int r) ∧ Q r σ') (fun X σ' => Wire σ' ∧ E X σ')) 28 [(0, .ref 9), (1, .ref a0), (2, .int a1), (3, .int x3), (4, .int x4), (5, .int x5), (6, .int x6)] [] σ), ∀ (x3 : Int32) (x4 : Int32) (x5 : Int32) (x6 : Int32)  (σ : ab_S), Wire σ → wX3_collectInduced_l28_b a0 a1 Q E K121 Bk x3 x4 x5 x6 σ → V l mdX3_collectInduced B 1 22 0 0 (ab_End (fun v σ' => Wire σ' ∧ ∃ r : Int32, v = some (.int r) ∧ Q r σ') (fun X σ' => Wire σ' ∧ E X σ')) 28 [(0, .ref 9), (1, .ref a0), (2, .int a1), (3, .int x3), (4, .int x4), (5, .int x5), (6, .int x6)] [] σ := by
          intro K121 k_K121 Bk k_Bk
          have k_j101 : ∀ (x4 : Int32) (x5 : Int32) (x6 : Int32) (x7 : Int32) (x8 : Int32) (y0 : Int32) (y1 : Int32)  (σ : ab_S), Wire σ → wX3_collectInduced_j101 a0 a1 Q E K121 Bk x4 x5 x6 x7 x8 y0 y1 σ → V l mdX3_collectInduced B 1 22 0 0 (ab_End (fun v σ' => Wire σ' ∧ ∃ r : Int32, v = some (.int r) ∧ Q r σ') (fun X σ' => Wire σ' ∧ E X σ')) 101 [(0, .ref 9), (1, .ref a0), (2, .int a1), (4, .int x4), (5, .int x5), (6, .int x6), (7, .int x7), (8, .int x8)] [.int y0, .int y1] σ := by
            intro x4 x5 x6 x7 x8 y0 y1  σ hW h
            refine V_ior 61 rfl ?_
            refine V_topi (fun v2 ev2 => ?_)
            replace h := h v2 ev2
            refine V_istore_n 62 (lv' := [(3, .int v2), (0, .ref 9), (1, .ref a0), (2, .int a1), (4, .int x4), (5, .int x5), (6, .int x6), (7, .int x7), (8, .int x8)]) rfl rfl (by decide) rfl ?_
            refine V_aload_n 63 2 rfl rfl rfl ?_
            refine V_getR 64 17 rfl clX0 flX3_30 (by decide) (wG hW ha0) (fun _ => rfl) (wG_f17 hW ha0) ?_
            refine V_iload 65 8 rfl rfl ?_
            refine V_dup2 66 rfl rfl rfl ?_
            refine V_pc 110 rfl ?_
            obtain ⟨hin, h⟩ := h
            refine V_iald 67 rfl (wG_a15 hW ha0) hin ?_
            refine V_iload 68 7 rfl rfl ?_
            refine V_ior 69 rfl ?_
            obtain ⟨hin, h⟩ := h
            refine V_iast 70 rfl (wG_a15 hW ha0) hin ?_
            refine V_nm (fun σ3 eσ3 => ?_)
            replace h := h σ3 eσ3
            have hW := wire_I eσ3 hW
            obtain ⟨v4, ev4⟩ : ∃ z : Int32, z = (x6 + 1) := ⟨_, rfl⟩
            replace h := h v4 ev4
            refine V_iinc 71 6 (v := v4) (lv' := [(6, .int v4), (3, .int v2), (0, .ref 9), (1, .ref a0), (2, .int a1), (4, .int x4), (5, .int x5), (7, .int x7), (8, .int x8)]) rfl rfl ((in_1 _).trans ev4.symm) (by decide) rfl ?_
            refine V_goto 72 (tgt := 28) rfl (by decide) ?_
            refine V_sub [2, 3, 4, 1, 5, 6, 0] (lv' := [(0, .ref 9), (1, .ref a0), (2, .int a1), (3, .int v2), (4, .int x4), (5, .int x5), (6, .int v4)]) rfl ?_
            exact k_Bk v2 x4 x5 v4  σ3 hW h
          intro x3 x4 x5 x6  σ hW h
          refine V_iload 17 6 rfl rfl ?_
          refine V_aload_n 18 1 rfl rfl rfl ?_
          refine V_getR 19 2 rfl clX0 flX3_71 (by decide) (wG hW ha0) (fun _ => rfl) (wG_f2 hW ha0) ?_
          refine V_iload 20 5 rfl rfl ?_
          obtain ⟨hin, h⟩ := h
          refine V_iald 21 rfl (wG_a2 hW ha0) hin ?_
          refine V_icmp_ge 22 (tgt := 121) rfl (by decide) (fun hc => ?_) (fun hc => ?_)
          · replace h := h.1 hc
            refine V_sub [0, 1, 2, 3, 4] (lv' := [(0, .ref 9), (1, .ref a0), (2, .int a1), (3, .int x3), (4, .int x4)]) rfl ?_
            exact k_K121 x3 x4  σ hW h
          · replace h := h.2 hc
            refine V_pc 40 rfl ?_
            refine V_aload_n 23 0 rfl rfl rfl ?_
            refine V_getR 24 0 rfl clX3 flX3_9 (by decide) (wsh hW rfl) (fun _ => rfl) (wrf hW 18 rfl) ?_
            refine V_iload_n 25 2 rfl rfl rfl ?_
            refine V_bipush 26 (v := (32 : Int32)) rfl (by decide) ?_
            refine V_imul 27 rfl ?_
            refine V_iload 28 4 rfl rfl ?_
            refine V_pc 50 rfl ?_
            refine V_bipush 29 (v := (8 : Int32)) rfl (by decide) ?_
            refine V_imul 30 rfl ?_
            refine V_iadd 31 rfl ?_
            refine V_iload 32 6 rfl rfl ?_
            refine V_iadd 33 rfl ?_
            obtain ⟨hin, h⟩ := h
            refine V_iald 34 rfl (wsh hW rfl) hin ?_
            refine V_pc 58 rfl ?_
            refine V_iload 35 4 rfl rfl ?_
            refine V_bipush 36 (v := (8 : Int32)) rfl (by decide) ?_
            refine V_imul 37 rfl ?_
            refine V_iushr 38 rfl ?_
            refine V_sipush 39 (v := (255 : Int32)) rfl (by decide) ?_
            refine V_iand 40 rfl ?_
            refine V_pc 68 rfl ?_
            refine V_topi (fun v5 ev5 => ?_)
            replace h := h v5 ev5
            refine V_istore 41 (lv' := [(7, .int v5), (0, .ref 9), (1, .ref a0), (2, .int a1), (3, .int x3), (4, .int x4), (5, .int x5), (6, .int x6)]) rfl (by decide) rfl ?_
            refine V_iload 42 6 rfl rfl ?_
            refine V_bipush 43 (v := (8 : Int32)) rfl (by decide) ?_
            refine V_imul 44 rfl ?_
            refine V_iload 45 7 rfl rfl ?_
            refine V_iadd 46 rfl ?_
            refine V_pc 78 rfl ?_
            refine V_topi (fun v6 ev6 => ?_)
            replace h := h v6 ev6
            refine V_istore 47 (lv' := [(8, .int v6), (7, .int v5), (0, .ref 9), (1, .ref a0), (2, .int a1), (3, .int x3), (4, .int x4), (5, .int x5), (6, .int x6)]) rfl (by decide) rfl ?_
            refine V_iload_n 48 5 rfl rfl rfl ?_
            refine V_iload 49 1 rfl rfl ?_
            refine V_aload_n 50 3 rfl rfl rfl ?_
            refine V_getR 51 17 rfl clX0 flX3_30 (by decide) (wG hW ha0) (fun _ => rfl) (wG_f17 hW ha0) ?_
            refine V_iload 52 0 rfl rfl ?_
            refine V_pc 89 rfl ?_
            obtain ⟨hin, h⟩ := h
            refine V_iald 53 rfl (wG_a15 hW ha0) hin ?_
            refine V_iconst 54 (v := (-1 : Int32)) rfl (by decide) ?_
            refine V_ixor 55 rfl ?_
            refine V_iand 56 rfl ?_
            refine V_if_eq 57 (tgt := 100) rfl (by decide) (fun hc => ?_) (fun hc => ?_)
            · replace h := h.1 hc
              refine V_iconst 60 (v := (0 : Int32)) rfl (by decide) ?_
              refine V_sub [2, 3, 4, 6, 7, 8, 1, 0] (lv' := [(0, .ref 9), (1, .ref a0), (2, .int a1), (4, .int x4), (5, .int x5), (6, .int x6), (7, .int v5), (8, .int v6)]) rfl ?_
              exact k_j101 x4 x5 x6 v5 v6 (0 : Int32) x3 σ hW h
            · replace h := h.2 hc
              refine V_pc 96 rfl ?_
              refine V_iconst 58 (v := (1 : Int32)) rfl (by decide) ?_
              refine V_goto 59 (tgt := 101) rfl (by decide) ?_
              refine V_sub [2, 3, 4, 6, 7, 8, 1, 0] (lv' := [(0, .ref 9), (1, .ref a0), (2, .int a1), (4, .int x4), (5, .int x5), (6, .int x6), (7, .int v5), (8, .int v6)]) rfl ?_
              exact k_j101 x4 x5 x6 v5 v6 (1 : Int32) x3 σ hW h
        intro n
        induction n with
        | zero => intro x3 x4 x5 x6  σ hW h; exact absurd h id
        | succ n ih => exact step _ k_j121 _ ih
      intro x3 x4  σ hW h
      refine V_iload 4 4 rfl rfl ?_
      refine V_aload_n 5 1 rfl rfl rfl ?_
      refine V_getR 6 7 rfl clX0 flX3_80 (by decide) (wG hW ha0) (fun _ => rfl) (wG_f7 hW ha0) ?_
      refine V_iload_n 7 2 rfl rfl rfl ?_
      obtain ⟨hin, h⟩ := h
      refine V_iald 8 rfl (wG_a6 hW ha0) hin ?_
      refine V_icmp_gt 9 (tgt := 127) rfl (by decide) (fun hc => ?_) (fun hc => ?_)
      · replace h := h.1 hc
        refine V_iload_n 75 3 rfl rfl rfl ?_
        exact V_zret 76 rfl rfl (nb1 h.1) ⟨hW, _, rfl, h.2⟩
      · replace h := h.2 hc
        refine V_pc 16 rfl ?_
        refine V_aload_n 10 1 rfl rfl rfl ?_
        refine V_iload_n 11 2 rfl rfl rfl ?_
        refine V_iload 12 4 rfl rfl ?_
        refine V_callV 13 2 (as := [.int a1, .int x4]) (rest := []) rfl mlX3_83 yvX0_symbolAt rfl rfl clX0 (wG hW ha0) (by decide) (by decide) (Nat.le_of_ble_eq_true rfl) (by decide) (by decide) (fun B9 => ceX0_symbolAt hl B9 ha0 hW h) (fun X9 τ9 h9 => VX_out rfl h9) ?_
        rintro v9 σ7 ⟨hW, u8, rfl, h⟩
        refine V_istore 14 (lv' := [(5, .int u8), (0, .ref 9), (1, .ref a0), (2, .int a1), (3, .int x3), (4, .int x4)]) rfl (by decide) rfl ?_
        refine V_iconst 15 (v := (0 : Int32)) rfl (by decide) ?_
        refine V_istore 16 (lv' := [(6, .int (0 : Int32)), (5, .int u8), (0, .ref 9), (1, .ref a0), (2, .int a1), (3, .int x3), (4, .int x4)]) rfl (by decide) rfl ?_
        refine V_sub [2, 3, 4, 5, 6, 1, 0] (lv' := [(0, .ref 9), (1, .ref a0), (2, .int a1), (3, .int x3), (4, .int x4), (5, .int u8), (6, .int (0 : Int32))]) rfl ?_
        obtain ⟨n, h⟩ := h
        exact k_l28 n x3 x4 u8 (0 : Int32) σ7 hW h
    intro n
    induction n with
    | zero => intro x3 x4  σ hW h; exact absurd h id
    | succ n ih => exact step  _ ih
  intro σ hW h
  refine V_iconst 0 (v := (0 : Int32)) rfl (by decide) ?_
  refine V_istore_n 1 (lv' := [(3, .int (0 : Int32)), (0, .ref 9), (1, .ref a0), (2, .int a1)]) rfl rfl (by decide) rfl ?_
  refine V_iconst 2 (v := (0 : Int32)) rfl (by decide) ?_
  refine V_istore 3 (lv' := [(4, .int (0 : Int32)), (3, .int (0 : Int32)), (0, .ref 9), (1, .ref a0), (2, .int a1)]) rfl (by decide) rfl ?_
  refine V_sub [2, 3, 4, 1, 0] (lv' := [(0, .ref 9), (1, .ref a0), (2, .int a1), (3, .int (0 : Int32)), (4, .int (0 : Int32))]) rfl ?_
  obtain ⟨n, h⟩ := h
  exact k_l5 n (0 : Int32) (0 : Int32) σ hW h

def wX3_induce_j87 (a0 : Nat) (Q : ab_S → Prop) (E : String → ab_S → Prop) (Bk : Int32 → Int32 → ab_S → Prop) (x2 : Int32) (x3 : Int32) (σ : ab_S) : Prop := ∀ v1 : Int32, v1 = (x3 + 1) → Bk x2 v1 σ
def wX3_induce_l48_b (a0 : Nat) (Q : ab_S → Prop) (E : String → ab_S → Prop) (K87 : Int32 → Int32 → ab_S → Prop) (Bk : Int32 → Int32 → Int32 → ab_S → Prop) (x2 : Int32) (x3 : Int32) (x4 : Int32) (σ : ab_S) : Prop := (((σ.2.1 a0 5) ≤ x4) → K87 x2 x3 σ) ∧ (¬ ((σ.2.1 a0 5) ≤ x4) → wX3_addInduced a0 x4 (fun σ2 => wX3_close a0 x4 (fun σ3 => wX3_collectInduced a0 x4 (fun u5 σ4 => ∀ v6 : Int32, v6 = (x2 ||| u5) → ∀ v7 : Int32, v7 = (x4 + 1) → Bk v6 x3 v7 σ4) E σ3) E σ2) E σ)
def wX3_induce_l48 (a0 : Nat) (Q : ab_S → Prop) (E : String → ab_S → Prop) (K87 : Int32 → Int32 → ab_S → Prop) : Nat → Int32 → Int32 → Int32 → ab_S → Prop
  | 0, _, _, _, _ => False
  | n + 1, x2, x3, x4, σ => wX3_induce_l48_b a0 Q E K87 (wX3_induce_l48 a0 Q E K87 n) x2 x3 x4 σ
def wX3_induce_l32_b (a0 : Nat) (Q : ab_S → Prop) (E : String → ab_S → Prop) (Bk : Int32 → Int32 → ab_S → Prop) (x2 : Int32) (x3 : Int32) (σ : ab_S) : Prop := ((x2 = 0) → Q σ) ∧ (¬ (x2 = 0) → (((768 : Int32) < x3) → Q σ) ∧ (¬ ((768 : Int32) < x3) → ∃ n, wX3_induce_l48 a0 Q E (wX3_induce_j87 a0 Q E Bk) n (0 : Int32) x3 (0 : Int32) σ))
def wX3_induce_l32 (a0 : Nat) (Q : ab_S → Prop) (E : String → ab_S → Prop) : Nat → Int32 → Int32 → ab_S → Prop
  | 0, _, _, _ => False
  | n + 1, x2, x3, σ => wX3_induce_l32_b a0 Q E (wX3_induce_l32 a0 Q E n) x2 x3 σ
def wX3_induce (a0 : Nat) (Q : ab_S → Prop) (E : String → ab_S → Prop) (σ : ab_S) : Prop := ab_cpy (0 : Int32) (0 : Int32) ((σ.2.1 a0 5) * (32 : Int32)) 960 960 ∧ (∀ σ8 : ab_S, σ8 = ab_cpI σ (a0 + 10) 10 (0 : Int32).toNatClampNeg (0 : Int32).toNatClampNeg ((σ.2.1 a0 5) * (32 : Int32)).toNatClampNeg → wJ7_fill_53178 (a0 + 15) 96 (0 : Int32) (fun σ9 => ∃ n, wX3_induce_l32 a0 Q E n (1 : Int32) (0 : Int32) σ9) E σ8)
set_option maxHeartbeats 4000000 in
set_option maxRecDepth 100000 in
theorem ceX3_induce {l : Launch} (hl : l.stackTraces = false) (B : Nat) {a0 : Nat} (ha0 : isG a0) {Q : ab_S → Prop} {E : String → ab_S → Prop} {σ : ab_S} (hW : Wire σ) (h : wX3_induce a0 Q E σ) : ab_Mt l yX3_induce mdX3_induce B 2 60 0 0 [.ref 9, .ref a0] σ (fun v σ' => Wire σ' ∧ v = none ∧ Q σ') (fun X σ' => Wire σ' ∧ E X σ') := by
  refine V_met hl ⟨rfl, rfl, by decide⟩ rfl dkX3_induce (Nat.le_of_ble_eq_true rfl) ?_
  show V l mdX3_induce B 2 60 0 0 (ab_End _ _) 0 [(0, .ref 9), (1, .ref a0)] [] σ
  revert h hW
  revert σ
  have k_l32 : ∀ (n : Nat) (x2 : Int32) (x3 : Int32)  (σ : ab_S), Wire σ → wX3_induce_l32 a0 Q E n x2 x3 σ → V l mdX3_induce B 2 60 0 0 (ab_End (fun v σ' => Wire σ' ∧ v = none ∧ Q σ') (fun X σ' => Wire σ' ∧ E X σ')) 32 [(0, .ref 9), (1, .ref a0), (2, .int x2), (3, .int x3)] [] σ := by
    have step : ∀ (Bk : Int32 → Int32 → ab_S → Prop) (k_Bk : ∀ (x2 : Int32) (x3 : Int32)  (σ : ab_S), Wire σ → Bk x2 x3 σ → V l mdX3_induce B 2 60 0 0 (ab_End (fun v σ' => Wire σ' ∧ v = none ∧ Q σ') (fun X σ' => Wire σ' ∧ E X σ')) 32 [(0, .ref 9), (1, .ref a0), (2, .int x2), (3, .int x3)] [] σ), ∀ (x2 : Int32) (x3 : Int32)  (σ : ab_S), Wire σ → wX3_induce_l32_b a0 Q E Bk x2 x3 σ → V l mdX3_induce B 2 60 0 0 (ab_End (fun v σ' => Wire σ' ∧ v = none ∧ Q σ') (fun X σ' => Wire σ' ∧ E X σ')) 32 [(0, .ref 9), (1, .ref a0), (2, .int x2), (3, .int x3)] [] σ := by
      intro Bk k_Bk
      have k_j87 : ∀ (x2 : Int32) (x3 : Int32)  (σ : ab_S), Wire σ → wX3_induce_j87 a0 Q E Bk x2 x3 σ → V l mdX3_induce B 2 60 0 0 (ab_End (fun v σ' => Wire σ' ∧ v = none ∧ Q σ') (fun X σ' => Wire σ' ∧ E X σ')) 87 [(0, .ref 9), (1, .ref a0), (2, .int x2), (3, .int x3)] [] σ := by
        intro x2 x3  σ hW h
        obtain ⟨v1, ev1⟩ : ∃ z : Int32, z = (x3 + 1) := ⟨_, rfl⟩
        replace h := h v1 ev1
        refine V_iinc 49 3 (v := v1) (lv' := [(3, .int v1), (0, .ref 9), (1, .ref a0), (2, .int x2)]) rfl rfl ((in_1 _).trans ev1.symm) (by decide) rfl ?_
        refine V_goto 50 (tgt := 32) rfl (by decide) ?_
        refine V_sub [1, 2, 3, 0] (lv' := [(0, .ref 9), (1, .ref a0), (2, .int x2), (3, .int v1)]) rfl ?_
        exact k_Bk x2 v1  σ hW h
      have k_l48 : ∀ (n : Nat) (x2 : Int32) (x3 : Int32) (x4 : Int32)  (σ : ab_S), Wire σ → wX3_induce_l48 a0 Q E (wX3_induce_j87 a0 Q E Bk) n x2 x3 x4 σ → V l mdX3_induce B 2 60 0 0 (ab_End (fun v σ' => Wire σ' ∧ v = none ∧ Q σ') (fun X σ' => Wire σ' ∧ E X σ')) 48 [(0, .ref 9), (1, .ref a0), (2, .int x2), (3, .int x3), (4, .int x4)] [] σ := by
        have step : ∀ (K87 : Int32 → Int32 → ab_S → Prop) (k_K87 : ∀ (x2 : Int32) (x3 : Int32)  (σ : ab_S), Wire σ → K87 x2 x3 σ → V l mdX3_induce B 2 60 0 0 (ab_End (fun v σ' => Wire σ' ∧ v = none ∧ Q σ') (fun X σ' => Wire σ' ∧ E X σ')) 87 [(0, .ref 9), (1, .ref a0), (2, .int x2), (3, .int x3)] [] σ), ∀ (Bk : Int32 → Int32 → Int32 → ab_S → Prop) (k_Bk : ∀ (x2 : Int32) (x3 : Int32) (x4 : Int32)  (σ : ab_S), Wire σ → Bk x2 x3 x4 σ → V l mdX3_induce B 2 60 0 0 (ab_End (fun v σ' => Wire σ' ∧ v = none ∧ Q σ') (fun X σ' => Wire σ' ∧ E X σ')) 48 [(0, .ref 9), (1, .ref a0), (2, .int x2), (3, .int x3), (4, .int x4)] [] σ), ∀ (x2 : Int32) (x3 : Int32) (x4 : Int32)  (σ : ab_S), Wire σ → wX3_induce_l48_b a0 Q E K87 Bk x2 x3 x4 σ → V l mdX3_induce B 2 60 0 0 (ab_End (fun v σ' => Wire σ' ∧ v = none ∧ Q σ') (fun X σ' => Wire σ' ∧ E X σ')) 48 [(0, .ref 9), (1, .ref a0), (2, .int x2), (3, .int x3), (4, .int x4)] [] σ := by
          intro K87 k_K87 Bk k_Bk
          intro x2 x3 x4  σ hW h
          refine V_iload 28 4 rfl rfl ?_
          refine V_aload_n 29 1 rfl rfl rfl ?_
          refine V_get (v := .int (σ.2.1 a0 5)) 30 5 rfl clX0 flX3_20 (by decide) (wG hW ha0) (fun _ => rfl) ?_
          refine V_icmp_ge 31 (tgt := 87) rfl (by decide) (fun hc => ?_) (fun hc => ?_)
          · replace h := h.1 hc
            refine V_sub [0, 1, 2, 3] (lv' := [(0, .ref 9), (1, .ref a0), (2, .int x2), (3, .int x3)]) rfl ?_
            exact k_K87 x2 x3  σ hW h
          · replace h := h.2 hc
            refine V_pc 57 rfl ?_
            refine V_aload_n 32 0 rfl rfl rfl ?_
            refine V_aload_n 33 1 rfl rfl rfl ?_
            refine V_iload 34 4 rfl rfl ?_
            refine V_callV 35 2 (as := [.ref a0, .int x4]) (rest := []) rfl mlX3_39 yvX3_addInduced rfl rfl clX3 (wsh hW rfl) (by decide) (by decide) (Nat.le_of_ble_eq_true rfl) (by decide) (by decide) (fun B9 => ceX3_addInduced hl B9 ha0 hW h) (fun X9 τ9 h9 => VX_out rfl h9) ?_
            rintro v9 σ2 ⟨hW, rfl, h⟩
            refine V_aload_n 36 0 rfl rfl rfl ?_
            refine V_aload_n 37 1 rfl rfl rfl ?_
            refine V_iload 38 4 rfl rfl ?_
            refine V_callV 39 2 (as := [.ref a0, .int x4]) (rest := []) rfl mlX3_43 yvX3_close rfl rfl clX3 (wsh hW rfl) (by decide) (by decide) (Nat.le_of_ble_eq_true rfl) (by decide) (by decide) (fun B9 => ceX3_close hl B9 ha0 hW h) (fun X9 τ9 h9 => VX_out rfl h9) ?_
            rintro v9 σ3 ⟨hW, rfl, h⟩
            refine V_iload_n 40 2 rfl rfl rfl ?_
            refine V_aload_n 41 0 rfl rfl rfl ?_
            refine V_aload_n 42 1 rfl rfl rfl ?_
            refine V_iload 43 4 rfl rfl ?_
            refine V_callV 44 2 (as := [.ref a0, .int x4]) (rest := [.int x2]) rfl mlX3_46 yvX3_collectInduced rfl rfl clX3 (wsh hW rfl) (by decide) (by decide) (Nat.le_of_ble_eq_true rfl) (by decide) (by decide) (fun B9 => ceX3_collectInduced hl B9 ha0 hW h) (fun X9 τ9 h9 => VX_out rfl h9) ?_
            rintro v9 σ4 ⟨hW, u5, rfl, h⟩
            refine V_ior 45 rfl ?_
            refine V_topi (fun v6 ev6 => ?_)
            replace h := h v6 ev6
            refine V_istore_n 46 (lv' := [(2, .int v6), (0, .ref 9), (1, .ref a0), (3, .int x3), (4, .int x4)]) rfl rfl (by decide) rfl ?_
            obtain ⟨v7, ev7⟩ : ∃ z : Int32, z = (x4 + 1) := ⟨_, rfl⟩
            replace h := h v7 ev7
            refine V_iinc 47 4 (v := v7) (lv' := [(4, .int v7), (2, .int v6), (0, .ref 9), (1, .ref a0), (3, .int x3)]) rfl rfl ((in_1 _).trans ev7.symm) (by decide) rfl ?_
            refine V_goto 48 (tgt := 48) rfl (by decide) ?_
            refine V_sub [2, 3, 1, 4, 0] (lv' := [(0, .ref 9), (1, .ref a0), (2, .int v6), (3, .int x3), (4, .int v7)]) rfl ?_
            exact k_Bk v6 x3 v7  σ4 hW h
        intro n
        induction n with
        | zero => intro x2 x3 x4  σ hW h; exact absurd h id
        | succ n ih => exact step _ k_j87 _ ih
      intro x2 x3  σ hW h
      refine V_iload_n 19 2 rfl rfl rfl ?_
      refine V_if_eq 20 (tgt := 93) rfl (by decide) (fun hc => ?_) (fun hc => ?_)
      · replace h := h.1 hc
        exact V_vret 51 rfl rfl ⟨hW, rfl, h⟩
      · replace h := h.2 hc
        refine V_pc 36 rfl ?_
        refine V_iload_n 21 3 rfl rfl rfl ?_
        refine V_sipush 22 (v := (768 : Int32)) rfl (by decide) ?_
        refine V_icmp_gt 23 (tgt := 93) rfl (by decide) (fun hc => ?_) (fun hc => ?_)
        · replace h := h.1 hc
          exact V_vret 51 rfl rfl ⟨hW, rfl, h⟩
        · replace h := h.2 hc
          refine V_pc 43 rfl ?_
          refine V_iconst 24 (v := (0 : Int32)) rfl (by decide) ?_
          refine V_istore_n 25 (lv' := [(2, .int (0 : Int32)), (0, .ref 9), (1, .ref a0), (3, .int x3)]) rfl rfl (by decide) rfl ?_
          refine V_iconst 26 (v := (0 : Int32)) rfl (by decide) ?_
          refine V_istore 27 (lv' := [(4, .int (0 : Int32)), (2, .int (0 : Int32)), (0, .ref 9), (1, .ref a0), (3, .int x3)]) rfl (by decide) rfl ?_
          refine V_sub [2, 3, 1, 4, 0] (lv' := [(0, .ref 9), (1, .ref a0), (2, .int (0 : Int32)), (3, .int x3), (4, .int (0 : Int32))]) rfl ?_
          obtain ⟨n, h⟩ := h
          exact k_l48 n (0 : Int32) x3 (0 : Int32) σ hW h
    intro n
    induction n with
    | zero => intro x2 x3  σ hW h; exact absurd h id
    | succ n ih => exact step  _ ih
  intro σ hW h
  refine V_aload_n 0 1 rfl rfl rfl ?_
  refine V_getR 1 11 rfl clX0 flX3_15 (by decide) (wG hW ha0) (fun _ => rfl) (wG_f11 hW ha0) ?_
  refine V_iconst 2 (v := (0 : Int32)) rfl (by decide) ?_
  refine V_aload_n 3 0 rfl rfl rfl ?_
  refine V_getR 4 0 rfl clX3 flX3_9 (by decide) (wsh hW rfl) (fun _ => rfl) (wrf hW 18 rfl) ?_
  refine V_iconst 5 (v := (0 : Int32)) rfl (by decide) ?_
  refine V_pc 10 rfl ?_
  refine V_aload_n 6 1 rfl rfl rfl ?_
  refine V_get (v := .int (σ.2.1 a0 5)) 7 5 rfl clX0 flX3_20 (by decide) (wG hW ha0) (fun _ => rfl) ?_
  refine V_bipush 8 (v := (32 : Int32)) rfl (by decide) ?_
  refine V_imul 9 rfl ?_
  obtain ⟨hcp, h⟩ := h
  refine V_copyI 10 rfl mlX3_24 ac_n ac_s ac_i (wG_a10 hW ha0) (wsh hW rfl) hcp (by decide) (Nat.le_of_ble_eq_true rfl) ?_
  refine V_nm (fun σ8 eσ8 => ?_)
  replace h := h σ8 eσ8
  have hW := wire_cI eσ8 hW
  refine V_aload_n 11 1 rfl rfl rfl ?_
  refine V_getR 12 17 rfl clX0 flX3_30 (by decide) (wG hW ha0) (fun _ => rfl) (wG_f17 hW ha0) ?_
  refine V_iconst 13 (v := (0 : Int32)) rfl (by decide) ?_
  refine V_callS 14 2 (as := [.ref (a0 + 15), .int (0 : Int32)]) (rest := []) rfl mlX3_33 yvJ7_fill_53178 rfl rfl (by decide) (by decide) (Nat.le_of_ble_eq_true rfl) (by decide) (by decide) (fun B9 => ceJ7_fill_53178 hl B9 (wG_s15 ha0) hW h) (fun X9 τ9 h9 => VX_out rfl h9) ?_
  rintro v9 σ9 ⟨hW, rfl, h⟩
  refine V_iconst 15 (v := (1 : Int32)) rfl (by decide) ?_
  refine V_istore_n 16 (lv' := [(2, .int (1 : Int32)), (0, .ref 9), (1, .ref a0)]) rfl rfl (by decide) rfl ?_
  refine V_iconst 17 (v := (0 : Int32)) rfl (by decide) ?_
  refine V_istore_n 18 (lv' := [(3, .int (0 : Int32)), (2, .int (1 : Int32)), (0, .ref 9), (1, .ref a0)]) rfl rfl (by decide) rfl ?_
  refine V_sub [2, 3, 1, 0] (lv' := [(0, .ref 9), (1, .ref a0), (2, .int (1 : Int32)), (3, .int (0 : Int32))]) rfl ?_
  obtain ⟨n, h⟩ := h
  exact k_l32 n (1 : Int32) (0 : Int32) σ9 hW h

def wX3_hasCircle_l2_b (a0 : Int32) (Q : Int32 → ab_S → Prop) (E : String → ab_S → Prop) (Bk : Int32 → ab_S → Prop) (x2 : Int32) (σ : ab_S) : Prop := (((32 : Int32) ≤ x2) → Q (0 : Int32) σ) ∧ (¬ ((32 : Int32) ≤ x2) → vp_in ((a0 * (32 : Int32)) + x2) 960 ∧ (((((((σ.2.1 10 ((a0 * (32 : Int32)) + x2).toNatClampNeg).toUInt32 >>> (x2.toUInt32 &&& Int32.toUInt32 31)).toInt32) &&& (1 : Int32)) = 0) → ∀ v1 : Int32, v1 = (x2 + 1) → Bk v1 σ) ∧ (¬ (((((σ.2.1 10 ((a0 * (32 : Int32)) + x2).toNatClampNeg).toUInt32 >>> (x2.toUInt32 &&& Int32.toUInt32 31)).toInt32) &&& (1 : Int32)) = 0) → Q (1 : Int32) σ)))
def wX3_hasCircle_l2 (a0 : Int32) (Q : Int32 → ab_S → Prop) (E : String → ab_S → Prop) : Nat → Int32 → ab_S → Prop
  | 0, _, _ => False
  | n + 1, x2, σ => wX3_hasCircle_l2_b a0 Q E (wX3_hasCircle_l2 a0 Q E n) x2 σ
def wX3_hasCircle (a0 : Int32) (Q : Int32 → ab_S → Prop) (E : String → ab_S → Prop) (σ : ab_S) : Prop := ∃ n, wX3_hasCircle_l2 a0 Q E n (0 : Int32) σ
set_option maxHeartbeats 4000000 in
set_option maxRecDepth 100000 in
theorem ceX3_hasCircle {l : Launch} (hl : l.stackTraces = false) (B : Nat) {a0 : Int32}  {Q : Int32 → ab_S → Prop} {E : String → ab_S → Prop} {σ : ab_S} (hW : Wire σ) (h : wX3_hasCircle a0 Q E σ) : ab_Mt l yX3_hasCircle mdX3_hasCircle B 0 0 0 0 [.ref 9, .int a0] σ (fun v σ' => Wire σ' ∧ ∃ r : Int32, v = some (.int r) ∧ Q r σ') (fun X σ' => Wire σ' ∧ E X σ') := by
  refine V_met hl ⟨rfl, rfl, by decide⟩ rfl dkX3_hasCircle (Nat.le_of_ble_eq_true rfl) ?_
  show V l mdX3_hasCircle B 0 0 0 0 (ab_End _ _) 0 [(0, .ref 9), (1, .int a0)] [] σ
  revert h hW
  revert σ
  have k_l2 : ∀ (n : Nat) (x2 : Int32)  (σ : ab_S), Wire σ → wX3_hasCircle_l2 a0 Q E n x2 σ → V l mdX3_hasCircle B 0 0 0 0 (ab_End (fun v σ' => Wire σ' ∧ ∃ r : Int32, v = some (.int r) ∧ Q r σ') (fun X σ' => Wire σ' ∧ E X σ')) 2 [(0, .ref 9), (1, .int a0), (2, .int x2)] [] σ := by
    have step : ∀ (Bk : Int32 → ab_S → Prop) (k_Bk : ∀ (x2 : Int32)  (σ : ab_S), Wire σ → Bk x2 σ → V l mdX3_hasCircle B 0 0 0 0 (ab_End (fun v σ' => Wire σ' ∧ ∃ r : Int32, v = some (.int r) ∧ Q r σ') (fun X σ' => Wire σ' ∧ E X σ')) 2 [(0, .ref 9), (1, .int a0), (2, .int x2)] [] σ), ∀ (x2 : Int32)  (σ : ab_S), Wire σ → wX3_hasCircle_l2_b a0 Q E Bk x2 σ → V l mdX3_hasCircle B 0 0 0 0 (ab_End (fun v σ' => Wire σ' ∧ ∃ r : Int32, v = some (.int r) ∧ Q r σ') (fun X σ' => Wire σ' ∧ E X σ')) 2 [(0, .ref 9), (1, .int a0), (2, .int x2)] [] σ := by
      intro Bk k_Bk
      intro x2  σ hW h
      refine V_iload_n 2 2 rfl rfl rfl ?_
      refine V_bipush 3 (v := (32 : Int32)) rfl (by decide) ?_
      refine V_icmp_ge 4 (tgt := 34) rfl (by decide) (fun hc => ?_) (fun hc => ?_)
      · replace h := h.1 hc
        refine V_iconst 22 (v := (0 : Int32)) rfl (by decide) ?_
        exact V_zret 23 rfl rfl rfl ⟨hW, _, rfl, h⟩
      · replace h := h.2 hc
        refine V_pc 8 rfl ?_
        refine V_aload_n 5 0 rfl rfl rfl ?_
        refine V_getR 6 0 rfl clX3 flX3_9 (by decide) (wsh hW rfl) (fun _ => rfl) (wrf hW 18 rfl) ?_
        refine V_iload_n 7 1 rfl rfl rfl ?_
        refine V_bipush 8 (v := (32 : Int32)) rfl (by decide) ?_
        refine V_imul 9 rfl ?_
        refine V_iload_n 10 2 rfl rfl rfl ?_
        refine V_pc 17 rfl ?_
        refine V_iadd 11 rfl ?_
        obtain ⟨hin, h⟩ := h
        refine V_iald 12 rfl (wsh hW rfl) hin ?_
        refine V_iload_n 13 2 rfl rfl rfl ?_
        refine V_iushr 14 rfl ?_
        refine V_iconst 15 (v := (1 : Int32)) rfl (by decide) ?_
        refine V_iand 16 rfl ?_
        refine V_pc 23 rfl ?_
        refine V_if_eq 17 (tgt := 28) rfl (by decide) (fun hc => ?_) (fun hc => ?_)
        · replace h := h.1 hc
          obtain ⟨v1, ev1⟩ : ∃ z : Int32, z = (x2 + 1) := ⟨_, rfl⟩
          replace h := h v1 ev1
          refine V_iinc 20 2 (v := v1) (lv' := [(2, .int v1), (0, .ref 9), (1, .int a0)]) rfl rfl ((in_1 _).trans ev1.symm) (by decide) rfl ?_
          refine V_goto 21 (tgt := 2) rfl (by decide) ?_
          refine V_sub [1, 2, 0] (lv' := [(0, .ref 9), (1, .int a0), (2, .int v1)]) rfl ?_
          exact k_Bk v1  σ hW h
        · replace h := h.2 hc
          refine V_pc 26 rfl ?_
          refine V_iconst 18 (v := (1 : Int32)) rfl (by decide) ?_
          exact V_zret 19 rfl rfl rfl ⟨hW, _, rfl, h⟩
    intro n
    induction n with
    | zero => intro x2  σ hW h; exact absurd h id
    | succ n ih => exact step  _ ih
  intro σ hW h
  refine V_iconst 0 (v := (0 : Int32)) rfl (by decide) ?_
  refine V_istore_n 1 (lv' := [(2, .int (0 : Int32)), (0, .ref 9), (1, .int a0)]) rfl rfl (by decide) rfl ?_
  refine V_sub [1, 2, 0] (lv' := [(0, .ref 9), (1, .int a0), (2, .int (0 : Int32))]) rfl ?_
  obtain ⟨n, h⟩ := h
  exact k_l2 n (0 : Int32) σ hW h

def wX3_firstCircular_l2_b (a0 : Nat) (Q : Int32 → ab_S → Prop) (E : String → ab_S → Prop) (Bk : Int32 → ab_S → Prop) (x2 : Int32) (σ : ab_S) : Prop := (((σ.2.1 a0 5) ≤ x2) → Q (-1 : Int32) σ) ∧ (¬ ((σ.2.1 a0 5) ≤ x2) → wX3_hasCircle x2 (fun u2 σ1 => ((u2 = 0) → ∀ v3 : Int32, v3 = (x2 + 1) → Bk v3 σ1) ∧ (¬ (u2 = 0) → Q x2 σ1)) E σ)
def wX3_firstCircular_l2 (a0 : Nat) (Q : Int32 → ab_S → Prop) (E : String → ab_S → Prop) : Nat → Int32 → ab_S → Prop
  | 0, _, _ => False
  | n + 1, x2, σ => wX3_firstCircular_l2_b a0 Q E (wX3_firstCircular_l2 a0 Q E n) x2 σ
def wX3_firstCircular (a0 : Nat) (Q : Int32 → ab_S → Prop) (E : String → ab_S → Prop) (σ : ab_S) : Prop := ∃ n, wX3_firstCircular_l2 a0 Q E n (0 : Int32) σ
set_option maxHeartbeats 4000000 in
set_option maxRecDepth 100000 in
theorem ceX3_firstCircular {l : Launch} (hl : l.stackTraces = false) (B : Nat) {a0 : Nat} (ha0 : isG a0) {Q : Int32 → ab_S → Prop} {E : String → ab_S → Prop} {σ : ab_S} (hW : Wire σ) (h : wX3_firstCircular a0 Q E σ) : ab_Mt l yX3_firstCircular mdX3_firstCircular B 1 22 0 0 [.ref 9, .ref a0] σ (fun v σ' => Wire σ' ∧ ∃ r : Int32, v = some (.int r) ∧ Q r σ') (fun X σ' => Wire σ' ∧ E X σ') := by
  refine V_met hl ⟨rfl, rfl, by decide⟩ rfl dkX3_firstCircular (Nat.le_of_ble_eq_true rfl) ?_
  show V l mdX3_firstCircular B 1 22 0 0 (ab_End _ _) 0 [(0, .ref 9), (1, .ref a0)] [] σ
  revert h hW
  revert σ
  have k_l2 : ∀ (n : Nat) (x2 : Int32)  (σ : ab_S), Wire σ → wX3_firstCircular_l2 a0 Q E n x2 σ → V l mdX3_firstCircular B 1 22 0 0 (ab_End (fun v σ' => Wire σ' ∧ ∃ r : Int32, v = some (.int r) ∧ Q r σ') (fun X σ' => Wire σ' ∧ E X σ')) 2 [(0, .ref 9), (1, .ref a0), (2, .int x2)] [] σ := by
    have step : ∀ (Bk : Int32 → ab_S → Prop) (k_Bk : ∀ (x2 : Int32)  (σ : ab_S), Wire σ → Bk x2 σ → V l mdX3_firstCircular B 1 22 0 0 (ab_End (fun v σ' => Wire σ' ∧ ∃ r : Int32, v = some (.int r) ∧ Q r σ') (fun X σ' => Wire σ' ∧ E X σ')) 2 [(0, .ref 9), (1, .ref a0), (2, .int x2)] [] σ), ∀ (x2 : Int32)  (σ : ab_S), Wire σ → wX3_firstCircular_l2_b a0 Q E Bk x2 σ → V l mdX3_firstCircular B 1 22 0 0 (ab_End (fun v σ' => Wire σ' ∧ ∃ r : Int32, v = some (.int r) ∧ Q r σ') (fun X σ' => Wire σ' ∧ E X σ')) 2 [(0, .ref 9), (1, .ref a0), (2, .int x2)] [] σ := by
      intro Bk k_Bk
      intro x2  σ hW h
      refine V_iload_n 2 2 rfl rfl rfl ?_
      refine V_aload_n 3 1 rfl rfl rfl ?_
      refine V_get (v := .int (σ.2.1 a0 5)) 4 5 rfl clX0 flX3_20 (by decide) (wG hW ha0) (fun _ => rfl) ?_
      refine V_icmp_ge 5 (tgt := 26) rfl (by decide) (fun hc => ?_) (fun hc => ?_)
      · replace h := h.1 hc
        refine V_iconst 14 (v := (-1 : Int32)) rfl (by decide) ?_
        exact V_iret 15 rfl rfl ⟨hW, _, rfl, h⟩
      · replace h := h.2 hc
        refine V_pc 10 rfl ?_
        refine V_aload_n 6 0 rfl rfl rfl ?_
        refine V_iload_n 7 2 rfl rfl rfl ?_
        refine V_callV 8 1 (as := [.int x2]) (rest := []) rfl mlX3_50 yvX3_hasCircle rfl rfl clX3 (wsh hW rfl) (by decide) (by decide) (Nat.le_of_ble_eq_true rfl) (by decide) (by decide) (fun B9 => ceX3_hasCircle hl B9 hW h) (fun X9 τ9 h9 => VX_out rfl h9) ?_
        rintro v9 σ1 ⟨hW, u2, rfl, h⟩
        refine V_if_eq 9 (tgt := 20) rfl (by decide) (fun hc => ?_) (fun hc => ?_)
        · replace h := h.1 hc
          obtain ⟨v3, ev3⟩ : ∃ z : Int32, z = (x2 + 1) := ⟨_, rfl⟩
          replace h := h v3 ev3
          refine V_iinc 12 2 (v := v3) (lv' := [(2, .int v3), (0, .ref 9), (1, .ref a0)]) rfl rfl ((in_1 _).trans ev3.symm) (by decide) rfl ?_
          refine V_goto 13 (tgt := 2) rfl (by decide) ?_
          refine V_sub [1, 2, 0] (lv' := [(0, .ref 9), (1, .ref a0), (2, .int v3)]) rfl ?_
          exact k_Bk v3  σ1 hW h
        · replace h := h.2 hc
          refine V_pc 18 rfl ?_
          refine V_iload_n 10 2 rfl rfl rfl ?_
          exact V_iret 11 rfl rfl ⟨hW, _, rfl, h⟩
    intro n
    induction n with
    | zero => intro x2  σ hW h; exact absurd h id
    | succ n ih => exact step  _ ih
  intro σ hW h
  refine V_iconst 0 (v := (0 : Int32)) rfl (by decide) ?_
  refine V_istore_n 1 (lv' := [(2, .int (0 : Int32)), (0, .ref 9), (1, .ref a0)]) rfl rfl (by decide) rfl ?_
  refine V_sub [1, 2, 0] (lv' := [(0, .ref 9), (1, .ref a0), (2, .int (0 : Int32))]) rfl ?_
  obtain ⟨n, h⟩ := h
  exact k_l2 n (0 : Int32) σ hW h

def wX3_atLevel_j39 (a0 : Nat) (a1 : Int32) (a2 : Int32) (Q : Int32 → ab_S → Prop) (E : String → ab_S → Prop) (Bk : Int32 → Int32 → ab_S → Prop) (x3 : Int32) (x4 : Int32) (σ : ab_S) : Prop := ∀ v1 : Int32, v1 = (x4 + 1) → Bk x3 v1 σ
def wX3_atLevel_l5_b (a0 : Nat) (a1 : Int32) (a2 : Int32) (Q : Int32 → ab_S → Prop) (E : String → ab_S → Prop) (Bk : Int32 → Int32 → ab_S → Prop) (x3 : Int32) (x4 : Int32) (σ : ab_S) : Prop := vp_in a1 12 ∧ ((((σ.2.1 (a0 + 2) a1.toNatClampNeg) ≤ x4) → Q x3 σ) ∧ (¬ ((σ.2.1 (a0 + 2) a1.toNatClampNeg) ≤ x4) → vp_in ((a1 * (8 : Int32)) + x4) 96 ∧ (((¬ (σ.2.1 (a0 + 16) ((a1 * (8 : Int32)) + x4).toNatClampNeg) = a2) → wX3_atLevel_j39 a0 a1 a2 Q E Bk x3 x4 σ) ∧ (¬ (¬ (σ.2.1 (a0 + 16) ((a1 * (8 : Int32)) + x4).toNatClampNeg) = a2) → ∀ v2 : Int32, v2 = (x3 ||| ((1 : Int32) <<< (x4 &&& 31))) → wX3_atLevel_j39 a0 a1 a2 Q E Bk v2 x4 σ))))
def wX3_atLevel_l5 (a0 : Nat) (a1 : Int32) (a2 : Int32) (Q : Int32 → ab_S → Prop) (E : String → ab_S → Prop) : Nat → Int32 → Int32 → ab_S → Prop
  | 0, _, _, _ => False
  | n + 1, x3, x4, σ => wX3_atLevel_l5_b a0 a1 a2 Q E (wX3_atLevel_l5 a0 a1 a2 Q E n) x3 x4 σ
def wX3_atLevel (a0 : Nat) (a1 : Int32) (a2 : Int32) (Q : Int32 → ab_S → Prop) (E : String → ab_S → Prop) (σ : ab_S) : Prop := ∃ n, wX3_atLevel_l5 a0 a1 a2 Q E n (0 : Int32) (0 : Int32) σ
set_option maxHeartbeats 4000000 in
set_option maxRecDepth 100000 in
theorem ceX3_atLevel {l : Launch} (hl : l.stackTraces = false) (B : Nat) {a0 : Nat} {a1 : Int32} {a2 : Int32} (ha0 : isG a0) {Q : Int32 → ab_S → Prop} {E : String → ab_S → Prop} {σ : ab_S} (hW : Wire σ) (h : wX3_atLevel a0 a1 a2 Q E σ) : ab_Mt l yX3_atLevel mdX3_atLevel B 0 0 0 0 [.ref a0, .int a1, .int a2] σ (fun v σ' => Wire σ' ∧ ∃ r : Int32, v = some (.int r) ∧ Q r σ') (fun X σ' => Wire σ' ∧ E X σ') := by
  refine V_met hl ⟨rfl, rfl, by decide⟩ rfl dkX3_atLevel (Nat.le_of_ble_eq_true rfl) ?_
  show V l mdX3_atLevel B 0 0 0 0 (ab_End _ _) 0 [(0, .ref a0), (1, .int a1), (2, .int a2)] [] σ
  revert h hW
  revert σ
  have k_l5 : ∀ (n : Nat) (x3 : Int32) (x4 : Int32)  (σ : ab_S), Wire σ → wX3_atLevel_l5 a0 a1 a2 Q E n x3 x4 σ → V l mdX3_atLevel B 0 0 0 0 (ab_End (fun v σ' => Wire σ' ∧ ∃ r : Int32, v = some (.int r) ∧ Q r σ') (fun X σ' => Wire σ' ∧ E X σ')) 5 [(0, .ref a0), (1, .int a1), (2, .int a2), (3, .int x3), (4, .int x4)] [] σ := by
    have step : ∀ (Bk : Int32 → Int32 → ab_S → Prop) (k_Bk : ∀ (x3 : Int32) (x4 : Int32)  (σ : ab_S), Wire σ → Bk x3 x4 σ → V l mdX3_atLevel B 0 0 0 0 (ab_End (fun v σ' => Wire σ' ∧ ∃ r : Int32, v = some (.int r) ∧ Q r σ') (fun X σ' => Wire σ' ∧ E X σ')) 5 [(0, .ref a0), (1, .int a1), (2, .int a2), (3, .int x3), (4, .int x4)] [] σ), ∀ (x3 : Int32) (x4 : Int32)  (σ : ab_S), Wire σ → wX3_atLevel_l5_b a0 a1 a2 Q E Bk x3 x4 σ → V l mdX3_atLevel B 0 0 0 0 (ab_End (fun v σ' => Wire σ' ∧ ∃ r : Int32, v = some (.int r) ∧ Q r σ') (fun X σ' => Wire σ' ∧ E X σ')) 5 [(0, .ref a0), (1, .int a1), (2, .int a2), (3, .int x3), (4, .int x4)] [] σ := by
      intro Bk k_Bk
      have k_j39 : ∀ (x3 : Int32) (x4 : Int32)  (σ : ab_S), Wire σ → wX3_atLevel_j39 a0 a1 a2 Q E Bk x3 x4 σ → V l mdX3_atLevel B 0 0 0 0 (ab_End (fun v σ' => Wire σ' ∧ ∃ r : Int32, v = some (.int r) ∧ Q r σ') (fun X σ' => Wire σ' ∧ E X σ')) 39 [(0, .ref a0), (1, .int a1), (2, .int a2), (3, .int x3), (4, .int x4)] [] σ := by
        intro x3 x4  σ hW h
        obtain ⟨v1, ev1⟩ : ∃ z : Int32, z = (x4 + 1) := ⟨_, rfl⟩
        replace h := h v1 ev1
        refine V_iinc 26 4 (v := v1) (lv' := [(4, .int v1), (0, .ref a0), (1, .int a1), (2, .int a2), (3, .int x3)]) rfl rfl ((in_1 _).trans ev1.symm) (by decide) rfl ?_
        refine V_goto 27 (tgt := 5) rfl (by decide) ?_
        refine V_sub [1, 2, 3, 4, 0] (lv' := [(0, .ref a0), (1, .int a1), (2, .int a2), (3, .int x3), (4, .int v1)]) rfl ?_
        exact k_Bk x3 v1  σ hW h
      intro x3 x4  σ hW h
      refine V_iload 4 4 rfl rfl ?_
      refine V_aload_n 5 0 rfl rfl rfl ?_
      refine V_getR 6 2 rfl clX0 flX3_71 (by decide) (wG hW ha0) (fun _ => rfl) (wG_f2 hW ha0) ?_
      refine V_iload_n 7 1 rfl rfl rfl ?_
      obtain ⟨hin, h⟩ := h
      refine V_iald 8 rfl (wG_a2 hW ha0) hin ?_
      refine V_icmp_ge 9 (tgt := 45) rfl (by decide) (fun hc => ?_) (fun hc => ?_)
      · replace h := h.1 hc
        refine V_iload_n 28 3 rfl rfl rfl ?_
        exact V_iret 29 rfl rfl ⟨hW, _, rfl, h⟩
      · replace h := h.2 hc
        refine V_pc 16 rfl ?_
        refine V_aload_n 10 0 rfl rfl rfl ?_
        refine V_getR 11 18 rfl clX0 flX3_74 (by decide) (wG hW ha0) (fun _ => rfl) (wG_f18 hW ha0) ?_
        refine V_iload_n 12 1 rfl rfl rfl ?_
        refine V_bipush 13 (v := (8 : Int32)) rfl (by decide) ?_
        refine V_imul 14 rfl ?_
        refine V_iload 15 4 rfl rfl ?_
        refine V_pc 26 rfl ?_
        refine V_iadd 16 rfl ?_
        obtain ⟨hin, h⟩ := h
        refine V_iald 17 rfl (wG_a16 hW ha0) hin ?_
        refine V_iload_n 18 2 rfl rfl rfl ?_
        refine V_icmp_ne 19 (tgt := 39) rfl (by decide) (fun hc => ?_) (fun hc => ?_)
        · replace h := h.1 hc
          exact k_j39 x3 x4 σ hW h
        · replace h := h.2 hc
          refine V_pc 32 rfl ?_
          refine V_iload_n 20 3 rfl rfl rfl ?_
          refine V_iconst 21 (v := (1 : Int32)) rfl (by decide) ?_
          refine V_iload 22 4 rfl rfl ?_
          refine V_ishl 23 rfl ?_
          refine V_ior 24 rfl ?_
          refine V_topi (fun v2 ev2 => ?_)
          replace h := h v2 ev2
          refine V_istore_n 25 (lv' := [(3, .int v2), (0, .ref a0), (1, .int a1), (2, .int a2), (4, .int x4)]) rfl rfl (by decide) rfl ?_
          refine V_sub [1, 2, 3, 0, 4] (lv' := [(0, .ref a0), (1, .int a1), (2, .int a2), (3, .int v2), (4, .int x4)]) rfl ?_
          exact k_j39 v2 x4 σ hW h
    intro n
    induction n with
    | zero => intro x3 x4  σ hW h; exact absurd h id
    | succ n ih => exact step  _ ih
  intro σ hW h
  refine V_iconst 0 (v := (0 : Int32)) rfl (by decide) ?_
  refine V_istore_n 1 (lv' := [(3, .int (0 : Int32)), (0, .ref a0), (1, .int a1), (2, .int a2)]) rfl rfl (by decide) rfl ?_
  refine V_iconst 2 (v := (0 : Int32)) rfl (by decide) ?_
  refine V_istore 3 (lv' := [(4, .int (0 : Int32)), (3, .int (0 : Int32)), (0, .ref a0), (1, .int a1), (2, .int a2)]) rfl (by decide) rfl ?_
  refine V_sub [2, 3, 4, 1, 0] (lv' := [(0, .ref a0), (1, .int a1), (2, .int a2), (3, .int (0 : Int32)), (4, .int (0 : Int32))]) rfl ?_
  obtain ⟨n, h⟩ := h
  exact k_l5 n (0 : Int32) (0 : Int32) σ hW h

def wX3_addLevels_j91 (a0 : Nat) (a1 : Int32) (Q : ab_S → Prop) (E : String → ab_S → Prop) (Bk : Int32 → ab_S → Prop) (x3 : Int32) (σ : ab_S) : Prop := ∀ v1 : Int32, v1 = (x3 + 1) → Bk v1 σ
def wX3_addLevels_l23_b (a0 : Nat) (a1 : Int32) (Q : ab_S → Prop) (E : String → ab_S → Prop) (K91 : Int32 → ab_S → Prop) (Bk : Int32 → Int32 → Int32 → ab_S → Prop) (x3 : Int32) (x4 : Int32) (x5 : Int32) (σ : ab_S) : Prop := vp_in x4 12 ∧ ((((σ.2.1 (a0 + 2) x4.toNatClampNeg) ≤ x5) → K91 x3 σ) ∧ (¬ ((σ.2.1 (a0 + 2) x4.toNatClampNeg) ≤ x5) → vp_in ((x4 * (8 : Int32)) + x5) 96 ∧ (wX3_atLevel a0 x4 ((σ.2.1 (a0 + 16) ((x4 * (8 : Int32)) + x5).toNatClampNeg) + (1 : Int32)) (fun u3 σ2 => vp_in (((a1 * (32 : Int32)) + (x3 * (8 : Int32))) + x5) 960 ∧ (vp_in (((a1 * (32 : Int32)) + (x3 * (8 : Int32))) + x5) 960 ∧ (∀ σ4 : ab_S, σ4 = ab_I σ2 10 (((a1 * (32 : Int32)) + (x3 * (8 : Int32))) + x5).toNatClampNeg ((σ2.2.1 10 (((a1 * (32 : Int32)) + (x3 * (8 : Int32))) + x5).toNatClampNeg) ||| (u3 <<< ((x3 * (8 : Int32)) &&& 31))) → ∀ v5 : Int32, v5 = (x5 + 1) → Bk x3 x4 v5 σ4))) E σ)))
def wX3_addLevels_l23 (a0 : Nat) (a1 : Int32) (Q : ab_S → Prop) (E : String → ab_S → Prop) (K91 : Int32 → ab_S → Prop) : Nat → Int32 → Int32 → Int32 → ab_S → Prop
  | 0, _, _, _, _ => False
  | n + 1, x3, x4, x5, σ => wX3_addLevels_l23_b a0 a1 Q E K91 (wX3_addLevels_l23 a0 a1 Q E K91 n) x3 x4 x5 σ
def wX3_addLevels_l2_b (a0 : Nat) (a1 : Int32) (Q : ab_S → Prop) (E : String → ab_S → Prop) (Bk : Int32 → ab_S → Prop) (x3 : Int32) (σ : ab_S) : Prop := vp_in a1 30 ∧ ((((σ.2.1 (a0 + 6) a1.toNatClampNeg) < x3) → Q σ) ∧ (¬ ((σ.2.1 (a0 + 6) a1.toNatClampNeg) < x3) → wX0_symbolAt a0 a1 x3 (fun u7 σ6 => ∃ n, wX3_addLevels_l23 a0 a1 Q E (wX3_addLevels_j91 a0 a1 Q E Bk) n x3 u7 (0 : Int32) σ6) E σ))
def wX3_addLevels_l2 (a0 : Nat) (a1 : Int32) (Q : ab_S → Prop) (E : String → ab_S → Prop) : Nat → Int32 → ab_S → Prop
  | 0, _, _ => False
  | n + 1, x3, σ => wX3_addLevels_l2_b a0 a1 Q E (wX3_addLevels_l2 a0 a1 Q E n) x3 σ
def wX3_addLevels (a0 : Nat) (a1 : Int32) (Q : ab_S → Prop) (E : String → ab_S → Prop) (σ : ab_S) : Prop := ∃ n, wX3_addLevels_l2 a0 a1 Q E n (0 : Int32) σ
set_option maxHeartbeats 4000000 in
set_option maxRecDepth 100000 in
theorem ceX3_addLevels {l : Launch} (hl : l.stackTraces = false) (B : Nat) {a0 : Nat} {a1 : Int32} (ha0 : isG a0) {Q : ab_S → Prop} {E : String → ab_S → Prop} {σ : ab_S} (hW : Wire σ) (h : wX3_addLevels a0 a1 Q E σ) : ab_Mt l yX3_addLevels mdX3_addLevels B 1 24 0 0 [.ref 9, .ref a0, .int a1] σ (fun v σ' => Wire σ' ∧ v = none ∧ Q σ') (fun X σ' => Wire σ' ∧ E X σ') := by
  refine V_met hl ⟨rfl, rfl, by decide⟩ rfl dkX3_addLevels (Nat.le_of_ble_eq_true rfl) ?_
  show V l mdX3_addLevels B 1 24 0 0 (ab_End _ _) 0 [(0, .ref 9), (1, .ref a0), (2, .int a1)] [] σ
  revert h hW
  revert σ
  have k_l2 : ∀ (n : Nat) (x3 : Int32)  (σ : ab_S), Wire σ → wX3_addLevels_l2 a0 a1 Q E n x3 σ → V l mdX3_addLevels B 1 24 0 0 (ab_End (fun v σ' => Wire σ' ∧ v = none ∧ Q σ') (fun X σ' => Wire σ' ∧ E X σ')) 2 [(0, .ref 9), (1, .ref a0), (2, .int a1), (3, .int x3)] [] σ := by
    have step : ∀ (Bk : Int32 → ab_S → Prop) (k_Bk : ∀ (x3 : Int32)  (σ : ab_S), Wire σ → Bk x3 σ → V l mdX3_addLevels B 1 24 0 0 (ab_End (fun v σ' => Wire σ' ∧ v = none ∧ Q σ') (fun X σ' => Wire σ' ∧ E X σ')) 2 [(0, .ref 9), (1, .ref a0), (2, .int a1), (3, .int x3)] [] σ), ∀ (x3 : Int32)  (σ : ab_S), Wire σ → wX3_addLevels_l2_b a0 a1 Q E Bk x3 σ → V l mdX3_addLevels B 1 24 0 0 (ab_End (fun v σ' => Wire σ' ∧ v = none ∧ Q σ') (fun X σ' => Wire σ' ∧ E X σ')) 2 [(0, .ref 9), (1, .ref a0), (2, .int a1), (3, .int x3)] [] σ := by
      intro Bk k_Bk
      have k_j91 : ∀ (x3 : Int32)  (σ : ab_S), Wire σ → wX3_addLevels_j91 a0 a1 Q E Bk x3 σ → V l mdX3_addLevels B 1 24 0 0 (ab_End (fun v σ' => Wire σ' ∧ v = none ∧ Q σ') (fun X σ' => Wire σ' ∧ E X σ')) 91 [(0, .ref 9), (1, .ref a0), (2, .int a1), (3, .int x3)] [] σ := by
        intro x3  σ hW h
        obtain ⟨v1, ev1⟩ : ∃ z : Int32, z = (x3 + 1) := ⟨_, rfl⟩
        replace h := h v1 ev1
        refine V_iinc 57 3 (v := v1) (lv' := [(3, .int v1), (0, .ref 9), (1, .ref a0), (2, .int a1)]) rfl rfl ((in_1 _).trans ev1.symm) (by decide) rfl ?_
        refine V_goto 58 (tgt := 2) rfl (by decide) ?_
        refine V_sub [1, 2, 3, 0] (lv' := [(0, .ref 9), (1, .ref a0), (2, .int a1), (3, .int v1)]) rfl ?_
        exact k_Bk v1  σ hW h
      have k_l23 : ∀ (n : Nat) (x3 : Int32) (x4 : Int32) (x5 : Int32)  (σ : ab_S), Wire σ → wX3_addLevels_l23 a0 a1 Q E (wX3_addLevels_j91 a0 a1 Q E Bk) n x3 x4 x5 σ → V l mdX3_addLevels B 1 24 0 0 (ab_End (fun v σ' => Wire σ' ∧ v = none ∧ Q σ') (fun X σ' => Wire σ' ∧ E X σ')) 23 [(0, .ref 9), (1, .ref a0), (2, .int a1), (3, .int x3), (4, .int x4), (5, .int x5)] [] σ := by
        have step : ∀ (K91 : Int32 → ab_S → Prop) (k_K91 : ∀ (x3 : Int32)  (σ : ab_S), Wire σ → K91 x3 σ → V l mdX3_addLevels B 1 24 0 0 (ab_End (fun v σ' => Wire σ' ∧ v = none ∧ Q σ') (fun X σ' => Wire σ' ∧ E X σ')) 91 [(0, .ref 9), (1, .ref a0), (2, .int a1), (3, .int x3)] [] σ), ∀ (Bk : Int32 → Int32 → Int32 → ab_S → Prop) (k_Bk : ∀ (x3 : Int32) (x4 : Int32) (x5 : Int32)  (σ : ab_S), Wire σ → Bk x3 x4 x5 σ → V l mdX3_addLevels B 1 24 0 0 (ab_End (fun v σ' => Wire σ' ∧ v = none ∧ Q σ') (fun X σ' => Wire σ' ∧ E X σ')) 23 [(0, .ref 9), (1, .ref a0), (2, .int a1), (3, .int x3), (4, .int x4), (5, .int x5)] [] σ), ∀ (x3 : Int32) (x4 : Int32) (x5 : Int32)  (σ : ab_S), Wire σ → wX3_addLevels_l23_b a0 a1 Q E K91 Bk x3 x4 x5 σ → V l mdX3_addLevels B 1 24 0 0 (ab_End (fun v σ' => Wire σ' ∧ v = none ∧ Q σ') (fun X σ' => Wire σ' ∧ E X σ')) 23 [(0, .ref 9), (1, .ref a0), (2, .int a1), (3, .int x3), (4, .int x4), (5, .int x5)] [] σ := by
          intro K91 k_K91 Bk k_Bk
          intro x3 x4 x5  σ hW h
          refine V_iload 15 5 rfl rfl ?_
          refine V_aload_n 16 1 rfl rfl rfl ?_
          refine V_getR 17 2 rfl clX0 flX3_71 (by decide) (wG hW ha0) (fun _ => rfl) (wG_f2 hW ha0) ?_
          refine V_iload 18 4 rfl rfl ?_
          obtain ⟨hin, h⟩ := h
          refine V_iald 19 rfl (wG_a2 hW ha0) hin ?_
          refine V_icmp_ge 20 (tgt := 91) rfl (by decide) (fun hc => ?_) (fun hc => ?_)
          · replace h := h.1 hc
            refine V_sub [0, 1, 2, 3] (lv' := [(0, .ref 9), (1, .ref a0), (2, .int a1), (3, .int x3)]) rfl ?_
            exact k_K91 x3  σ hW h
          · replace h := h.2 hc
            refine V_pc 35 rfl ?_
            refine V_aload_n 21 1 rfl rfl rfl ?_
            refine V_iload 22 4 rfl rfl ?_
            refine V_aload_n 23 1 rfl rfl rfl ?_
            refine V_getR 24 18 rfl clX0 flX3_74 (by decide) (wG hW ha0) (fun _ => rfl) (wG_f18 hW ha0) ?_
            refine V_iload 25 4 rfl rfl ?_
            refine V_bipush 26 (v := (8 : Int32)) rfl (by decide) ?_
            refine V_pc 46 rfl ?_
            refine V_imul 27 rfl ?_
            refine V_iload 28 5 rfl rfl ?_
            refine V_iadd 29 rfl ?_
            obtain ⟨hin, h⟩ := h
            refine V_iald 30 rfl (wG_a16 hW ha0) hin ?_
            refine V_iconst 31 (v := (1 : Int32)) rfl (by decide) ?_
            refine V_iadd 32 rfl ?_
            refine V_pc 53 rfl ?_
            refine V_callS 33 3 (as := [.ref a0, .int x4, .int ((σ.2.1 (a0 + 16) ((x4 * (8 : Int32)) + x5).toNatClampNeg) + (1 : Int32))]) (rest := []) rfl mlX3_87 yvX3_atLevel rfl rfl (by decide) (by decide) (Nat.le_of_ble_eq_true rfl) (by decide) (by decide) (fun B9 => ceX3_atLevel hl B9 ha0 hW h) (fun X9 τ9 h9 => VX_out rfl h9) ?_
            rintro v9 σ2 ⟨hW, u3, rfl, h⟩
            refine V_istore 34 (lv' := [(6, .int u3), (0, .ref 9), (1, .ref a0), (2, .int a1), (3, .int x3), (4, .int x4), (5, .int x5)]) rfl (by decide) rfl ?_
            refine V_aload_n 35 1 rfl rfl rfl ?_
            refine V_getR 36 0 rfl clX3 flX3_9 (by decide) (wsh hW rfl) (fun _ => rfl) (wrf hW 18 rfl) ?_
            refine V_iload_n 37 3 rfl rfl rfl ?_
            refine V_bipush 38 (v := (32 : Int32)) rfl (by decide) ?_
            refine V_pc 65 rfl ?_
            refine V_imul 39 rfl ?_
            refine V_iload_n 40 4 rfl rfl rfl ?_
            refine V_bipush 41 (v := (8 : Int32)) rfl (by decide) ?_
            refine V_imul 42 rfl ?_
            refine V_iadd 43 rfl ?_
            refine V_iload 44 6 rfl rfl ?_
            refine V_pc 73 rfl ?_
            refine V_iadd 45 rfl ?_
            refine V_dup2 46 rfl rfl rfl ?_
            obtain ⟨hin, h⟩ := h
            refine V_iald 47 rfl (wsh hW rfl) hin ?_
            refine V_iload 48 0 rfl rfl ?_
            refine V_iload_n 49 4 rfl rfl rfl ?_
            refine V_bipush 50 (v := (8 : Int32)) rfl (by decide) ?_
            refine V_pc 81 rfl ?_
            refine V_imul 51 rfl ?_
            refine V_ishl 52 rfl ?_
            refine V_ior 53 rfl ?_
            obtain ⟨hin, h⟩ := h
            refine V_iast 54 rfl (wsh hW rfl) hin ?_
            refine V_nm (fun σ4 eσ4 => ?_)
            replace h := h σ4 eσ4
            have hW := wire_I eσ4 hW
            obtain ⟨v5, ev5⟩ : ∃ z : Int32, z = (x5 + 1) := ⟨_, rfl⟩
            replace h := h v5 ev5
            refine V_iinc 55 6 (v := v5) (lv' := [(5, .int v5), (6, .int u3), (0, .ref 9), (1, .ref a0), (2, .int a1), (3, .int x3), (4, .int x4)]) rfl rfl ((in_1 _).trans ev5.symm) (by decide) rfl ?_
            refine V_goto 56 (tgt := 23) rfl (by decide) ?_
            refine V_sub [2, 3, 4, 5, 6, 0] (lv' := [(0, .ref 9), (1, .ref a0), (2, .int a1), (3, .int x3), (4, .int x4), (5, .int v5)]) rfl ?_
            exact k_Bk x3 x4 v5  σ4 hW h
        intro n
        induction n with
        | zero => intro x3 x4 x5  σ hW h; exact absurd h id
        | succ n ih => exact step _ k_j91 _ ih
      intro x3  σ hW h
      refine V_iload_n 2 3 rfl rfl rfl ?_
      refine V_aload_n 3 1 rfl rfl rfl ?_
      refine V_getR 4 7 rfl clX0 flX3_80 (by decide) (wG hW ha0) (fun _ => rfl) (wG_f7 hW ha0) ?_
      refine V_iload_n 5 2 rfl rfl rfl ?_
      obtain ⟨hin, h⟩ := h
      refine V_iald 6 rfl (wG_a6 hW ha0) hin ?_
      refine V_icmp_gt 7 (tgt := 97) rfl (by decide) (fun hc => ?_) (fun hc => ?_)
      · replace h := h.1 hc
        exact V_vret 59 rfl rfl ⟨hW, rfl, h⟩
      · replace h := h.2 hc
        refine V_pc 12 rfl ?_
        refine V_aload_n 8 1 rfl rfl rfl ?_
        refine V_iload_n 9 2 rfl rfl rfl ?_
        refine V_iload_n 10 3 rfl rfl rfl ?_
        refine V_callV 11 2 (as := [.int a1, .int x3]) (rest := []) rfl mlX3_83 yvX0_symbolAt rfl rfl clX0 (wG hW ha0) (by decide) (by decide) (Nat.le_of_ble_eq_true rfl) (by decide) (by decide) (fun B9 => ceX0_symbolAt hl B9 ha0 hW h) (fun X9 τ9 h9 => VX_out rfl h9) ?_
        rintro v9 σ6 ⟨hW, u7, rfl, h⟩
        refine V_istore 12 (lv' := [(4, .int u7), (0, .ref 9), (1, .ref a0), (2, .int a1), (3, .int x3)]) rfl (by decide) rfl ?_
        refine V_iconst 13 (v := (0 : Int32)) rfl (by decide) ?_
        refine V_istore 14 (lv' := [(5, .int (0 : Int32)), (4, .int u7), (0, .ref 9), (1, .ref a0), (2, .int a1), (3, .int x3)]) rfl (by decide) rfl ?_
        refine V_sub [2, 3, 4, 5, 1, 0] (lv' := [(0, .ref 9), (1, .ref a0), (2, .int a1), (3, .int x3), (4, .int u7), (5, .int (0 : Int32))]) rfl ?_
        obtain ⟨n, h⟩ := h
        exact k_l23 n x3 u7 (0 : Int32) σ6 hW h
    intro n
    induction n with
    | zero => intro x3  σ hW h; exact absurd h id
    | succ n ih => exact step  _ ih
  intro σ hW h
  refine V_iconst 0 (v := (0 : Int32)) rfl (by decide) ?_
  refine V_istore_n 1 (lv' := [(3, .int (0 : Int32)), (0, .ref 9), (1, .ref a0), (2, .int a1)]) rfl rfl (by decide) rfl ?_
  refine V_sub [1, 2, 3, 0] (lv' := [(0, .ref 9), (1, .ref a0), (2, .int a1), (3, .int (0 : Int32))]) rfl ?_
  obtain ⟨n, h⟩ := h
  exact k_l2 n (0 : Int32) σ hW h

def wX3_firstCrossed_l22_b (a0 : Nat) (Q : Int32 → ab_S → Prop) (E : String → ab_S → Prop) (Bk : Int32 → ab_S → Prop) (x2 : Int32) (σ : ab_S) : Prop := (((σ.2.1 a0 5) ≤ x2) → Q (-1 : Int32) σ) ∧ (¬ ((σ.2.1 a0 5) ≤ x2) → wX3_addLevels a0 x2 (fun σ1 => wX3_close a0 x2 (fun σ2 => wX3_hasCircle x2 (fun u4 σ3 => ((u4 = 0) → ∀ v5 : Int32, v5 = (x2 + 1) → Bk v5 σ3) ∧ (¬ (u4 = 0) → Q x2 σ3)) E σ2) E σ1) E σ)
def wX3_firstCrossed_l22 (a0 : Nat) (Q : Int32 → ab_S → Prop) (E : String → ab_S → Prop) : Nat → Int32 → ab_S → Prop
  | 0, _, _ => False
  | n + 1, x2, σ => wX3_firstCrossed_l22_b a0 Q E (wX3_firstCrossed_l22 a0 Q E n) x2 σ
def wX3_firstCrossed (a0 : Nat) (Q : Int32 → ab_S → Prop) (E : String → ab_S → Prop) (σ : ab_S) : Prop := ab_cpy (0 : Int32) (0 : Int32) ((σ.2.1 a0 5) * (32 : Int32)) 960 960 ∧ (∀ σ6 : ab_S, σ6 = ab_cpI σ (a0 + 10) 10 (0 : Int32).toNatClampNeg (0 : Int32).toNatClampNeg ((σ.2.1 a0 5) * (32 : Int32)).toNatClampNeg → ∃ n, wX3_firstCrossed_l22 a0 Q E n (0 : Int32) σ6)
set_option maxHeartbeats 4000000 in
set_option maxRecDepth 100000 in
theorem ceX3_firstCrossed {l : Launch} (hl : l.stackTraces = false) (B : Nat) {a0 : Nat} (ha0 : isG a0) {Q : Int32 → ab_S → Prop} {E : String → ab_S → Prop} {σ : ab_S} (hW : Wire σ) (h : wX3_firstCrossed a0 Q E σ) : ab_Mt l yX3_firstCrossed mdX3_firstCrossed B 2 60 0 0 [.ref 9, .ref a0] σ (fun v σ' => Wire σ' ∧ ∃ r : Int32, v = some (.int r) ∧ Q r σ') (fun X σ' => Wire σ' ∧ E X σ') := by
  refine V_met hl ⟨rfl, rfl, by decide⟩ rfl dkX3_firstCrossed (Nat.le_of_ble_eq_true rfl) ?_
  show V l mdX3_firstCrossed B 2 60 0 0 (ab_End _ _) 0 [(0, .ref 9), (1, .ref a0)] [] σ
  revert h hW
  revert σ
  have k_l22 : ∀ (n : Nat) (x2 : Int32)  (σ : ab_S), Wire σ → wX3_firstCrossed_l22 a0 Q E n x2 σ → V l mdX3_firstCrossed B 2 60 0 0 (ab_End (fun v σ' => Wire σ' ∧ ∃ r : Int32, v = some (.int r) ∧ Q r σ') (fun X σ' => Wire σ' ∧ E X σ')) 22 [(0, .ref 9), (1, .ref a0), (2, .int x2)] [] σ := by
    have step : ∀ (Bk : Int32 → ab_S → Prop) (k_Bk : ∀ (x2 : Int32)  (σ : ab_S), Wire σ → Bk x2 σ → V l mdX3_firstCrossed B 2 60 0 0 (ab_End (fun v σ' => Wire σ' ∧ ∃ r : Int32, v = some (.int r) ∧ Q r σ') (fun X σ' => Wire σ' ∧ E X σ')) 22 [(0, .ref 9), (1, .ref a0), (2, .int x2)] [] σ), ∀ (x2 : Int32)  (σ : ab_S), Wire σ → wX3_firstCrossed_l22_b a0 Q E Bk x2 σ → V l mdX3_firstCrossed B 2 60 0 0 (ab_End (fun v σ' => Wire σ' ∧ ∃ r : Int32, v = some (.int r) ∧ Q r σ') (fun X σ' => Wire σ' ∧ E X σ')) 22 [(0, .ref 9), (1, .ref a0), (2, .int x2)] [] σ := by
      intro Bk k_Bk
      intro x2  σ hW h
      refine V_iload_n 13 2 rfl rfl rfl ?_
      refine V_aload_n 14 1 rfl rfl rfl ?_
      refine V_get (v := .int (σ.2.1 a0 5)) 15 5 rfl clX0 flX3_20 (by decide) (wG hW ha0) (fun _ => rfl) ?_
      refine V_icmp_ge 16 (tgt := 58) rfl (by decide) (fun hc => ?_) (fun hc => ?_)
      · replace h := h.1 hc
        refine V_iconst 33 (v := (-1 : Int32)) rfl (by decide) ?_
        exact V_iret 34 rfl rfl ⟨hW, _, rfl, h⟩
      · replace h := h.2 hc
        refine V_pc 30 rfl ?_
        refine V_aload_n 17 0 rfl rfl rfl ?_
        refine V_aload_n 18 1 rfl rfl rfl ?_
        refine V_iload_n 19 2 rfl rfl rfl ?_
        refine V_callV 20 2 (as := [.ref a0, .int x2]) (rest := []) rfl mlX3_54 yvX3_addLevels rfl rfl clX3 (wsh hW rfl) (by decide) (by decide) (Nat.le_of_ble_eq_true rfl) (by decide) (by decide) (fun B9 => ceX3_addLevels hl B9 ha0 hW h) (fun X9 τ9 h9 => VX_out rfl h9) ?_
        rintro v9 σ1 ⟨hW, rfl, h⟩
        refine V_aload_n 21 0 rfl rfl rfl ?_
        refine V_aload_n 22 1 rfl rfl rfl ?_
        refine V_iload_n 23 2 rfl rfl rfl ?_
        refine V_callV 24 2 (as := [.ref a0, .int x2]) (rest := []) rfl mlX3_43 yvX3_close rfl rfl clX3 (wsh hW rfl) (by decide) (by decide) (Nat.le_of_ble_eq_true rfl) (by decide) (by decide) (fun B9 => ceX3_close hl B9 ha0 hW h) (fun X9 τ9 h9 => VX_out rfl h9) ?_
        rintro v9 σ2 ⟨hW, rfl, h⟩
        refine V_aload_n 25 0 rfl rfl rfl ?_
        refine V_iload_n 26 2 rfl rfl rfl ?_
        refine V_callV 27 1 (as := [.int x2]) (rest := []) rfl mlX3_50 yvX3_hasCircle rfl rfl clX3 (wsh hW rfl) (by decide) (by decide) (Nat.le_of_ble_eq_true rfl) (by decide) (by decide) (fun B9 => ceX3_hasCircle hl B9 hW h) (fun X9 τ9 h9 => VX_out rfl h9) ?_
        rintro v9 σ3 ⟨hW, u4, rfl, h⟩
        refine V_if_eq 28 (tgt := 52) rfl (by decide) (fun hc => ?_) (fun hc => ?_)
        · replace h := h.1 hc
          obtain ⟨v5, ev5⟩ : ∃ z : Int32, z = (x2 + 1) := ⟨_, rfl⟩
          replace h := h v5 ev5
          refine V_iinc 31 2 (v := v5) (lv' := [(2, .int v5), (0, .ref 9), (1, .ref a0)]) rfl rfl ((in_1 _).trans ev5.symm) (by decide) rfl ?_
          refine V_goto 32 (tgt := 22) rfl (by decide) ?_
          refine V_sub [1, 2, 0] (lv' := [(0, .ref 9), (1, .ref a0), (2, .int v5)]) rfl ?_
          exact k_Bk v5  σ3 hW h
        · replace h := h.2 hc
          refine V_pc 50 rfl ?_
          refine V_iload_n 29 2 rfl rfl rfl ?_
          exact V_iret 30 rfl rfl ⟨hW, _, rfl, h⟩
    intro n
    induction n with
    | zero => intro x2  σ hW h; exact absurd h id
    | succ n ih => exact step  _ ih
  intro σ hW h
  refine V_aload_n 0 1 rfl rfl rfl ?_
  refine V_getR 1 11 rfl clX0 flX3_15 (by decide) (wG hW ha0) (fun _ => rfl) (wG_f11 hW ha0) ?_
  refine V_iconst 2 (v := (0 : Int32)) rfl (by decide) ?_
  refine V_aload_n 3 0 rfl rfl rfl ?_
  refine V_getR 4 0 rfl clX3 flX3_9 (by decide) (wsh hW rfl) (fun _ => rfl) (wrf hW 18 rfl) ?_
  refine V_iconst 5 (v := (0 : Int32)) rfl (by decide) ?_
  refine V_pc 10 rfl ?_
  refine V_aload_n 6 1 rfl rfl rfl ?_
  refine V_get (v := .int (σ.2.1 a0 5)) 7 5 rfl clX0 flX3_20 (by decide) (wG hW ha0) (fun _ => rfl) ?_
  refine V_bipush 8 (v := (32 : Int32)) rfl (by decide) ?_
  refine V_imul 9 rfl ?_
  obtain ⟨hcp, h⟩ := h
  refine V_copyI 10 rfl mlX3_24 ac_n ac_s ac_i (wG_a10 hW ha0) (wsh hW rfl) hcp (by decide) (Nat.le_of_ble_eq_true rfl) ?_
  refine V_nm (fun σ6 eσ6 => ?_)
  replace h := h σ6 eσ6
  have hW := wire_cI eσ6 hW
  refine V_iconst 11 (v := (0 : Int32)) rfl (by decide) ?_
  refine V_istore_n 12 (lv' := [(2, .int (0 : Int32)), (0, .ref 9), (1, .ref a0)]) rfl rfl (by decide) rfl ?_
  refine V_sub [1, 2, 0] (lv' := [(0, .ref 9), (1, .ref a0), (2, .int (0 : Int32))]) rfl ?_
  obtain ⟨n, h⟩ := h
  exact k_l22 n (0 : Int32) σ6 hW h

def wX3_choose_j64 (a0 : Nat) (a1 : Int32) (a2 : Int32) (a3 : Int32) (Q : Int32 → ab_S → Prop) (E : String → ab_S → Prop) (Bk : Int32 → Int32 → ab_S → Prop) (x4 : Int32) (x5 : Int32) (σ : ab_S) : Prop := ∀ v1 : Int32, v1 = (x5 + 1) → Bk x4 v1 σ
def wX3_choose_j58 (a0 : Nat) (a1 : Int32) (a2 : Int32) (a3 : Int32) (Q : Int32 → ab_S → Prop) (E : String → ab_S → Prop) (K64 : Int32 → Int32 → ab_S → Prop) (Bk : Int32 → Int32 → Int32 → ab_S → Prop) (x4 : Int32) (x5 : Int32) (x6 : Int32) (σ : ab_S) : Prop := ∀ v2 : Int32, v2 = (x6 + 1) → Bk x4 x5 v2 σ
def wX3_choose_l16_b (a0 : Nat) (a1 : Int32) (a2 : Int32) (a3 : Int32) (Q : Int32 → ab_S → Prop) (E : String → ab_S → Prop) (K64 : Int32 → Int32 → ab_S → Prop) (Bk : Int32 → Int32 → Int32 → ab_S → Prop) (x4 : Int32) (x5 : Int32) (x6 : Int32) (σ : ab_S) : Prop := vp_in a1 12 ∧ ((((σ.2.1 (a0 + 2) a1.toNatClampNeg) ≤ x6) → K64 x4 x5 σ) ∧ (¬ ((σ.2.1 (a0 + 2) a1.toNatClampNeg) ≤ x6) → ((¬ ((((a2 ||| x4).toUInt32 >>> (x6.toUInt32 &&& Int32.toUInt32 31)).toInt32) &&& (1 : Int32)) = 0) → wX3_choose_j58 a0 a1 a2 a3 Q E K64 Bk x4 x5 x6 σ) ∧ (¬ (¬ ((((a2 ||| x4).toUInt32 >>> (x6.toUInt32 &&& Int32.toUInt32 31)).toInt32) &&& (1 : Int32)) = 0) → vp_in ((a1 * (8 : Int32)) + x6) 96 ∧ (∀ v3 : Int32, v3 = (x4 &&& ((σ.2.1 (a0 + 15) ((a1 * (8 : Int32)) + x6).toNatClampNeg) ^^^ (-1 : Int32))) → wX3_choose_j58 a0 a1 a2 a3 Q E K64 Bk v3 x5 x6 σ))))
def wX3_choose_l16 (a0 : Nat) (a1 : Int32) (a2 : Int32) (a3 : Int32) (Q : Int32 → ab_S → Prop) (E : String → ab_S → Prop) (K64 : Int32 → Int32 → ab_S → Prop) : Nat → Int32 → Int32 → Int32 → ab_S → Prop
  | 0, _, _, _, _ => False
  | n + 1, x4, x5, x6, σ => wX3_choose_l16_b a0 a1 a2 a3 Q E K64 (wX3_choose_l16 a0 a1 a2 a3 Q E K64 n) x4 x5 x6 σ
def wX3_choose_l6_b (a0 : Nat) (a1 : Int32) (a2 : Int32) (a3 : Int32) (Q : Int32 → ab_S → Prop) (E : String → ab_S → Prop) (Bk : Int32 → Int32 → ab_S → Prop) (x4 : Int32) (x5 : Int32) (σ : ab_S) : Prop := (((8 : Int32) ≤ x5) → Q x4 σ) ∧ (¬ ((8 : Int32) ≤ x5) → ∃ n, wX3_choose_l16 a0 a1 a2 a3 Q E (wX3_choose_j64 a0 a1 a2 a3 Q E Bk) n x4 x5 (0 : Int32) σ)
def wX3_choose_l6 (a0 : Nat) (a1 : Int32) (a2 : Int32) (a3 : Int32) (Q : Int32 → ab_S → Prop) (E : String → ab_S → Prop) : Nat → Int32 → Int32 → ab_S → Prop
  | 0, _, _, _ => False
  | n + 1, x4, x5, σ => wX3_choose_l6_b a0 a1 a2 a3 Q E (wX3_choose_l6 a0 a1 a2 a3 Q E n) x4 x5 σ
def wX3_choose (a0 : Nat) (a1 : Int32) (a2 : Int32) (a3 : Int32) (Q : Int32 → ab_S → Prop) (E : String → ab_S → Prop) (σ : ab_S) : Prop := ∃ n, wX3_choose_l6 a0 a1 a2 a3 Q E n a3 (0 : Int32) σ
set_option maxHeartbeats 4000000 in
set_option maxRecDepth 100000 in
theorem ceX3_choose {l : Launch} (hl : l.stackTraces = false) (B : Nat) {a0 : Nat} {a1 : Int32} {a2 : Int32} {a3 : Int32} (ha0 : isG a0) {Q : Int32 → ab_S → Prop} {E : String → ab_S → Prop} {σ : ab_S} (hW : Wire σ) (h : wX3_choose a0 a1 a2 a3 Q E σ) : ab_Mt l yX3_choose mdX3_choose B 0 0 0 0 [.ref a0, .int a1, .int a2, .int a3] σ (fun v σ' => Wire σ' ∧ ∃ r : Int32, v = some (.int r) ∧ Q r σ') (fun X σ' => Wire σ' ∧ E X σ') := by
  refine V_met hl ⟨rfl, rfl, by decide⟩ rfl dkX3_choose (Nat.le_of_ble_eq_true rfl) ?_
  show V l mdX3_choose B 0 0 0 0 (ab_End _ _) 0 [(0, .ref a0), (1, .int a1), (2, .int a2), (3, .int a3)] [] σ
  revert h hW
  revert σ
  have k_l6 : ∀ (n : Nat) (x4 : Int32) (x5 : Int32)  (σ : ab_S), Wire σ → wX3_choose_l6 a0 a1 a2 a3 Q E n x4 x5 σ → V l mdX3_choose B 0 0 0 0 (ab_End (fun v σ' => Wire σ' ∧ ∃ r : Int32, v = some (.int r) ∧ Q r σ') (fun X σ' => Wire σ' ∧ E X σ')) 6 [(0, .ref a0), (1, .int a1), (2, .int a2), (4, .int x4), (5, .int x5)] [] σ := by
    have step : ∀ (Bk : Int32 → Int32 → ab_S → Prop) (k_Bk : ∀ (x4 : Int32) (x5 : Int32)  (σ : ab_S), Wire σ → Bk x4 x5 σ → V l mdX3_choose B 0 0 0 0 (ab_End (fun v σ' => Wire σ' ∧ ∃ r : Int32, v = some (.int r) ∧ Q r σ') (fun X σ' => Wire σ' ∧ E X σ')) 6 [(0, .ref a0), (1, .int a1), (2, .int a2), (4, .int x4), (5, .int x5)] [] σ), ∀ (x4 : Int32) (x5 : Int32)  (σ : ab_S), Wire σ → wX3_choose_l6_b a0 a1 a2 a3 Q E Bk x4 x5 σ → V l mdX3_choose B 0 0 0 0 (ab_End (fun v σ' => Wire σ' ∧ ∃ r : Int32, v = some (.int r) ∧ Q r σ') (fun X σ' => Wire σ' ∧ E X σ')) 6 [(0, .ref a0), (1, .int a1), (2, .int a2), (4, .int x4), (5, .int x5)] [] σ := by
      intro Bk k_Bk
      have k_j64 : ∀ (x4 : Int32) (x5 : Int32)  (σ : ab_S), Wire σ → wX3_choose_j64 a0 a1 a2 a3 Q E Bk x4 x5 σ → V l mdX3_choose B 0 0 0 0 (ab_End (fun v σ' => Wire σ' ∧ ∃ r : Int32, v = some (.int r) ∧ Q r σ') (fun X σ' => Wire σ' ∧ E X σ')) 64 [(0, .ref a0), (1, .int a1), (2, .int a2), (4, .int x4), (5, .int x5)] [] σ := by
        intro x4 x5  σ hW h
        obtain ⟨v1, ev1⟩ : ∃ z : Int32, z = (x5 + 1) := ⟨_, rfl⟩
        replace h := h v1 ev1
        refine V_iinc 38 4 (v := v1) (lv' := [(5, .int v1), (0, .ref a0), (1, .int a1), (2, .int a2), (4, .int x4)]) rfl rfl ((in_1 _).trans ev1.symm) (by decide) rfl ?_
        refine V_goto 39 (tgt := 6) rfl (by decide) ?_
        refine V_sub [1, 2, 3, 4, 0] (lv' := [(0, .ref a0), (1, .int a1), (2, .int a2), (4, .int x4), (5, .int v1)]) rfl ?_
        exact k_Bk x4 v1  σ hW h
      have k_l16 : ∀ (n : Nat) (x4 : Int32) (x5 : Int32) (x6 : Int32)  (σ : ab_S), Wire σ → wX3_choose_l16 a0 a1 a2 a3 Q E (wX3_choose_j64 a0 a1 a2 a3 Q E Bk) n x4 x5 x6 σ → V l mdX3_choose B 0 0 0 0 (ab_End (fun v σ' => Wire σ' ∧ ∃ r : Int32, v = some (.int r) ∧ Q r σ') (fun X σ' => Wire σ' ∧ E X σ')) 16 [(0, .ref a0), (1, .int a1), (2, .int a2), (4, .int x4), (5, .int x5), (6, .int x6)] [] σ := by
        have step : ∀ (K64 : Int32 → Int32 → ab_S → Prop) (k_K64 : ∀ (x4 : Int32) (x5 : Int32)  (σ : ab_S), Wire σ → K64 x4 x5 σ → V l mdX3_choose B 0 0 0 0 (ab_End (fun v σ' => Wire σ' ∧ ∃ r : Int32, v = some (.int r) ∧ Q r σ') (fun X σ' => Wire σ' ∧ E X σ')) 64 [(0, .ref a0), (1, .int a1), (2, .int a2), (4, .int x4), (5, .int x5)] [] σ), ∀ (Bk : Int32 → Int32 → Int32 → ab_S → Prop) (k_Bk : ∀ (x4 : Int32) (x5 : Int32) (x6 : Int32)  (σ : ab_S), Wire σ → Bk x4 x5 x6 σ → V l mdX3_choose B 0 0 0 0 (ab_End (fun v σ' => Wire σ' ∧ ∃ r : Int32, v = some (.int r) ∧ Q r σ') (fun X σ' => Wire σ' ∧ E X σ')) 16 [(0, .ref a0), (1, .int a1), (2, .int a2), (4, .int x4), (5, .int x5), (6, .int x6)] [] σ), ∀ (x4 : Int32) (x5 : Int32) (x6 : Int32)  (σ : ab_S), Wire σ → wX3_choose_l16_b a0 a1 a2 a3 Q E K64 Bk x4 x5 x6 σ → V l mdX3_choose B 0 0 0 0 (ab_End (fun v σ' => Wire σ' ∧ ∃ r : Int32, v = some (.int r) ∧ Q r σ') (fun X σ' => Wire σ' ∧ E X σ')) 16 [(0, .ref a0), (1, .int a1), (2, .int a2), (4, .int x4), (5, .int x5), (6, .int x6)] [] σ := by
          intro K64 k_K64 Bk k_Bk
          have k_j58 : ∀ (x4 : Int32) (x5 : Int32) (x6 : Int32)  (σ : ab_S), Wire σ → wX3_choose_j58 a0 a1 a2 a3 Q E K64 Bk x4 x5 x6 σ → V l mdX3_choose B 0 0 0 0 (ab_End (fun v σ' => Wire σ' ∧ ∃ r : Int32, v = some (.int r) ∧ Q r σ') (fun X σ' => Wire σ' ∧ E X σ')) 58 [(0, .ref a0), (1, .int a1), (2, .int a2), (4, .int x4), (5, .int x5), (6, .int x6)] [] σ := by
            intro x4 x5 x6  σ hW h
            obtain ⟨v2, ev2⟩ : ∃ z : Int32, z = (x6 + 1) := ⟨_, rfl⟩
            replace h := h v2 ev2
            refine V_iinc 36 5 (v := v2) (lv' := [(6, .int v2), (0, .ref a0), (1, .int a1), (2, .int a2), (4, .int x4), (5, .int x5)]) rfl rfl ((in_1 _).trans ev2.symm) (by decide) rfl ?_
            refine V_goto 37 (tgt := 16) rfl (by decide) ?_
            refine V_sub [1, 2, 3, 4, 5, 0] (lv' := [(0, .ref a0), (1, .int a1), (2, .int a2), (4, .int x4), (5, .int x5), (6, .int v2)]) rfl ?_
            exact k_Bk x4 x5 v2  σ hW h
          intro x4 x5 x6  σ hW h
          refine V_iload 9 5 rfl rfl ?_
          refine V_aload_n 10 0 rfl rfl rfl ?_
          refine V_getR 11 2 rfl clX0 flX3_71 (by decide) (wG hW ha0) (fun _ => rfl) (wG_f2 hW ha0) ?_
          refine V_iload_n 12 1 rfl rfl rfl ?_
          obtain ⟨hin, h⟩ := h
          refine V_iald 13 rfl (wG_a2 hW ha0) hin ?_
          refine V_icmp_ge 14 (tgt := 64) rfl (by decide) (fun hc => ?_) (fun hc => ?_)
          · replace h := h.1 hc
            refine V_sub [0, 1, 2, 3, 4] (lv' := [(0, .ref a0), (1, .int a1), (2, .int a2), (4, .int x4), (5, .int x5)]) rfl ?_
            exact k_K64 x4 x5  σ hW h
          · replace h := h.2 hc
            refine V_pc 27 rfl ?_
            refine V_iload_n 15 2 rfl rfl rfl ?_
            refine V_iload 16 3 rfl rfl ?_
            refine V_ior 17 rfl ?_
            refine V_iload 18 5 rfl rfl ?_
            refine V_iushr 19 rfl ?_
            refine V_iconst 20 (v := (1 : Int32)) rfl (by decide) ?_
            refine V_pc 35 rfl ?_
            refine V_iand 21 rfl ?_
            refine V_if_ne 22 (tgt := 58) rfl (by decide) (fun hc => ?_) (fun hc => ?_)
            · replace h := h.1 hc
              exact k_j58 x4 x5 x6 σ hW h
            · replace h := h.2 hc
              refine V_pc 39 rfl ?_
              refine V_iload 23 3 rfl rfl ?_
              refine V_aload_n 24 0 rfl rfl rfl ?_
              refine V_getR 25 17 rfl clX0 flX3_30 (by decide) (wG hW ha0) (fun _ => rfl) (wG_f17 hW ha0) ?_
              refine V_iload_n 26 1 rfl rfl rfl ?_
              refine V_bipush 27 (v := (8 : Int32)) rfl (by decide) ?_
              refine V_imul 28 rfl ?_
              refine V_pc 49 rfl ?_
              refine V_iload 29 5 rfl rfl ?_
              refine V_iadd 30 rfl ?_
              obtain ⟨hin, h⟩ := h
              refine V_iald 31 rfl (wG_a15 hW ha0) hin ?_
              refine V_iconst 32 (v := (-1 : Int32)) rfl (by decide) ?_
              refine V_ixor 33 rfl ?_
              refine V_iand 34 rfl ?_
              refine V_pc 56 rfl ?_
              refine V_topi (fun v3 ev3 => ?_)
              replace h := h v3 ev3
              refine V_istore 35 (lv' := [(4, .int v3), (0, .ref a0), (1, .int a1), (2, .int a2), (5, .int x5), (6, .int x6)]) rfl (by decide) rfl ?_
              refine V_sub [1, 2, 3, 0, 4, 5] (lv' := [(0, .ref a0), (1, .int a1), (2, .int a2), (4, .int v3), (5, .int x5), (6, .int x6)]) rfl ?_
              exact k_j58 v3 x5 x6 σ hW h
        intro n
        induction n with
        | zero => intro x4 x5 x6  σ hW h; exact absurd h id
        | succ n ih => exact step _ k_j64 _ ih
      intro x4 x5  σ hW h
      refine V_iload 4 4 rfl rfl ?_
      refine V_bipush 5 (v := (8 : Int32)) rfl (by decide) ?_
      refine V_icmp_ge 6 (tgt := 70) rfl (by decide) (fun hc => ?_) (fun hc => ?_)
      · replace h := h.1 hc
        refine V_iload 40 3 rfl rfl ?_
        exact V_iret 41 rfl rfl ⟨hW, _, rfl, h⟩
      · replace h := h.2 hc
        refine V_pc 13 rfl ?_
        refine V_iconst 7 (v := (0 : Int32)) rfl (by decide) ?_
        refine V_istore 8 (lv' := [(6, .int (0 : Int32)), (0, .ref a0), (1, .int a1), (2, .int a2), (4, .int x4), (5, .int x5)]) rfl (by decide) rfl ?_
        refine V_sub [1, 2, 3, 4, 5, 0] (lv' := [(0, .ref a0), (1, .int a1), (2, .int a2), (4, .int x4), (5, .int x5), (6, .int (0 : Int32))]) rfl ?_
        obtain ⟨n, h⟩ := h
        exact k_l16 n x4 x5 (0 : Int32) σ hW h
    intro n
    induction n with
    | zero => intro x4 x5  σ hW h; exact absurd h id
    | succ n ih => exact step  _ ih
  intro σ hW h
  refine V_iload_n 0 3 rfl rfl rfl ?_
  refine V_istore 1 (lv' := [(4, .int a3), (0, .ref a0), (1, .int a1), (2, .int a2), (3, .int a3)]) rfl (by decide) rfl ?_
  refine V_iconst 2 (v := (0 : Int32)) rfl (by decide) ?_
  refine V_istore 3 (lv' := [(5, .int (0 : Int32)), (4, .int a3), (0, .ref a0), (1, .int a1), (2, .int a2), (3, .int a3)]) rfl (by decide) rfl ?_
  refine V_sub [2, 3, 4, 1, 0] (lv' := [(0, .ref a0), (1, .int a1), (2, .int a2), (4, .int a3), (5, .int (0 : Int32))]) rfl ?_
  obtain ⟨n, h⟩ := h
  exact k_l6 n a3 (0 : Int32) σ hW h

def wX3_setLevels_j144 (a0 : Nat) (Q : ab_S → Prop) (E : String → ab_S → Prop) (Bk : Int32 → ab_S → Prop) (x2 : Int32) (x5 : Int32) (σ : ab_S) : Prop := vp_in x2 12 ∧ (∀ σ1 : ab_S, σ1 = ab_I σ (a0 + 17) x2.toNatClampNeg ((x5 + (1 : Int32)) / (2 : Int32)) → ∀ v2 : Int32, v2 = (x2 + 1) → Bk v2 σ1)
def wX3_setLevels_j127 (a0 : Nat) (Q : ab_S → Prop) (E : String → ab_S → Prop) (K144 : Int32 → Int32 → ab_S → Prop) (Bk : Int32 → Int32 → Int32 → Int32 → Int32 → ab_S → Prop) (x2 : Int32) (x3 : Int32) (x4 : Int32) (x6 : Int32) (x8 : Int32) (σ : ab_S) : Prop := ∀ v3 : Int32, v3 = (x4 ||| x8) → ∀ v4 : Int32, v4 = (x6 + 1) → Bk x2 x3 v3 x6 v4 σ
def wX3_setLevels_j121 (a0 : Nat) (Q : ab_S → Prop) (E : String → ab_S → Prop) (K127 : Int32 → Int32 → Int32 → Int32 → Int32 → ab_S → Prop) (Bk : Int32 → Int32 → Int32 → Int32 → Int32 → Int32 → ab_S → Prop) (x2 : Int32) (x3 : Int32) (x4 : Int32) (x6 : Int32) (x8 : Int32) (x9 : Int32) (σ : ab_S) : Prop := ∀ v5 : Int32, v5 = (x9 + 1) → Bk x2 x3 x4 x6 x8 v5 σ
def wX3_setLevels_l86_b (a0 : Nat) (Q : ab_S → Prop) (E : String → ab_S → Prop) (K127 : Int32 → Int32 → Int32 → Int32 → Int32 → ab_S → Prop) (Bk : Int32 → Int32 → Int32 → Int32 → Int32 → Int32 → ab_S → Prop) (x2 : Int32) (x3 : Int32) (x4 : Int32) (x6 : Int32) (x8 : Int32) (x9 : Int32) (σ : ab_S) : Prop := vp_in x2 12 ∧ ((((σ.2.1 (a0 + 2) x2.toNatClampNeg) ≤ x9) → K127 x2 x3 x4 x6 x8 σ) ∧ (¬ ((σ.2.1 (a0 + 2) x2.toNatClampNeg) ≤ x9) → (((((x8.toUInt32 >>> (x9.toUInt32 &&& Int32.toUInt32 31)).toInt32) &&& (1 : Int32)) = 0) → wX3_setLevels_j121 a0 Q E K127 Bk x2 x3 x4 x6 x8 x9 σ) ∧ (¬ ((((x8.toUInt32 >>> (x9.toUInt32 &&& Int32.toUInt32 31)).toInt32) &&& (1 : Int32)) = 0) → vp_in ((x2 * (8 : Int32)) + x9) 96 ∧ (∀ σ6 : ab_S, σ6 = ab_I σ (a0 + 16) ((x2 * (8 : Int32)) + x9).toNatClampNeg x6 → wX3_setLevels_j121 a0 Q E K127 Bk x2 x3 x4 x6 x8 x9 σ6))))
def wX3_setLevels_l86 (a0 : Nat) (Q : ab_S → Prop) (E : String → ab_S → Prop) (K127 : Int32 → Int32 → Int32 → Int32 → Int32 → ab_S → Prop) : Nat → Int32 → Int32 → Int32 → Int32 → Int32 → Int32 → ab_S → Prop
  | 0, _, _, _, _, _, _, _ => False
  | n + 1, x2, x3, x4, x6, x8, x9, σ => wX3_setLevels_l86_b a0 Q E K127 (wX3_setLevels_l86 a0 Q E K127 n) x2 x3 x4 x6 x8 x9 σ
def wX3_setLevels_j63 (a0 : Nat) (Q : ab_S → Prop) (E : String → ab_S → Prop) (K144 : Int32 → Int32 → ab_S → Prop) (Bk : Int32 → Int32 → Int32 → Int32 → Int32 → ab_S → Prop) (x2 : Int32) (x3 : Int32) (x4 : Int32) (x6 : Int32) (y0 : Int32) (σ : ab_S) : Prop := wX3_choose a0 x2 x4 ((y0 &&& x3) &&& (x4 ^^^ (-1 : Int32))) (fun u8 σ7 => ∃ n, wX3_setLevels_l86 a0 Q E (wX3_setLevels_j127 a0 Q E K144 Bk) n x2 x3 x4 x6 u8 (0 : Int32) σ7) E σ
def wX3_setLevels_l25_b (a0 : Nat) (Q : ab_S → Prop) (E : String → ab_S → Prop) (K144 : Int32 → Int32 → ab_S → Prop) (Bk : Int32 → Int32 → Int32 → Int32 → Int32 → ab_S → Prop) (x2 : Int32) (x3 : Int32) (x4 : Int32) (x5 : Int32) (x6 : Int32) (σ : ab_S) : Prop := ((x4 = x3) → K144 x2 x5 σ) ∧ (¬ (x4 = x3) → (((9 : Int32) < x6) → K144 x2 x5 σ) ∧ (¬ ((9 : Int32) < x6) → ((¬ (x6 - x6 / (2 : Int32) * (2 : Int32)) = (1 : Int32)) → vp_in x2 12 ∧ (wX3_setLevels_j63 a0 Q E K144 Bk x2 x3 x4 x6 (σ.2.1 (a0 + 3) x2.toNatClampNeg) σ)) ∧ (¬ (¬ (x6 - x6 / (2 : Int32) * (2 : Int32)) = (1 : Int32)) → vp_in x2 12 ∧ (wX3_setLevels_j63 a0 Q E K144 Bk x2 x3 x4 x6 ((σ.2.1 (a0 + 3) x2.toNatClampNeg) ^^^ (-1 : Int32)) σ))))
def wX3_setLevels_l25 (a0 : Nat) (Q : ab_S → Prop) (E : String → ab_S → Prop) (K144 : Int32 → Int32 → ab_S → Prop) : Nat → Int32 → Int32 → Int32 → Int32 → Int32 → ab_S → Prop
  | 0, _, _, _, _, _, _ => False
  | n + 1, x2, x3, x4, x5, x6, σ => wX3_setLevels_l25_b a0 Q E K144 (wX3_setLevels_l25 a0 Q E K144 n) x2 x3 x4 x5 x6 σ
def wX3_setLevels_l2_b (a0 : Nat) (Q : ab_S → Prop) (E : String → ab_S → Prop) (Bk : Int32 → ab_S → Prop) (x2 : Int32) (σ : ab_S) : Prop := (((σ.2.1 a0 0) ≤ x2) → Q σ) ∧ (¬ ((σ.2.1 a0 0) ≤ x2) → wX0_allOf a0 x2 (fun u10 σ9 => ∃ n, wX3_setLevels_l25 a0 Q E (wX3_setLevels_j144 a0 Q E Bk) n x2 u10 (0 : Int32) (1 : Int32) (1 : Int32) σ9) E σ)
def wX3_setLevels_l2 (a0 : Nat) (Q : ab_S → Prop) (E : String → ab_S → Prop) : Nat → Int32 → ab_S → Prop
  | 0, _, _ => False
  | n + 1, x2, σ => wX3_setLevels_l2_b a0 Q E (wX3_setLevels_l2 a0 Q E n) x2 σ
def wX3_setLevels (a0 : Nat) (Q : ab_S → Prop) (E : String → ab_S → Prop) (σ : ab_S) : Prop := ∃ n, wX3_setLevels_l2 a0 Q E n (0 : Int32) σ
set_option maxHeartbeats 4000000 in
set_option maxRecDepth 100000 in
theorem ceX3_setLevels {l : Launch} (hl : l.stackTraces = false) (B : Nat) {a0 : Nat} (ha0 : isG a0) {Q : ab_S → Prop} {E : String → ab_S → Prop} {σ : ab_S} (hW : Wire σ) (h : wX3_setLevels a0 Q E σ) : ab_Mt l yX3_setLevels mdX3_setLevels B 1 26 0 0 [.ref 9, .ref a0] σ (fun v σ' => Wire σ' ∧ v = none ∧ Q σ') (fun X σ' => Wire σ' ∧ E X σ') := by
  refine V_met hl ⟨rfl, rfl, by decide⟩ rfl dkX3_setLevels (Nat.le_of_ble_eq_true rfl) ?_
  show V l mdX3_setLevels B 1 26 0 0 (ab_End _ _) 0 [(0, .ref 9), (1, .ref a0)] [] σ
  revert h hW
  revert σ
  have k_l2 : ∀ (n : Nat) (x2 : Int32)  (σ : ab_S), Wire σ → wX3_setLevels_l2 a0 Q E n x2 σ → V l mdX3_setLevels B 1 26 0 0 (ab_End (fun v σ' => Wire σ' ∧ v = none ∧ Q σ') (fun X σ' => Wire σ' ∧ E X σ')) 2 [(1, .ref a0), (2, .int x2)] [] σ := by
    have step : ∀ (Bk : Int32 → ab_S → Prop) (k_Bk : ∀ (x2 : Int32)  (σ : ab_S), Wire σ → Bk x2 σ → V l mdX3_setLevels B 1 26 0 0 (ab_End (fun v σ' => Wire σ' ∧ v = none ∧ Q σ') (fun X σ' => Wire σ' ∧ E X σ')) 2 [(1, .ref a0), (2, .int x2)] [] σ), ∀ (x2 : Int32)  (σ : ab_S), Wire σ → wX3_setLevels_l2_b a0 Q E Bk x2 σ → V l mdX3_setLevels B 1 26 0 0 (ab_End (fun v σ' => Wire σ' ∧ v = none ∧ Q σ') (fun X σ' => Wire σ' ∧ E X σ')) 2 [(1, .ref a0), (2, .int x2)] [] σ := by
      intro Bk k_Bk
      have k_j144 : ∀ (x2 : Int32) (x5 : Int32)  (σ : ab_S), Wire σ → wX3_setLevels_j144 a0 Q E Bk x2 x5 σ → V l mdX3_setLevels B 1 26 0 0 (ab_End (fun v σ' => Wire σ' ∧ v = none ∧ Q σ') (fun X σ' => Wire σ' ∧ E X σ')) 144 [(1, .ref a0), (2, .int x2), (5, .int x5)] [] σ := by
        intro x2 x5  σ hW h
        refine V_aload_n 84 0 rfl rfl rfl ?_
        refine V_getR 85 19 rfl clX0 flX3_77 (by decide) (wG hW ha0) (fun _ => rfl) (wG_f19 hW ha0) ?_
        refine V_iload_n 86 1 rfl rfl rfl ?_
        refine V_iload 87 2 rfl rfl ?_
        refine V_iconst 88 (v := (1 : Int32)) rfl (by decide) ?_
        refine V_iadd 89 rfl ?_
        refine V_pc 153 rfl ?_
        refine V_iconst 90 (v := (2 : Int32)) rfl (by decide) ?_
        refine V_idiv 91 rfl (by decide) ?_
        obtain ⟨hin, h⟩ := h
        refine V_iast 92 rfl (wG_a17 hW ha0) hin ?_
        refine V_nm (fun σ1 eσ1 => ?_)
        replace h := h σ1 eσ1
        have hW := wire_I eσ1 hW
        obtain ⟨v2, ev2⟩ : ∃ z : Int32, z = (x2 + 1) := ⟨_, rfl⟩
        replace h := h v2 ev2
        refine V_iinc 93 1 (v := v2) (lv' := [(2, .int v2), (1, .ref a0), (5, .int x5)]) rfl rfl ((in_1 _).trans ev2.symm) (by decide) rfl ?_
        refine V_goto 94 (tgt := 2) rfl (by decide) ?_
        refine V_sub [1, 0] (lv' := [(1, .ref a0), (2, .int v2)]) rfl ?_
        exact k_Bk v2  σ1 hW h
      have k_l25 : ∀ (n : Nat) (x2 : Int32) (x3 : Int32) (x4 : Int32) (x5 : Int32) (x6 : Int32)  (σ : ab_S), Wire σ → wX3_setLevels_l25 a0 Q E (wX3_setLevels_j144 a0 Q E Bk) n x2 x3 x4 x5 x6 σ → V l mdX3_setLevels B 1 26 0 0 (ab_End (fun v σ' => Wire σ' ∧ v = none ∧ Q σ') (fun X σ' => Wire σ' ∧ E X σ')) 25 [(1, .ref a0), (2, .int x2), (3, .int x3), (4, .int x4), (5, .int x5), (6, .int x6)] [] σ := by
        have step : ∀ (K144 : Int32 → Int32 → ab_S → Prop) (k_K144 : ∀ (x2 : Int32) (x5 : Int32)  (σ : ab_S), Wire σ → K144 x2 x5 σ → V l mdX3_setLevels B 1 26 0 0 (ab_End (fun v σ' => Wire σ' ∧ v = none ∧ Q σ') (fun X σ' => Wire σ' ∧ E X σ')) 144 [(1, .ref a0), (2, .int x2), (5, .int x5)] [] σ), ∀ (Bk : Int32 → Int32 → Int32 → Int32 → Int32 → ab_S → Prop) (k_Bk : ∀ (x2 : Int32) (x3 : Int32) (x4 : Int32) (x5 : Int32) (x6 : Int32)  (σ : ab_S), Wire σ → Bk x2 x3 x4 x5 x6 σ → V l mdX3_setLevels B 1 26 0 0 (ab_End (fun v σ' => Wire σ' ∧ v = none ∧ Q σ') (fun X σ' => Wire σ' ∧ E X σ')) 25 [(1, .ref a0), (2, .int x2), (3, .int x3), (4, .int x4), (5, .int x5), (6, .int x6)] [] σ), ∀ (x2 : Int32) (x3 : Int32) (x4 : Int32) (x5 : Int32) (x6 : Int32)  (σ : ab_S), Wire σ → wX3_setLevels_l25_b a0 Q E K144 Bk x2 x3 x4 x5 x6 σ → V l mdX3_setLevels B 1 26 0 0 (ab_End (fun v σ' => Wire σ' ∧ v = none ∧ Q σ') (fun X σ' => Wire σ' ∧ E X σ')) 25 [(1, .ref a0), (2, .int x2), (3, .int x3), (4, .int x4), (5, .int x5), (6, .int x6)] [] σ := by
          intro K144 k_K144 Bk k_Bk
          have k_j127 : ∀ (x2 : Int32) (x3 : Int32) (x4 : Int32) (x6 : Int32) (x8 : Int32)  (σ : ab_S), Wire σ → wX3_setLevels_j127 a0 Q E K144 Bk x2 x3 x4 x6 x8 σ → V l mdX3_setLevels B 1 26 0 0 (ab_End (fun v σ' => Wire σ' ∧ v = none ∧ Q σ') (fun X σ' => Wire σ' ∧ E X σ')) 127 [(1, .ref a0), (2, .int x2), (3, .int x3), (4, .int x4), (6, .int x6), (8, .int x8)] [] σ := by
            intro x2 x3 x4 x6 x8  σ hW h
            refine V_iload 76 3 rfl rfl ?_
            refine V_iload 77 5 rfl rfl ?_
            refine V_ior 78 rfl ?_
            refine V_topi (fun v3 ev3 => ?_)
            replace h := h v3 ev3
            refine V_istore 79 (lv' := [(4, .int v3), (1, .ref a0), (2, .int x2), (3, .int x3), (6, .int x6), (8, .int x8)]) rfl (by decide) rfl ?_
            refine V_iload 80 4 rfl rfl ?_
            refine V_istore 81 (lv' := [(5, .int x6), (4, .int v3), (1, .ref a0), (2, .int x2), (3, .int x3), (6, .int x6), (8, .int x8)]) rfl (by decide) rfl ?_
            refine V_pc 138 rfl ?_
            obtain ⟨v4, ev4⟩ : ∃ z : Int32, z = (x6 + 1) := ⟨_, rfl⟩
            replace h := h v4 ev4
            refine V_iinc 82 5 (v := v4) (lv' := [(6, .int v4), (5, .int x6), (4, .int v3), (1, .ref a0), (2, .int x2), (3, .int x3), (8, .int x8)]) rfl rfl ((in_1 _).trans ev4.symm) (by decide) rfl ?_
            refine V_goto 83 (tgt := 25) rfl (by decide) ?_
            refine V_sub [3, 4, 5, 2, 1, 0] (lv' := [(1, .ref a0), (2, .int x2), (3, .int x3), (4, .int v3), (5, .int x6), (6, .int v4)]) rfl ?_
            exact k_Bk x2 x3 v3 x6 v4  σ hW h
          have k_l86 : ∀ (n : Nat) (x2 : Int32) (x3 : Int32) (x4 : Int32) (x6 : Int32) (x8 : Int32) (x9 : Int32)  (σ : ab_S), Wire σ → wX3_setLevels_l86 a0 Q E (wX3_setLevels_j127 a0 Q E K144 Bk) n x2 x3 x4 x6 x8 x9 σ → V l mdX3_setLevels B 1 26 0 0 (ab_End (fun v σ' => Wire σ' ∧ v = none ∧ Q σ') (fun X σ' => Wire σ' ∧ E X σ')) 86 [(1, .ref a0), (2, .int x2), (3, .int x3), (4, .int x4), (6, .int x6), (8, .int x8), (9, .int x9)] [] σ := by
            have step : ∀ (K127 : Int32 → Int32 → Int32 → Int32 → Int32 → ab_S → Prop) (k_K127 : ∀ (x2 : Int32) (x3 : Int32) (x4 : Int32) (x6 : Int32) (x8 : Int32)  (σ : ab_S), Wire σ → K127 x2 x3 x4 x6 x8 σ → V l mdX3_setLevels B 1 26 0 0 (ab_End (fun v σ' => Wire σ' ∧ v = none ∧ Q σ') (fun X σ' => Wire σ' ∧ E X σ')) 127 [(1, .ref a0), (2, .int x2), (3, .int x3), (4, .int x4), (6, .int x6), (8, .int x8)] [] σ), ∀ (Bk : Int32 → Int32 → Int32 → Int32 → Int32 → Int32 → ab_S → Prop) (k_Bk : ∀ (x2 : Int32) (x3 : Int32) (x4 : Int32) (x6 : Int32) (x8 : Int32) (x9 : Int32)  (σ : ab_S), Wire σ → Bk x2 x3 x4 x6 x8 x9 σ → V l mdX3_setLevels B 1 26 0 0 (ab_End (fun v σ' => Wire σ' ∧ v = none ∧ Q σ') (fun X σ' => Wire σ' ∧ E X σ')) 86 [(1, .ref a0), (2, .int x2), (3, .int x3), (4, .int x4), (6, .int x6), (8, .int x8), (9, .int x9)] [] σ), ∀ (x2 : Int32) (x3 : Int32) (x4 : Int32) (x6 : Int32) (x8 : Int32) (x9 : Int32)  (σ : ab_S), Wire σ → wX3_setLevels_l86_b a0 Q E K127 Bk x2 x3 x4 x6 x8 x9 σ → V l mdX3_setLevels B 1 26 0 0 (ab_End (fun v σ' => Wire σ' ∧ v = none ∧ Q σ') (fun X σ' => Wire σ' ∧ E X σ')) 86 [(1, .ref a0), (2, .int x2), (3, .int x3), (4, .int x4), (6, .int x6), (8, .int x8), (9, .int x9)] [] σ := by
              intro K127 k_K127 Bk k_Bk
              have k_j121 : ∀ (x2 : Int32) (x3 : Int32) (x4 : Int32) (x6 : Int32) (x8 : Int32) (x9 : Int32)  (σ : ab_S), Wire σ → wX3_setLevels_j121 a0 Q E K127 Bk x2 x3 x4 x6 x8 x9 σ → V l mdX3_setLevels B 1 26 0 0 (ab_End (fun v σ' => Wire σ' ∧ v = none ∧ Q σ') (fun X σ' => Wire σ' ∧ E X σ')) 121 [(1, .ref a0), (2, .int x2), (3, .int x3), (4, .int x4), (6, .int x6), (8, .int x8), (9, .int x9)] [] σ := by
                intro x2 x3 x4 x6 x8 x9  σ hW h
                obtain ⟨v5, ev5⟩ : ∃ z : Int32, z = (x9 + 1) := ⟨_, rfl⟩
                replace h := h v5 ev5
                refine V_iinc 74 6 (v := v5) (lv' := [(9, .int v5), (1, .ref a0), (2, .int x2), (3, .int x3), (4, .int x4), (6, .int x6), (8, .int x8)]) rfl rfl ((in_1 _).trans ev5.symm) (by decide) rfl ?_
                refine V_goto 75 (tgt := 86) rfl (by decide) ?_
                refine V_sub [1, 2, 3, 4, 5, 6, 0] (lv' := [(1, .ref a0), (2, .int x2), (3, .int x3), (4, .int x4), (6, .int x6), (8, .int x8), (9, .int v5)]) rfl ?_
                exact k_Bk x2 x3 x4 x6 x8 v5  σ hW h
              intro x2 x3 x4 x6 x8 x9  σ hW h
              refine V_iload 53 6 rfl rfl ?_
              refine V_aload_n 54 0 rfl rfl rfl ?_
              refine V_getR 55 2 rfl clX0 flX3_71 (by decide) (wG hW ha0) (fun _ => rfl) (wG_f2 hW ha0) ?_
              refine V_iload_n 56 1 rfl rfl rfl ?_
              obtain ⟨hin, h⟩ := h
              refine V_iald 57 rfl (wG_a2 hW ha0) hin ?_
              refine V_icmp_ge 58 (tgt := 127) rfl (by decide) (fun hc => ?_) (fun hc => ?_)
              · replace h := h.1 hc
                refine V_sub [0, 1, 2, 3, 4, 5] (lv' := [(1, .ref a0), (2, .int x2), (3, .int x3), (4, .int x4), (6, .int x6), (8, .int x8)]) rfl ?_
                exact k_K127 x2 x3 x4 x6 x8  σ hW h
              · replace h := h.2 hc
                refine V_pc 97 rfl ?_
                refine V_iload 59 5 rfl rfl ?_
                refine V_iload 60 6 rfl rfl ?_
                refine V_iushr 61 rfl ?_
                refine V_iconst 62 (v := (1 : Int32)) rfl (by decide) ?_
                refine V_iand 63 rfl ?_
                refine V_if_eq 64 (tgt := 121) rfl (by decide) (fun hc => ?_) (fun hc => ?_)
                · replace h := h.1 hc
                  exact k_j121 x2 x3 x4 x6 x8 x9 σ hW h
                · replace h := h.2 hc
                  refine V_pc 107 rfl ?_
                  refine V_aload_n 65 0 rfl rfl rfl ?_
                  refine V_getR 66 18 rfl clX0 flX3_74 (by decide) (wG hW ha0) (fun _ => rfl) (wG_f18 hW ha0) ?_
                  refine V_iload_n 67 1 rfl rfl rfl ?_
                  refine V_bipush 68 (v := (8 : Int32)) rfl (by decide) ?_
                  refine V_imul 69 rfl ?_
                  refine V_iload 70 6 rfl rfl ?_
                  refine V_pc 117 rfl ?_
                  refine V_iadd 71 rfl ?_
                  refine V_iload 72 4 rfl rfl ?_
                  obtain ⟨hin, h⟩ := h
                  refine V_iast 73 rfl (wG_a16 hW ha0) hin ?_
                  refine V_nm (fun σ6 eσ6 => ?_)
                  replace h := h σ6 eσ6
                  have hW := wire_I eσ6 hW
                  exact k_j121 x2 x3 x4 x6 x8 x9 σ6 hW h
            intro n
            induction n with
            | zero => intro x2 x3 x4 x6 x8 x9  σ hW h; exact absurd h id
            | succ n ih => exact step _ k_j127 _ ih
          have k_j63 : ∀ (x2 : Int32) (x3 : Int32) (x4 : Int32) (x6 : Int32) (y0 : Int32)  (σ : ab_S), Wire σ → wX3_setLevels_j63 a0 Q E K144 Bk x2 x3 x4 x6 y0 σ → V l mdX3_setLevels B 1 26 0 0 (ab_End (fun v σ' => Wire σ' ∧ v = none ∧ Q σ') (fun X σ' => Wire σ' ∧ E X σ')) 63 [(1, .ref a0), (2, .int x2), (3, .int x3), (4, .int x4), (6, .int x6)] [.int y0] σ := by
            intro x2 x3 x4 x6 y0  σ hW h
            refine V_istore 38 (lv' := [(7, .int y0), (1, .ref a0), (2, .int x2), (3, .int x3), (4, .int x4), (6, .int x6)]) rfl (by decide) rfl ?_
            refine V_aload_n 39 1 rfl rfl rfl ?_
            refine V_iload_n 40 2 rfl rfl rfl ?_
            refine V_iload 41 4 rfl rfl ?_
            refine V_iload 42 0 rfl rfl ?_
            refine V_iload_n 43 3 rfl rfl rfl ?_
            refine V_pc 72 rfl ?_
            refine V_iand 44 rfl ?_
            refine V_iload 45 4 rfl rfl ?_
            refine V_iconst 46 (v := (-1 : Int32)) rfl (by decide) ?_
            refine V_ixor 47 rfl ?_
            refine V_iand 48 rfl ?_
            refine V_callS 49 4 (as := [.ref a0, .int x2, .int x4, .int ((y0 &&& x3) &&& (x4 ^^^ (-1 : Int32)))]) (rest := []) rfl mlX3_67 yvX3_choose rfl rfl (by decide) (by decide) (Nat.le_of_ble_eq_true rfl) (by decide) (by decide) (fun B9 => ceX3_choose hl B9 ha0 hW h) (fun X9 τ9 h9 => VX_out rfl h9) ?_
            rintro v9 σ7 ⟨hW, u8, rfl, h⟩
            refine V_istore 50 (lv' := [(8, .int u8), (7, .int y0), (1, .ref a0), (2, .int x2), (3, .int x3), (4, .int x4), (6, .int x6)]) rfl (by decide) rfl ?_
            refine V_iconst 51 (v := (0 : Int32)) rfl (by decide) ?_
            refine V_istore 52 (lv' := [(9, .int (0 : Int32)), (8, .int u8), (7, .int y0), (1, .ref a0), (2, .int x2), (3, .int x3), (4, .int x4), (6, .int x6)]) rfl (by decide) rfl ?_
            refine V_sub [3, 4, 5, 6, 7, 1, 0] (lv' := [(1, .ref a0), (2, .int x2), (3, .int x3), (4, .int x4), (6, .int x6), (8, .int u8), (9, .int (0 : Int32))]) rfl ?_
            obtain ⟨n, h⟩ := h
            exact k_l86 n x2 x3 x4 x6 u8 (0 : Int32) σ7 hW h
          intro x2 x3 x4 x5 x6  σ hW h
          refine V_iload 16 3 rfl rfl ?_
          refine V_iload_n 17 2 rfl rfl rfl ?_
          refine V_icmp_eq 18 (tgt := 144) rfl (by decide) (fun hc => ?_) (fun hc => ?_)
          · replace h := h.1 hc
            refine V_sub [0, 1, 4] (lv' := [(1, .ref a0), (2, .int x2), (5, .int x5)]) rfl ?_
            exact k_K144 x2 x5  σ hW h
          · replace h := h.2 hc
            refine V_pc 31 rfl ?_
            refine V_iload 19 5 rfl rfl ?_
            refine V_bipush 20 (v := (9 : Int32)) rfl (by decide) ?_
            refine V_icmp_gt 21 (tgt := 144) rfl (by decide) (fun hc => ?_) (fun hc => ?_)
            · replace h := h.1 hc
              refine V_sub [0, 1, 4] (lv' := [(1, .ref a0), (2, .int x2), (5, .int x5)]) rfl ?_
              exact k_K144 x2 x5  σ hW h
            · replace h := h.2 hc
              refine V_pc 38 rfl ?_
              refine V_iload 22 5 rfl rfl ?_
              refine V_iconst 23 (v := (2 : Int32)) rfl (by decide) ?_
              refine V_irem 24 rfl (by decide) ?_
              refine V_iconst 25 (v := (1 : Int32)) rfl (by decide) ?_
              refine V_icmp_ne 26 (tgt := 57) rfl (by decide) (fun hc => ?_) (fun hc => ?_)
              · replace h := h.1 hc
                refine V_aload_n 34 0 rfl rfl rfl ?_
                refine V_getR 35 3 rfl clX0 flX3_64 (by decide) (wG hW ha0) (fun _ => rfl) (wG_f3 hW ha0) ?_
                refine V_iload_n 36 1 rfl rfl rfl ?_
                obtain ⟨hin, h⟩ := h
                refine V_iald 37 rfl (wG_a3 hW ha0) hin ?_
                refine V_sub [0, 1, 2, 3, 5] (lv' := [(1, .ref a0), (2, .int x2), (3, .int x3), (4, .int x4), (6, .int x6)]) rfl ?_
                exact k_j63 x2 x3 x4 x6 (σ.2.1 (a0 + 3) x2.toNatClampNeg) σ hW h
              · replace h := h.2 hc
                refine V_pc 46 rfl ?_
                refine V_aload_n 27 0 rfl rfl rfl ?_
                refine V_getR 28 3 rfl clX0 flX3_64 (by decide) (wG hW ha0) (fun _ => rfl) (wG_f3 hW ha0) ?_
                refine V_iload_n 29 1 rfl rfl rfl ?_
                obtain ⟨hin, h⟩ := h
                refine V_iald 30 rfl (wG_a3 hW ha0) hin ?_
                refine V_iconst 31 (v := (-1 : Int32)) rfl (by decide) ?_
                refine V_ixor 32 rfl ?_
                refine V_pc 54 rfl ?_
                refine V_goto 33 (tgt := 63) rfl (by decide) ?_
                refine V_sub [0, 1, 2, 3, 5] (lv' := [(1, .ref a0), (2, .int x2), (3, .int x3), (4, .int x4), (6, .int x6)]) rfl ?_
                exact k_j63 x2 x3 x4 x6 ((σ.2.1 (a0 + 3) x2.toNatClampNeg) ^^^ (-1 : Int32)) σ hW h
        intro n
        induction n with
        | zero => intro x2 x3 x4 x5 x6  σ hW h; exact absurd h id
        | succ n ih => exact step _ k_j144 _ ih
      intro x2  σ hW h
      refine V_iload_n 2 1 rfl rfl rfl ?_
      refine V_aload_n 3 0 rfl rfl rfl ?_
      refine V_get (v := .int (σ.2.1 a0 0)) 4 0 rfl clX0 flX3_57 (by decide) (wG hW ha0) (fun _ => rfl) ?_
      refine V_icmp_ge 5 (tgt := 162) rfl (by decide) (fun hc => ?_) (fun hc => ?_)
      · replace h := h.1 hc
        exact V_vret 95 rfl rfl ⟨hW, rfl, h⟩
      · replace h := h.2 hc
        refine V_pc 10 rfl ?_
        refine V_aload_n 6 0 rfl rfl rfl ?_
        refine V_iload_n 7 1 rfl rfl rfl ?_
        refine V_callV 8 1 (as := [.int x2]) (rest := []) rfl mlX3_60 yvX0_allOf rfl rfl clX0 (wG hW ha0) (by decide) (by decide) (Nat.le_of_ble_eq_true rfl) (by decide) (by decide) (fun B9 => ceX0_allOf hl B9 ha0 hW h) (fun X9 τ9 h9 => VX_out rfl h9) ?_
        rintro v9 σ9 ⟨hW, u10, rfl, h⟩
        refine V_istore_n 9 (lv' := [(3, .int u10), (1, .ref a0), (2, .int x2)]) rfl rfl (by decide) rfl ?_
        refine V_iconst 10 (v := (0 : Int32)) rfl (by decide) ?_
        refine V_istore 11 (lv' := [(4, .int (0 : Int32)), (3, .int u10), (1, .ref a0), (2, .int x2)]) rfl (by decide) rfl ?_
        refine V_iconst 12 (v := (1 : Int32)) rfl (by decide) ?_
        refine V_istore 13 (lv' := [(5, .int (1 : Int32)), (4, .int (0 : Int32)), (3, .int u10), (1, .ref a0), (2, .int x2)]) rfl (by decide) rfl ?_
        refine V_pc 22 rfl ?_
        refine V_iconst 14 (v := (1 : Int32)) rfl (by decide) ?_
        refine V_istore 15 (lv' := [(6, .int (1 : Int32)), (5, .int (1 : Int32)), (4, .int (0 : Int32)), (3, .int u10), (1, .ref a0), (2, .int x2)]) rfl (by decide) rfl ?_
        refine V_sub [4, 5, 3, 2, 1, 0] (lv' := [(1, .ref a0), (2, .int x2), (3, .int u10), (4, .int (0 : Int32)), (5, .int (1 : Int32)), (6, .int (1 : Int32))]) rfl ?_
        obtain ⟨n, h⟩ := h
        exact k_l25 n x2 u10 (0 : Int32) (1 : Int32) (1 : Int32) σ9 hW h
    intro n
    induction n with
    | zero => intro x2  σ hW h; exact absurd h id
    | succ n ih => exact step  _ ih
  intro σ hW h
  refine V_iconst 0 (v := (0 : Int32)) rfl (by decide) ?_
  refine V_istore_n 1 (lv' := [(2, .int (0 : Int32)), (0, .ref 9), (1, .ref a0)]) rfl rfl (by decide) rfl ?_
  refine V_sub [2, 0] (lv' := [(1, .ref a0), (2, .int (0 : Int32))]) rfl ?_
  obtain ⟨n, h⟩ := h
  exact k_l2 n (0 : Int32) σ hW h

def wX4_add (a0 : Int32) (a1 : Int32) (a2 : Int32) (Q : ab_S → Prop) (E : String → ab_S → Prop) (σ : ab_S) : Prop := (((nI 1410) ≤ (σ.2.1 11 8)) → Q σ) ∧ (¬ ((nI 1410) ≤ (σ.2.1 11 8)) → vp_in (σ.2.1 11 8) 1410 ∧ (∀ σ1 : ab_S, σ1 = ab_I σ 12 (σ.2.1 11 8).toNatClampNeg a0 → vp_in (σ1.2.1 11 8) 1410 ∧ (∀ σ2 : ab_S, σ2 = ab_I σ1 13 (σ1.2.1 11 8).toNatClampNeg a1 → vp_in (σ2.2.1 11 8) 1410 ∧ (∀ σ3 : ab_S, σ3 = ab_I σ2 14 (σ2.2.1 11 8).toNatClampNeg a2 → (∀ σ4 : ab_S, σ4 = ab_I σ3 11 8 ((σ3.2.1 11 8) + (1 : Int32)) → Q σ4)))))
set_option maxHeartbeats 4000000 in
set_option maxRecDepth 100000 in
theorem ceX4_add {l : Launch} (hl : l.stackTraces = false) (B : Nat) {a0 : Int32} {a1 : Int32} {a2 : Int32}  {Q : ab_S → Prop} {E : String → ab_S → Prop} {σ : ab_S} (hW : Wire σ) (h : wX4_add a0 a1 a2 Q E σ) : ab_Mt l yX4_add mdX4_add B 0 0 0 0 [.ref 11, .int a0, .int a1, .int a2] σ (fun v σ' => Wire σ' ∧ v = none ∧ Q σ') (fun X σ' => Wire σ' ∧ E X σ') := by
  refine V_met hl ⟨rfl, rfl, by decide⟩ rfl dkX4_add (Nat.le_of_ble_eq_true rfl) ?_
  show V l mdX4_add B 0 0 0 0 (ab_End _ _) 0 [(0, .ref 11), (1, .int a0), (2, .int a1), (3, .int a2)] [] σ
  refine V_aload_n 0 0 rfl rfl rfl ?_
  refine V_get (v := .int (σ.2.1 11 8)) 1 8 rfl clX4 flX4_37 (by decide) (wsh hW rfl) (fun _ => rfl) ?_
  refine V_aload_n 2 0 rfl rfl rfl ?_
  refine V_getR 3 0 rfl clX4 flX4_9 (by decide) (wsh hW rfl) (fun _ => rfl) (wrf hW 19 rfl) ?_
  refine V_alenI 4 0 rfl (wsh hW rfl) (by decide) (by decide) (fun _ => rfl) ?_
  refine V_icmp_ge 5 (tgt := 52) rfl (by decide) (fun hc => ?_) (fun hc => ?_)
  · replace h := h.1 hc
    exact V_vret 30 rfl rfl ⟨hW, rfl, h⟩
  · replace h := h.2 hc
    refine V_pc 12 rfl ?_
    refine V_aload_n 6 0 rfl rfl rfl ?_
    refine V_getR 7 0 rfl clX4 flX4_9 (by decide) (wsh hW rfl) (fun _ => rfl) (wrf hW 19 rfl) ?_
    refine V_aload_n 8 0 rfl rfl rfl ?_
    refine V_get (v := .int (σ.2.1 11 8)) 9 8 rfl clX4 flX4_37 (by decide) (wsh hW rfl) (fun _ => rfl) ?_
    refine V_iload_n 10 1 rfl rfl rfl ?_
    obtain ⟨hin, h⟩ := h
    refine V_iast 11 rfl (wsh hW rfl) hin ?_
    refine V_nm (fun σ1 eσ1 => ?_)
    replace h := h σ1 eσ1
    have hW := wire_I eσ1 hW
    refine V_pc 22 rfl ?_
    refine V_aload_n 12 0 rfl rfl rfl ?_
    refine V_getR 13 1 rfl clX4 flX4_15 (by decide) (wsh hW rfl) (fun _ => rfl) (wrf hW 20 rfl) ?_
    refine V_aload_n 14 0 rfl rfl rfl ?_
    refine V_get (v := .int (σ1.2.1 11 8)) 15 8 rfl clX4 flX4_37 (by decide) (wsh hW rfl) (fun _ => rfl) ?_
    refine V_iload_n 16 2 rfl rfl rfl ?_
    obtain ⟨hin, h⟩ := h
    refine V_iast 17 rfl (wsh hW rfl) hin ?_
    refine V_nm (fun σ2 eσ2 => ?_)
    replace h := h σ2 eσ2
    have hW := wire_I eσ2 hW
    refine V_pc 32 rfl ?_
    refine V_aload_n 18 0 rfl rfl rfl ?_
    refine V_getR 19 2 rfl clX4 flX4_18 (by decide) (wsh hW rfl) (fun _ => rfl) (wrf hW 21 rfl) ?_
    refine V_aload_n 20 0 rfl rfl rfl ?_
    refine V_get (v := .int (σ2.2.1 11 8)) 21 8 rfl clX4 flX4_37 (by decide) (wsh hW rfl) (fun _ => rfl) ?_
    refine V_iload_n 22 3 rfl rfl rfl ?_
    obtain ⟨hin, h⟩ := h
    refine V_iast 23 rfl (wsh hW rfl) hin ?_
    refine V_nm (fun σ3 eσ3 => ?_)
    replace h := h σ3 eσ3
    have hW := wire_I eσ3 hW
    refine V_pc 42 rfl ?_
    refine V_aload_n 24 0 rfl rfl rfl ?_
    refine V_dup 25 rfl rfl ?_
    refine V_get (v := .int (σ3.2.1 11 8)) 26 8 rfl clX4 flX4_37 (by decide) (wsh hW rfl) (fun _ => rfl) ?_
    refine V_iconst 27 (v := (1 : Int32)) rfl (by decide) ?_
    refine V_iadd 28 rfl ?_
    refine V_putI 29 8 rfl clX4 flX4_37 (by decide) (wsh hW rfl) rfl (fun _ _ => rfl) rfl rfl ?_
    refine V_nm (fun σ4 eσ4 => ?_)
    replace h := h σ4 eσ4
    have hW := wire_I eσ4 hW
    exact V_vret 30 rfl rfl ⟨hW, rfl, h⟩

def wX4_evaluateReady_j129 (a0 : Int32) (a1 : Int32) (Q : ab_S → Prop) (E : String → ab_S → Prop) (Bk : Int32 → ab_S → Prop) (x3 : Int32) (σ : ab_S) : Prop := ∀ v1 : Int32, v1 = (x3 + 1) → Bk v1 σ
def wX4_evaluateReady_j40 (a0 : Int32) (a1 : Int32) (Q : ab_S → Prop) (E : String → ab_S → Prop) (Bk : Int32 → ab_S → Prop) (x3 : Int32) (x4 : Int32) (y0 : Int32) (σ : ab_S) : Prop := ((y0 = 0) → wX4_evaluateReady_j129 a0 a1 Q E Bk x3 σ) ∧ (¬ (y0 = 0) → ∃ q2, σ.2.2.2 11 7 = some q2 ∧ isG q2 ∧ (vp_in ((a0 * (32 : Int32)) + x3) 960 ∧ (((¬ ((σ.2.1 (q2 + 10) ((a0 * (32 : Int32)) + x3).toNatClampNeg) &&& ((σ.2.1 11 9) ^^^ (-1 : Int32))) = 0) → wX4_evaluateReady_j129 a0 a1 Q E Bk x3 σ) ∧ (¬ (¬ ((σ.2.1 (q2 + 10) ((a0 * (32 : Int32)) + x3).toNatClampNeg) &&& ((σ.2.1 11 9) ^^^ (-1 : Int32))) = 0) → (∀ σ3 : ab_S, σ3 = ab_I σ 11 10 ((σ.2.1 11 10) ||| x4) → (∀ σ4 : ab_S, σ4 = ab_I σ3 11 9 ((σ3.2.1 11 9) ||| x4) → vp_in ((a0 * (32 : Int32)) + x3) 960 ∧ (∀ σ5 : ab_S, σ5 = ab_I σ4 16 ((a0 * (32 : Int32)) + x3).toNatClampNeg (σ4.2.1 11 8) → wX4_add (((10 : Int32) + ((10 : Int32) * (x3 / (8 : Int32)))) + (x3 - x3 / (8 : Int32) * (8 : Int32))) a1 (0 : Int32) (fun σ6 => wX4_evaluateReady_j129 a0 a1 Q E Bk x3 σ6) E σ5)))))))
def wX4_evaluateReady_l2_b (a0 : Int32) (a1 : Int32) (Q : ab_S → Prop) (E : String → ab_S → Prop) (Bk : Int32 → ab_S → Prop) (x3 : Int32) (σ : ab_S) : Prop := (((32 : Int32) ≤ x3) → Q σ) ∧ (¬ ((32 : Int32) ≤ x3) → ∀ v7 : Int32, v7 = ((1 : Int32) <<< (x3 &&& 31)) → ∃ q8, σ.2.2.2 11 7 = some q8 ∧ isG q8 ∧ (vp_in a0 30 ∧ ((((((σ.2.1 (q8 + 9) a0.toNatClampNeg) &&& ((σ.2.1 11 10) ^^^ (-1 : Int32))) &&& v7) = 0) → wX4_evaluateReady_j40 a0 a1 Q E Bk x3 v7 (0 : Int32) σ) ∧ (¬ ((((σ.2.1 (q8 + 9) a0.toNatClampNeg) &&& ((σ.2.1 11 10) ^^^ (-1 : Int32))) &&& v7) = 0) → wX4_evaluateReady_j40 a0 a1 Q E Bk x3 v7 (1 : Int32) σ))))
def wX4_evaluateReady_l2 (a0 : Int32) (a1 : Int32) (Q : ab_S → Prop) (E : String → ab_S → Prop) : Nat → Int32 → ab_S → Prop
  | 0, _, _ => False
  | n + 1, x3, σ => wX4_evaluateReady_l2_b a0 a1 Q E (wX4_evaluateReady_l2 a0 a1 Q E n) x3 σ
def wX4_evaluateReady (a0 : Int32) (a1 : Int32) (Q : ab_S → Prop) (E : String → ab_S → Prop) (σ : ab_S) : Prop := ∃ n, wX4_evaluateReady_l2 a0 a1 Q E n (0 : Int32) σ
set_option maxHeartbeats 4000000 in
set_option maxRecDepth 100000 in
theorem ceX4_evaluateReady {l : Launch} (hl : l.stackTraces = false) (B : Nat) {a0 : Int32} {a1 : Int32}  {Q : ab_S → Prop} {E : String → ab_S → Prop} {σ : ab_S} (hW : Wire σ) (h : wX4_evaluateReady a0 a1 Q E σ) : ab_Mt l yX4_evaluateReady mdX4_evaluateReady B 1 23 0 0 [.ref 11, .int a0, .int a1] σ (fun v σ' => Wire σ' ∧ v = none ∧ Q σ') (fun X σ' => Wire σ' ∧ E X σ') := by
  refine V_met hl ⟨rfl, rfl, by decide⟩ rfl dkX4_evaluateReady (Nat.le_of_ble_eq_true rfl) ?_
  show V l mdX4_evaluateReady B 1 23 0 0 (ab_End _ _) 0 [(0, .ref 11), (1, .int a0), (2, .int a1)] [] σ
  revert h hW
  revert σ
  have k_l2 : ∀ (n : Nat) (x3 : Int32)  (σ : ab_S), Wire σ → wX4_evaluateReady_l2 a0 a1 Q E n x3 σ → V l mdX4_evaluateReady B 1 23 0 0 (ab_End (fun v σ' => Wire σ' ∧ v = none ∧ Q σ') (fun X σ' => Wire σ' ∧ E X σ')) 2 [(0, .ref 11), (1, .int a0), (2, .int a1), (3, .int x3)] [] σ := by
    have step : ∀ (Bk : Int32 → ab_S → Prop) (k_Bk : ∀ (x3 : Int32)  (σ : ab_S), Wire σ → Bk x3 σ → V l mdX4_evaluateReady B 1 23 0 0 (ab_End (fun v σ' => Wire σ' ∧ v = none ∧ Q σ') (fun X σ' => Wire σ' ∧ E X σ')) 2 [(0, .ref 11), (1, .int a0), (2, .int a1), (3, .int x3)] [] σ), ∀ (x3 : Int32)  (σ : ab_S), Wire σ → wX4_evaluateReady_l2_b a0 a1 Q E Bk x3 σ → V l mdX4_evaluateReady B 1 23 0 0 (ab_End (fun v σ' => Wire σ' ∧ v = none ∧ Q σ') (fun X σ' => Wire σ' ∧ E X σ')) 2 [(0, .ref 11), (1, .int a0), (2, .int a1), (3, .int x3)] [] σ := by
      intro Bk k_Bk
      have k_j129 : ∀ (x3 : Int32)  (σ : ab_S), Wire σ → wX4_evaluateReady_j129 a0 a1 Q E Bk x3 σ → V l mdX4_evaluateReady B 1 23 0 0 (ab_End (fun v σ' => Wire σ' ∧ v = none ∧ Q σ') (fun X σ' => Wire σ' ∧ E X σ')) 129 [(0, .ref 11), (1, .int a0), (2, .int a1), (3, .int x3)] [] σ := by
        intro x3  σ hW h
        obtain ⟨v1, ev1⟩ : ∃ z : Int32, z = (x3 + 1) := ⟨_, rfl⟩
        replace h := h v1 ev1
        refine V_iinc 80 3 (v := v1) (lv' := [(3, .int v1), (0, .ref 11), (1, .int a0), (2, .int a1)]) rfl rfl ((in_1 _).trans ev1.symm) (by decide) rfl ?_
        refine V_goto 81 (tgt := 2) rfl (by decide) ?_
        refine V_sub [1, 2, 3, 0] (lv' := [(0, .ref 11), (1, .int a0), (2, .int a1), (3, .int v1)]) rfl ?_
        exact k_Bk v1  σ hW h
      have k_j40 : ∀ (x3 : Int32) (x4 : Int32) (y0 : Int32)  (σ : ab_S), Wire σ → wX4_evaluateReady_j40 a0 a1 Q E Bk x3 x4 y0 σ → V l mdX4_evaluateReady B 1 23 0 0 (ab_End (fun v σ' => Wire σ' ∧ v = none ∧ Q σ') (fun X σ' => Wire σ' ∧ E X σ')) 40 [(0, .ref 11), (1, .int a0), (2, .int a1), (3, .int x3), (4, .int x4)] [.int y0] σ := by
        intro x3 x4 y0  σ hW h
        refine V_istore 25 (lv' := [(5, .int y0), (0, .ref 11), (1, .int a0), (2, .int a1), (3, .int x3), (4, .int x4)]) rfl (by decide) rfl ?_
        refine V_iload 26 0 rfl rfl ?_
        refine V_if_eq 27 (tgt := 129) rfl (by decide) (fun hc => ?_) (fun hc => ?_)
        · replace h := h.1 hc
          refine V_sub [1, 2, 3, 4] (lv' := [(0, .ref 11), (1, .int a0), (2, .int a1), (3, .int x3)]) rfl ?_
          exact k_j129 x3 σ hW h
        · replace h := h.2 hc
          refine V_pc 47 rfl ?_
          refine V_aload_n 28 1 rfl rfl rfl ?_
          obtain ⟨q2, eq2, hq2, h⟩ := h
          refine V_getR 29 7 rfl clX4 flX4_33 (by decide) (wsh hW rfl) (fun _ => rfl) eq2 ?_
          refine V_getR 30 11 rfl clX0 flX4_86 (by decide) (wG hW hq2) (fun _ => rfl) (wG_f11 hW hq2) ?_
          refine V_iload_n 31 2 rfl rfl rfl ?_
          refine V_bipush 32 (v := (32 : Int32)) rfl (by decide) ?_
          refine V_imul 33 rfl ?_
          refine V_pc 58 rfl ?_
          refine V_iload_n 34 4 rfl rfl rfl ?_
          refine V_iadd 35 rfl ?_
          obtain ⟨hin, h⟩ := h
          refine V_iald 36 rfl (wG_a10 hW hq2) hin ?_
          refine V_aload_n 37 1 rfl rfl rfl ?_
          refine V_get (v := .int (σ.2.1 11 9)) 38 9 rfl clX4 flX4_58 (by decide) (wsh hW rfl) (fun _ => rfl) ?_
          refine V_iconst 39 (v := (-1 : Int32)) rfl (by decide) ?_
          refine V_pc 66 rfl ?_
          refine V_ixor 40 rfl ?_
          refine V_iand 41 rfl ?_
          refine V_if_ne 42 (tgt := 129) rfl (by decide) (fun hc => ?_) (fun hc => ?_)
          · replace h := h.1 hc
            refine V_sub [1, 2, 3, 4] (lv' := [(0, .ref 11), (1, .int a0), (2, .int a1), (3, .int x3)]) rfl ?_
            exact k_j129 x3 σ hW h
          · replace h := h.2 hc
            refine V_pc 71 rfl ?_
            refine V_aload_n 43 1 rfl rfl rfl ?_
            refine V_dup 44 rfl rfl ?_
            refine V_get (v := .int (σ.2.1 11 10)) 45 10 rfl clX4 flX4_61 (by decide) (wsh hW rfl) (fun _ => rfl) ?_
            refine V_iload 46 5 rfl rfl ?_
            refine V_ior 47 rfl ?_
            refine V_putI 48 10 rfl clX4 flX4_61 (by decide) (wsh hW rfl) rfl (fun _ _ => rfl) rfl rfl ?_
            refine V_nm (fun σ3 eσ3 => ?_)
            replace h := h σ3 eσ3
            have hW := wire_I eσ3 hW
            refine V_aload_n 49 1 rfl rfl rfl ?_
            refine V_dup 50 rfl rfl ?_
            refine V_get (v := .int (σ3.2.1 11 9)) 51 9 rfl clX4 flX4_58 (by decide) (wsh hW rfl) (fun _ => rfl) ?_
            refine V_iload 52 5 rfl rfl ?_
            refine V_ior 53 rfl ?_
            refine V_pc 90 rfl ?_
            refine V_putI 54 9 rfl clX4 flX4_58 (by decide) (wsh hW rfl) rfl (fun _ _ => rfl) rfl rfl ?_
            refine V_nm (fun σ4 eσ4 => ?_)
            replace h := h σ4 eσ4
            have hW := wire_I eσ4 hW
            refine V_aload_n 55 1 rfl rfl rfl ?_
            refine V_getR 56 4 rfl clX4 flX4_24 (by decide) (wsh hW rfl) (fun _ => rfl) (wrf hW 23 rfl) ?_
            refine V_iload_n 57 2 rfl rfl rfl ?_
            refine V_bipush 58 (v := (32 : Int32)) rfl (by decide) ?_
            refine V_imul 59 rfl ?_
            refine V_pc 101 rfl ?_
            refine V_iload_n 60 4 rfl rfl rfl ?_
            refine V_iadd 61 rfl ?_
            refine V_aload_n 62 1 rfl rfl rfl ?_
            refine V_get (v := .int (σ4.2.1 11 8)) 63 8 rfl clX4 flX4_37 (by decide) (wsh hW rfl) (fun _ => rfl) ?_
            obtain ⟨hin, h⟩ := h
            refine V_iast 64 rfl (wsh hW rfl) hin ?_
            refine V_nm (fun σ5 eσ5 => ?_)
            replace h := h σ5 eσ5
            have hW := wire_I eσ5 hW
            refine V_aload_n 65 1 rfl rfl rfl ?_
            refine V_pc 109 rfl ?_
            refine V_bipush 66 (v := (10 : Int32)) rfl (by decide) ?_
            refine V_bipush 67 (v := (10 : Int32)) rfl (by decide) ?_
            refine V_iload_n 68 4 rfl rfl rfl ?_
            refine V_bipush 69 (v := (8 : Int32)) rfl (by decide) ?_
            refine V_idiv 70 rfl (by decide) ?_
            refine V_imul 71 rfl ?_
            refine V_pc 118 rfl ?_
            refine V_iadd 72 rfl ?_
            refine V_iload_n 73 4 rfl rfl rfl ?_
            refine V_bipush 74 (v := (8 : Int32)) rfl (by decide) ?_
            refine V_irem 75 rfl (by decide) ?_
            refine V_iadd 76 rfl ?_
            refine V_iload_n 77 3 rfl rfl rfl ?_
            refine V_pc 125 rfl ?_
            refine V_iconst 78 (v := (0 : Int32)) rfl (by decide) ?_
            refine V_callV 79 3 (as := [.int (((10 : Int32) + ((10 : Int32) * (x3 / (8 : Int32)))) + (x3 - x3 / (8 : Int32) * (8 : Int32))), .int a1, .int (0 : Int32)]) (rest := []) rfl mlX4_89 yvX4_add rfl rfl clX4 (wsh hW rfl) (by decide) (by decide) (Nat.le_of_ble_eq_true rfl) (by decide) (by decide) (fun B9 => ceX4_add hl B9 hW h) (fun X9 τ9 h9 => VX_out rfl h9) ?_
            rintro v9 σ6 ⟨hW, rfl, h⟩
            refine V_sub [1, 2, 3, 4] (lv' := [(0, .ref 11), (1, .int a0), (2, .int a1), (3, .int x3)]) rfl ?_
            exact k_j129 x3 σ6 hW h
      intro x3  σ hW h
      refine V_iload_n 2 3 rfl rfl rfl ?_
      refine V_bipush 3 (v := (32 : Int32)) rfl (by decide) ?_
      refine V_icmp_ge 4 (tgt := 135) rfl (by decide) (fun hc => ?_) (fun hc => ?_)
      · replace h := h.1 hc
        exact V_vret 82 rfl rfl ⟨hW, rfl, h⟩
      · replace h := h.2 hc
        refine V_pc 8 rfl ?_
        refine V_iconst 5 (v := (1 : Int32)) rfl (by decide) ?_
        refine V_iload_n 6 3 rfl rfl rfl ?_
        refine V_ishl 7 rfl ?_
        refine V_topi (fun v7 ev7 => ?_)
        replace h := h v7 ev7
        refine V_istore 8 (lv' := [(4, .int v7), (0, .ref 11), (1, .int a0), (2, .int a1), (3, .int x3)]) rfl (by decide) rfl ?_
        refine V_aload_n 9 1 rfl rfl rfl ?_
        obtain ⟨q8, eq8, hq8, h⟩ := h
        refine V_getR 10 7 rfl clX4 flX4_33 (by decide) (wsh hW rfl) (fun _ => rfl) eq8 ?_
        refine V_pc 17 rfl ?_
        refine V_getR 11 10 rfl clX0 flX4_83 (by decide) (wG hW hq8) (fun _ => rfl) (wG_f10 hW hq8) ?_
        refine V_iload_n 12 2 rfl rfl rfl ?_
        obtain ⟨hin, h⟩ := h
        refine V_iald 13 rfl (wG_a9 hW hq8) hin ?_
        refine V_aload_n 14 1 rfl rfl rfl ?_
        refine V_get (v := .int (σ.2.1 11 10)) 15 10 rfl clX4 flX4_61 (by decide) (wsh hW rfl) (fun _ => rfl) ?_
        refine V_iconst 16 (v := (-1 : Int32)) rfl (by decide) ?_
        refine V_pc 27 rfl ?_
        refine V_ixor 17 rfl ?_
        refine V_iand 18 rfl ?_
        refine V_iload 19 0 rfl rfl ?_
        refine V_iand 20 rfl ?_
        refine V_if_eq 21 (tgt := 39) rfl (by decide) (fun hc => ?_) (fun hc => ?_)
        · replace h := h.1 hc
          refine V_iconst 24 (v := (0 : Int32)) rfl (by decide) ?_
          refine V_sub [1, 2, 3, 4, 0] (lv' := [(0, .ref 11), (1, .int a0), (2, .int a1), (3, .int x3), (4, .int v7)]) rfl ?_
          exact k_j40 x3 v7 (0 : Int32) σ hW h
        · replace h := h.2 hc
          refine V_pc 35 rfl ?_
          refine V_iconst 22 (v := (1 : Int32)) rfl (by decide) ?_
          refine V_goto 23 (tgt := 40) rfl (by decide) ?_
          refine V_sub [1, 2, 3, 4, 0] (lv' := [(0, .ref 11), (1, .int a0), (2, .int a1), (3, .int x3), (4, .int v7)]) rfl ?_
          exact k_j40 x3 v7 (1 : Int32) σ hW h
    intro n
    induction n with
    | zero => intro x3  σ hW h; exact absurd h id
    | succ n ih => exact step  _ ih
  intro σ hW h
  refine V_iconst 0 (v := (0 : Int32)) rfl (by decide) ?_
  refine V_istore_n 1 (lv' := [(3, .int (0 : Int32)), (0, .ref 11), (1, .int a0), (2, .int a1)]) rfl rfl (by decide) rfl ?_
  refine V_sub [1, 2, 3, 0] (lv' := [(0, .ref 11), (1, .int a0), (2, .int a1), (3, .int (0 : Int32))]) rfl ?_
  obtain ⟨n, h⟩ := h
  exact k_l2 n (0 : Int32) σ hW h

def wX4_visitReady_j140 (a0 : Int32) (a1 : Int32) (Q : ab_S → Prop) (E : String → ab_S → Prop) (Bk : Int32 → ab_S → Prop) (x3 : Int32) (σ : ab_S) : Prop := ∀ v1 : Int32, v1 = (x3 + 1) → Bk v1 σ
def wX4_visitReady_l2_b (a0 : Int32) (a1 : Int32) (Q : ab_S → Prop) (E : String → ab_S → Prop) (Bk : Int32 → ab_S → Prop) (x3 : Int32) (σ : ab_S) : Prop := ∃ q2, σ.2.2.2 11 7 = some q2 ∧ isG q2 ∧ (vp_in a0 30 ∧ ((((σ.2.1 (q2 + 6) a0.toNatClampNeg) < x3) → Q σ) ∧ (¬ ((σ.2.1 (q2 + 6) a0.toNatClampNeg) < x3) → ∃ q3, σ.2.2.2 11 7 = some q3 ∧ isG q3 ∧ (wX0_symbolAt q3 a0 x3 (fun u5 σ4 => vp_in x3 4 ∧ (∀ v6 : Int32, v6 = ((σ4.2.1 18 x3.toNatClampNeg) + (1 : Int32)) → ∀ v7 : Int32, v7 = (x3 * (8 : Int32)) → ∃ q8, σ4.2.2.2 11 7 = some q8 ∧ isG q8 ∧ (vp_in u5 12 ∧ ((((σ4.2.1 (q8 + 17) u5.toNatClampNeg) < v6) → wX4_visitReady_j140 a0 a1 Q E Bk x3 σ4) ∧ (¬ ((σ4.2.1 (q8 + 17) u5.toNatClampNeg) < v6) → ∃ q9, σ4.2.2.2 11 7 = some q9 ∧ isG q9 ∧ (wX0_downs q9 u5 v6 (fun u11 σ10 => ((¬ ((u11 <<< (v7 &&& 31)) &&& ((σ10.2.1 11 9) ^^^ (-1 : Int32))) = 0) → wX4_visitReady_j140 a0 a1 Q E Bk x3 σ10) ∧ (¬ (¬ ((u11 <<< (v7 &&& 31)) &&& ((σ10.2.1 11 9) ^^^ (-1 : Int32))) = 0) → vp_in x3 4 ∧ (∀ σ12 : ab_S, σ12 = ab_I σ10 18 x3.toNatClampNeg v6 → ∃ q13, σ12.2.2.2 11 7 = some q13 ∧ isG q13 ∧ (wX0_ups q13 u5 v6 (fun u15 σ14 => (∀ σ16 : ab_S, σ16 = ab_I σ14 11 9 ((σ12.2.1 11 9) ||| (u15 <<< (v7 &&& 31))) → vp_in ((((a0 * (4 : Int32)) + x3) * (7 : Int32)) + v6) 840 ∧ (∀ σ17 : ab_S, σ17 = ab_I σ16 17 ((((a0 * (4 : Int32)) + x3) * (7 : Int32)) + v6).toNatClampNeg (σ16.2.1 11 8) → wX4_add x3 a1 v6 (fun σ18 => wX4_visitReady_j140 a0 a1 Q E Bk x3 σ18) E σ17))) E σ12)))) E σ4)))))) E σ))))
def wX4_visitReady_l2 (a0 : Int32) (a1 : Int32) (Q : ab_S → Prop) (E : String → ab_S → Prop) : Nat → Int32 → ab_S → Prop
  | 0, _, _ => False
  | n + 1, x3, σ => wX4_visitReady_l2_b a0 a1 Q E (wX4_visitReady_l2 a0 a1 Q E n) x3 σ
def wX4_visitReady (a0 : Int32) (a1 : Int32) (Q : ab_S → Prop) (E : String → ab_S → Prop) (σ : ab_S) : Prop := ∃ n, wX4_visitReady_l2 a0 a1 Q E n (1 : Int32) σ
set_option maxHeartbeats 4000000 in
set_option maxRecDepth 100000 in
theorem ceX4_visitReady {l : Launch} (hl : l.stackTraces = false) (B : Nat) {a0 : Int32} {a1 : Int32}  {Q : ab_S → Prop} {E : String → ab_S → Prop} {σ : ab_S} (hW : Wire σ) (h : wX4_visitReady a0 a1 Q E σ) : ab_Mt l yX4_visitReady mdX4_visitReady B 3 68 0 0 [.ref 11, .int a0, .int a1] σ (fun v σ' => Wire σ' ∧ v = none ∧ Q σ') (fun X σ' => Wire σ' ∧ E X σ') := by
  refine V_met hl ⟨rfl, rfl, by decide⟩ rfl dkX4_visitReady (Nat.le_of_ble_eq_true rfl) ?_
  show V l mdX4_visitReady B 3 68 0 0 (ab_End _ _) 0 [(0, .ref 11), (1, .int a0), (2, .int a1)] [] σ
  revert h hW
  revert σ
  have k_l2 : ∀ (n : Nat) (x3 : Int32)  (σ : ab_S), Wire σ → wX4_visitReady_l2 a0 a1 Q E n x3 σ → V l mdX4_visitReady B 3 68 0 0 (ab_End (fun v σ' => Wire σ' ∧ v = none ∧ Q σ') (fun X σ' => Wire σ' ∧ E X σ')) 2 [(0, .ref 11), (1, .int a0), (2, .int a1), (3, .int x3)] [] σ := by
    have step : ∀ (Bk : Int32 → ab_S → Prop) (k_Bk : ∀ (x3 : Int32)  (σ : ab_S), Wire σ → Bk x3 σ → V l mdX4_visitReady B 3 68 0 0 (ab_End (fun v σ' => Wire σ' ∧ v = none ∧ Q σ') (fun X σ' => Wire σ' ∧ E X σ')) 2 [(0, .ref 11), (1, .int a0), (2, .int a1), (3, .int x3)] [] σ), ∀ (x3 : Int32)  (σ : ab_S), Wire σ → wX4_visitReady_l2_b a0 a1 Q E Bk x3 σ → V l mdX4_visitReady B 3 68 0 0 (ab_End (fun v σ' => Wire σ' ∧ v = none ∧ Q σ') (fun X σ' => Wire σ' ∧ E X σ')) 2 [(0, .ref 11), (1, .int a0), (2, .int a1), (3, .int x3)] [] σ := by
      intro Bk k_Bk
      have k_j140 : ∀ (x3 : Int32)  (σ : ab_S), Wire σ → wX4_visitReady_j140 a0 a1 Q E Bk x3 σ → V l mdX4_visitReady B 3 68 0 0 (ab_End (fun v σ' => Wire σ' ∧ v = none ∧ Q σ') (fun X σ' => Wire σ' ∧ E X σ')) 140 [(0, .ref 11), (1, .int a0), (2, .int a1), (3, .int x3)] [] σ := by
        intro x3  σ hW h
        obtain ⟨v1, ev1⟩ : ∃ z : Int32, z = (x3 + 1) := ⟨_, rfl⟩
        replace h := h v1 ev1
        refine V_iinc 82 3 (v := v1) (lv' := [(3, .int v1), (0, .ref 11), (1, .int a0), (2, .int a1)]) rfl rfl ((in_1 _).trans ev1.symm) (by decide) rfl ?_
        refine V_goto 83 (tgt := 2) rfl (by decide) ?_
        refine V_sub [1, 2, 3, 0] (lv' := [(0, .ref 11), (1, .int a0), (2, .int a1), (3, .int v1)]) rfl ?_
        exact k_Bk v1  σ hW h
      intro x3  σ hW h
      refine V_iload_n 2 3 rfl rfl rfl ?_
      refine V_aload_n 3 0 rfl rfl rfl ?_
      obtain ⟨q2, eq2, hq2, h⟩ := h
      refine V_getR 4 7 rfl clX4 flX4_33 (by decide) (wsh hW rfl) (fun _ => rfl) eq2 ?_
      refine V_getR 5 7 rfl clX0 flX4_93 (by decide) (wG hW hq2) (fun _ => rfl) (wG_f7 hW hq2) ?_
      refine V_iload_n 6 1 rfl rfl rfl ?_
      obtain ⟨hin, h⟩ := h
      refine V_iald 7 rfl (wG_a6 hW hq2) hin ?_
      refine V_pc 12 rfl ?_
      refine V_icmp_gt 8 (tgt := 146) rfl (by decide) (fun hc => ?_) (fun hc => ?_)
      · replace h := h.1 hc
        exact V_vret 84 rfl rfl ⟨hW, rfl, h⟩
      · replace h := h.2 hc
        refine V_pc 15 rfl ?_
        refine V_aload_n 9 0 rfl rfl rfl ?_
        obtain ⟨q3, eq3, hq3, h⟩ := h
        refine V_getR 10 7 rfl clX4 flX4_33 (by decide) (wsh hW rfl) (fun _ => rfl) eq3 ?_
        refine V_iload_n 11 1 rfl rfl rfl ?_
        refine V_iload_n 12 3 rfl rfl rfl ?_
        refine V_callV 13 2 (as := [.int a0, .int x3]) (rest := []) rfl mlX4_54 yvX0_symbolAt rfl rfl clX0 (wG hW hq3) (by decide) (by decide) (Nat.le_of_ble_eq_true rfl) (by decide) (by decide) (fun B9 => ceX0_symbolAt hl B9 hq3 hW h) (fun X9 τ9 h9 => VX_out rfl h9) ?_
        rintro v9 σ4 ⟨hW, u5, rfl, h⟩
        refine V_istore 14 (lv' := [(4, .int u5), (0, .ref 11), (1, .int a0), (2, .int a1), (3, .int x3)]) rfl (by decide) rfl ?_
        refine V_aload_n 15 1 rfl rfl rfl ?_
        refine V_getR 16 6 rfl clX4 flX4_30 (by decide) (wsh hW rfl) (fun _ => rfl) (wrf hW 25 rfl) ?_
        refine V_iload_n 17 4 rfl rfl rfl ?_
        obtain ⟨hin, h⟩ := h
        refine V_iald 18 rfl (wsh hW rfl) hin ?_
        refine V_pc 32 rfl ?_
        refine V_iconst 19 (v := (1 : Int32)) rfl (by decide) ?_
        refine V_iadd 20 rfl ?_
        refine V_topi (fun v6 ev6 => ?_)
        replace h := h v6 ev6
        refine V_istore 21 (lv' := [(5, .int v6), (4, .int u5), (0, .ref 11), (1, .int a0), (2, .int a1), (3, .int x3)]) rfl (by decide) rfl ?_
        refine V_iload_n 22 5 rfl rfl rfl ?_
        refine V_bipush 23 (v := (8 : Int32)) rfl (by decide) ?_
        refine V_imul 24 rfl ?_
        refine V_pc 40 rfl ?_
        refine V_topi (fun v7 ev7 => ?_)
        replace h := h v7 ev7
        refine V_istore 25 (lv' := [(6, .int v7), (5, .int v6), (4, .int u5), (0, .ref 11), (1, .int a0), (2, .int a1), (3, .int x3)]) rfl (by decide) rfl ?_
        refine V_iload 26 1 rfl rfl ?_
        refine V_aload_n 27 3 rfl rfl rfl ?_
        obtain ⟨q8, eq8, hq8, h⟩ := h
        refine V_getR 28 7 rfl clX4 flX4_33 (by decide) (wsh hW rfl) (fun _ => rfl) eq8 ?_
        refine V_getR 29 19 rfl clX0 flX4_70 (by decide) (wG hW hq8) (fun _ => rfl) (wG_f19 hW hq8) ?_
        refine V_iload 30 2 rfl rfl ?_
        refine V_pc 53 rfl ?_
        obtain ⟨hin, h⟩ := h
        refine V_iald 31 rfl (wG_a17 hW hq8) hin ?_
        refine V_icmp_gt 32 (tgt := 140) rfl (by decide) (fun hc => ?_) (fun hc => ?_)
        · replace h := h.1 hc
          refine V_sub [3, 4, 5, 6] (lv' := [(0, .ref 11), (1, .int a0), (2, .int a1), (3, .int x3)]) rfl ?_
          exact k_j140 x3 σ4 hW h
        · replace h := h.2 hc
          refine V_pc 57 rfl ?_
          refine V_aload_n 33 3 rfl rfl rfl ?_
          obtain ⟨q9, eq9, hq9, h⟩ := h
          refine V_getR 34 7 rfl clX4 flX4_33 (by decide) (wsh hW rfl) (fun _ => rfl) eq9 ?_
          refine V_iload 35 2 rfl rfl ?_
          refine V_iload 36 1 rfl rfl ?_
          refine V_callV 37 2 (as := [.int u5, .int v6]) (rest := []) rfl mlX4_73 yvX0_downs rfl rfl clX0 (wG hW hq9) (by decide) (by decide) (Nat.le_of_ble_eq_true rfl) (by decide) (by decide) (fun B9 => ceX0_downs hl B9 hq9 hW h) (fun X9 τ9 h9 => VX_out rfl h9) ?_
          rintro v9 σ10 ⟨hW, u11, rfl, h⟩
          refine V_iload 38 0 rfl rfl ?_
          refine V_ishl 39 rfl ?_
          refine V_aload_n 40 3 rfl rfl rfl ?_
          refine V_get (v := .int (σ10.2.1 11 9)) 41 9 rfl clX4 flX4_58 (by decide) (wsh hW rfl) (fun _ => rfl) ?_
          refine V_iconst 42 (v := (-1 : Int32)) rfl (by decide) ?_
          refine V_pc 76 rfl ?_
          refine V_ixor 43 rfl ?_
          refine V_iand 44 rfl ?_
          refine V_if_ne 45 (tgt := 140) rfl (by decide) (fun hc => ?_) (fun hc => ?_)
          · replace h := h.1 hc
            refine V_sub [3, 4, 5, 6] (lv' := [(0, .ref 11), (1, .int a0), (2, .int a1), (3, .int x3)]) rfl ?_
            exact k_j140 x3 σ10 hW h
          · replace h := h.2 hc
            refine V_pc 81 rfl ?_
            refine V_aload_n 46 3 rfl rfl rfl ?_
            refine V_getR 47 6 rfl clX4 flX4_30 (by decide) (wsh hW rfl) (fun _ => rfl) (wrf hW 25 rfl) ?_
            refine V_iload_n 48 6 rfl rfl rfl ?_
            refine V_iload 49 1 rfl rfl ?_
            obtain ⟨hin, h⟩ := h
            refine V_iast 50 rfl (wsh hW rfl) hin ?_
            refine V_nm (fun σ12 eσ12 => ?_)
            replace h := h σ12 eσ12
            have hW := wire_I eσ12 hW
            refine V_aload_n 51 3 rfl rfl rfl ?_
            refine V_pc 90 rfl ?_
            refine V_dup 52 rfl rfl ?_
            refine V_get (v := .int (σ12.2.1 11 9)) 53 9 rfl clX4 flX4_58 (by decide) (wsh hW rfl) (fun _ => rfl) ?_
            refine V_aload_n 54 3 rfl rfl rfl ?_
            obtain ⟨q13, eq13, hq13, h⟩ := h
            refine V_getR 55 7 rfl clX4 flX4_33 (by decide) (wsh hW rfl) (fun _ => rfl) eq13 ?_
            refine V_iload 56 2 rfl rfl ?_
            refine V_iload 57 1 rfl rfl ?_
            refine V_pc 102 rfl ?_
            refine V_callV 58 2 (as := [.int u5, .int v6]) (rest := [.int (σ12.2.1 11 9), .ref 11]) rfl mlX4_96 yvX0_ups rfl rfl clX0 (wG hW hq13) (by decide) (by decide) (Nat.le_of_ble_eq_true rfl) (by decide) (by decide) (fun B9 => ceX0_ups hl B9 hq13 hW h) (fun X9 τ9 h9 => VX_out rfl h9) ?_
            rintro v9 σ14 ⟨hW, u15, rfl, h⟩
            refine V_iload 59 0 rfl rfl ?_
            refine V_ishl 60 rfl ?_
            refine V_ior 61 rfl ?_
            refine V_putI 62 9 rfl clX4 flX4_58 (by decide) (wsh hW rfl) rfl (fun _ _ => rfl) rfl rfl ?_
            refine V_nm (fun σ16 eσ16 => ?_)
            replace h := h σ16 eσ16
            have hW := wire_I eσ16 hW
            refine V_aload_n 63 3 rfl rfl rfl ?_
            refine V_getR 64 5 rfl clX4 flX4_27 (by decide) (wsh hW rfl) (fun _ => rfl) (wrf hW 24 rfl) ?_
            refine V_iload_n 65 4 rfl rfl rfl ?_
            refine V_iconst 66 (v := (4 : Int32)) rfl (by decide) ?_
            refine V_imul 67 rfl ?_
            refine V_pc 119 rfl ?_
            refine V_iload_n 68 6 rfl rfl rfl ?_
            refine V_iadd 69 rfl ?_
            refine V_bipush 70 (v := (7 : Int32)) rfl (by decide) ?_
            refine V_imul 71 rfl ?_
            refine V_iload 72 1 rfl rfl ?_
            refine V_iadd 73 rfl ?_
            refine V_pc 127 rfl ?_
            refine V_aload_n 74 3 rfl rfl rfl ?_
            refine V_get (v := .int (σ16.2.1 11 8)) 75 8 rfl clX4 flX4_37 (by decide) (wsh hW rfl) (fun _ => rfl) ?_
            obtain ⟨hin, h⟩ := h
            refine V_iast 76 rfl (wsh hW rfl) hin ?_
            refine V_nm (fun σ17 eσ17 => ?_)
            replace h := h σ17 eσ17
            have hW := wire_I eσ17 hW
            refine V_aload_n 77 3 rfl rfl rfl ?_
            refine V_iload_n 78 6 rfl rfl rfl ?_
            refine V_iload_n 79 5 rfl rfl rfl ?_
            refine V_pc 135 rfl ?_
            refine V_iload 80 1 rfl rfl ?_
            refine V_callV 81 3 (as := [.int x3, .int a1, .int v6]) (rest := []) rfl mlX4_89 yvX4_add rfl rfl clX4 (wsh hW rfl) (by decide) (by decide) (Nat.le_of_ble_eq_true rfl) (by decide) (by decide) (fun B9 => ceX4_add hl B9 hW h) (fun X9 τ9 h9 => VX_out rfl h9) ?_
            rintro v9 σ18 ⟨hW, rfl, h⟩
            refine V_sub [3, 4, 5, 6] (lv' := [(0, .ref 11), (1, .int a0), (2, .int a1), (3, .int x3)]) rfl ?_
            exact k_j140 x3 σ18 hW h
    intro n
    induction n with
    | zero => intro x3  σ hW h; exact absurd h id
    | succ n ih => exact step  _ ih
  intro σ hW h
  refine V_iconst 0 (v := (1 : Int32)) rfl (by decide) ?_
  refine V_istore_n 1 (lv' := [(3, .int (1 : Int32)), (0, .ref 11), (1, .int a0), (2, .int a1)]) rfl rfl (by decide) rfl ?_
  refine V_sub [1, 2, 3, 0] (lv' := [(0, .ref 11), (1, .int a0), (2, .int a1), (3, .int (1 : Int32))]) rfl ?_
  obtain ⟨n, h⟩ := h
  exact k_l2 n (1 : Int32) σ hW h
