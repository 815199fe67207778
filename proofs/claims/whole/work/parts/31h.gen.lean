def wX12_depends_j55 (a0 : Int32) (a1 : Int32) (a2 : Int32) (Q : Int32 → ab_S → Prop) (E : String → ab_S → Prop) (y0 : Int32) (y1 : Int32) (σ : ab_S) : Prop := wX12_refuse y1 y0 (0 : Int32) (fun u2 σ1 => ((u2 = 0) → vp_in (((8 : Int32) * a0) + a1) 104 ∧ (((¬ (lg_cmp (((σ1.2.2.1 110 (((8 : Int32) * a0) + a1).toNatClampNeg) >>> (a2.toInt64 &&& 63)) &&& (1 : Int64)) (1 : Int64)) = 0) → Q (0 : Int32) σ1) ∧ (¬ (¬ (lg_cmp (((σ1.2.2.1 110 (((8 : Int32) * a0) + a1).toNatClampNeg) >>> (a2.toInt64 &&& 63)) &&& (1 : Int64)) (1 : Int64)) = 0) → Q (1 : Int32) σ1))) ∧ (¬ (u2 = 0) → Q (0 : Int32) σ1)) E σ
def wX12_depends_j45 (a0 : Int32) (a1 : Int32) (a2 : Int32) (Q : Int32 → ab_S → Prop) (E : String → ab_S → Prop) (x4 : Int32) (y0 : Int32) (σ : ab_S) : Prop := ((¬ x4 = 0) → wX12_depends_j55 a0 a1 a2 Q E (0 : Int32) y0 σ) ∧ (¬ (¬ x4 = 0) → wX12_depends_j55 a0 a1 a2 Q E (1 : Int32) y0 σ)
def wX12_depends_j30 (a0 : Int32) (a1 : Int32) (a2 : Int32) (Q : Int32 → ab_S → Prop) (E : String → ab_S → Prop) (y0 : Int32) (σ : ab_S) : Prop := ((¬ (σ.2.1 92 4) = 0) → wX12_depends_j45 a0 a1 a2 Q E y0 (0 : Int32) σ) ∧ (¬ (¬ (σ.2.1 92 4) = 0) → wX12_depends_j45 a0 a1 a2 Q E y0 (1 : Int32) σ)
def wX12_depends_j29 (a0 : Int32) (a1 : Int32) (a2 : Int32) (Q : Int32 → ab_S → Prop) (E : String → ab_S → Prop)  (σ : ab_S) : Prop := wX12_depends_j30 a0 a1 a2 Q E (0 : Int32) σ
def wX12_depends (a0 : Int32) (a1 : Int32) (a2 : Int32) (Q : Int32 → ab_S → Prop) (E : String → ab_S → Prop) (σ : ab_S) : Prop := (((σ.2.1 92 4) = 0) → wX12_depends_j29 a0 a1 a2 Q E σ) ∧ (¬ ((σ.2.1 92 4) = 0) → wX12_isAttribute a0 a1 (fun u4 σ3 => ((u4 = 0) → wX12_depends_j29 a0 a1 a2 Q E σ3) ∧ (¬ (u4 = 0) → wX12_isAttribute a0 a2 (fun u6 σ5 => ((u6 = 0) → wX12_depends_j29 a0 a1 a2 Q E σ5) ∧ (¬ (u6 = 0) → wX12_depends_j30 a0 a1 a2 Q E (1 : Int32) σ5)) E σ3)) E σ)
set_option maxHeartbeats 4000000 in
set_option maxRecDepth 100000 in
theorem ceX12_depends {l : Launch} (hl : l.stackTraces = false) (B : Nat) {a0 : Int32} {a1 : Int32} {a2 : Int32}  {Q : Int32 → ab_S → Prop} {E : String → ab_S → Prop} {σ : ab_S} (hW : Wire σ) (h : wX12_depends a0 a1 a2 Q E σ) : ab_Mt l yX12_depends mdX12_depends B 2 44 0 0 [.ref 92, .int a0, .int a1, .int a2] σ (fun v σ' => Wire σ' ∧ ∃ r : Int32, v = some (.int r) ∧ Q r σ') (fun X σ' => Wire σ' ∧ E X σ') := by
  refine V_met hl ⟨rfl, rfl, by decide⟩ rfl dkX12_depends (Nat.le_of_ble_eq_true rfl) ?_
  show V l mdX12_depends B 2 44 0 0 (ab_End _ _) 0 [(0, .ref 92), (1, .int a0), (2, .int a1), (3, .int a2)] [] σ
  revert h hW
  revert σ
  have k_j55 : ∀ (y0 : Int32) (y1 : Int32)  (σ : ab_S), Wire σ → wX12_depends_j55 a0 a1 a2 Q E y0 y1 σ → V l mdX12_depends B 2 44 0 0 (ab_End (fun v σ' => Wire σ' ∧ ∃ r : Int32, v = some (.int r) ∧ Q r σ') (fun X σ' => Wire σ' ∧ E X σ')) 55 [(0, .ref 92), (1, .int a0), (2, .int a1), (3, .int a2)] [.int y0, .int y1, .ref 92] σ := by
    intro y0 y1  σ hW h
    refine V_iconst 29 (v := (0 : Int32)) rfl (by decide) ?_
    refine V_callV 30 3 (as := [.int y1, .int y0, .int (0 : Int32)]) (rest := []) rfl mlX12_245 yvX12_refuse rfl rfl clX12 (wsh hW rfl) (by decide) (by decide) (Nat.le_of_ble_eq_true rfl) (by decide) (by decide) (fun B9 => ceX12_refuse hl B9 hW h) (fun X9 τ9 h9 => VX_out rfl h9) ?_
    rintro v9 σ1 ⟨hW, u2, rfl, h⟩
    refine V_if_eq 31 (tgt := 64) rfl (by decide) (fun hc => ?_) (fun hc => ?_)
    · replace h := h.1 hc
      refine V_aload_n 34 0 rfl rfl rfl ?_
      refine V_getR 35 25 rfl clX12 flX12_63 (by decide) (wsh hW rfl) (fun _ => rfl) (wrf hW 111 rfl) ?_
      refine V_bipush 36 (v := (8 : Int32)) rfl (by decide) ?_
      refine V_iload_n 37 1 rfl rfl rfl ?_
      refine V_imul 38 rfl ?_
      refine V_iload_n 39 2 rfl rfl rfl ?_
      refine V_pc 73 rfl ?_
      refine V_iadd 40 rfl ?_
      obtain ⟨hin, h⟩ := h
      refine V_lald 41 rfl (wsh hW rfl) hin ?_
      refine V_iload_n 42 3 rfl rfl rfl ?_
      refine V_lshr 43 rfl ?_
      refine V_lconst 44 (v := (1 : Int64)) rfl (by decide) ?_
      refine V_land 45 rfl ?_
      refine V_pc 79 rfl ?_
      refine V_lconst 46 (v := (1 : Int64)) rfl (by decide) ?_
      refine V_lcmp 47 rfl ?_
      refine V_if_ne 48 (tgt := 88) rfl (by decide) (fun hc => ?_) (fun hc => ?_)
      · replace h := h.1 hc
        refine V_iconst 51 (v := (0 : Int32)) rfl (by decide) ?_
        exact V_zret 52 rfl rfl rfl ⟨hW, _, rfl, h⟩
      · replace h := h.2 hc
        refine V_pc 84 rfl ?_
        refine V_iconst 49 (v := (1 : Int32)) rfl (by decide) ?_
        refine V_goto 50 (tgt := 89) rfl (by decide) ?_
        exact V_zret 52 rfl rfl rfl ⟨hW, _, rfl, h⟩
    · replace h := h.2 hc
      refine V_pc 62 rfl ?_
      refine V_iconst 32 (v := (0 : Int32)) rfl (by decide) ?_
      exact V_zret 33 rfl rfl rfl ⟨hW, _, rfl, h⟩
  have k_j45 : ∀ (x4 : Int32) (y0 : Int32)  (σ : ab_S), Wire σ → wX12_depends_j45 a0 a1 a2 Q E x4 y0 σ → V l mdX12_depends B 2 44 0 0 (ab_End (fun v σ' => Wire σ' ∧ ∃ r : Int32, v = some (.int r) ∧ Q r σ') (fun X σ' => Wire σ' ∧ E X σ')) 45 [(0, .ref 92), (1, .int a0), (2, .int a1), (3, .int a2), (4, .int x4)] [.int y0, .ref 92] σ := by
    intro x4 y0  σ hW h
    refine V_iload 24 4 rfl rfl ?_
    refine V_if_ne 25 (tgt := 54) rfl (by decide) (fun hc => ?_) (fun hc => ?_)
    · replace h := h.1 hc
      refine V_iconst 28 (v := (0 : Int32)) rfl (by decide) ?_
      refine V_sub [0, 1, 2, 3] (lv' := [(0, .ref 92), (1, .int a0), (2, .int a1), (3, .int a2)]) rfl ?_
      exact k_j55 (0 : Int32) y0 σ hW h
    · replace h := h.2 hc
      refine V_pc 50 rfl ?_
      refine V_iconst 26 (v := (1 : Int32)) rfl (by decide) ?_
      refine V_goto 27 (tgt := 55) rfl (by decide) ?_
      refine V_sub [0, 1, 2, 3] (lv' := [(0, .ref 92), (1, .int a0), (2, .int a1), (3, .int a2)]) rfl ?_
      exact k_j55 (1 : Int32) y0 σ hW h
  have k_j30 : ∀ (y0 : Int32)  (σ : ab_S), Wire σ → wX12_depends_j30 a0 a1 a2 Q E y0 σ → V l mdX12_depends B 2 44 0 0 (ab_End (fun v σ' => Wire σ' ∧ ∃ r : Int32, v = some (.int r) ∧ Q r σ') (fun X σ' => Wire σ' ∧ E X σ')) 30 [(0, .ref 92), (1, .int a0), (2, .int a1), (3, .int a2)] [.int y0] σ := by
    intro y0  σ hW h
    refine V_istore 16 (lv' := [(4, .int y0), (0, .ref 92), (1, .int a0), (2, .int a1), (3, .int a2)]) rfl (by decide) rfl ?_
    refine V_aload_n 17 1 rfl rfl rfl ?_
    refine V_aload_n 18 1 rfl rfl rfl ?_
    refine V_get (v := .int (σ.2.1 92 4)) 19 4 rfl clX12 flX12_452 (by decide) (wsh hW rfl) (fun _ => rfl) ?_
    refine V_if_ne 20 (tgt := 44) rfl (by decide) (fun hc => ?_) (fun hc => ?_)
    · replace h := h.1 hc
      refine V_iconst 23 (v := (0 : Int32)) rfl (by decide) ?_
      refine V_sub [1, 2, 3, 4, 0] (lv' := [(0, .ref 92), (1, .int a0), (2, .int a1), (3, .int a2), (4, .int y0)]) rfl ?_
      exact k_j45 y0 (0 : Int32) σ hW h
    · replace h := h.2 hc
      refine V_pc 40 rfl ?_
      refine V_iconst 21 (v := (1 : Int32)) rfl (by decide) ?_
      refine V_goto 22 (tgt := 45) rfl (by decide) ?_
      refine V_sub [1, 2, 3, 4, 0] (lv' := [(0, .ref 92), (1, .int a0), (2, .int a1), (3, .int a2), (4, .int y0)]) rfl ?_
      exact k_j45 y0 (1 : Int32) σ hW h
  have k_j29 : ∀   (σ : ab_S), Wire σ → wX12_depends_j29 a0 a1 a2 Q E  σ → V l mdX12_depends B 2 44 0 0 (ab_End (fun v σ' => Wire σ' ∧ ∃ r : Int32, v = some (.int r) ∧ Q r σ') (fun X σ' => Wire σ' ∧ E X σ')) 29 [(0, .ref 92), (1, .int a0), (2, .int a1), (3, .int a2)] [] σ := by
    intro   σ hW h
    refine V_iconst 15 (v := (0 : Int32)) rfl (by decide) ?_
    exact k_j30 (0 : Int32) σ hW h
  intro σ hW h
  refine V_aload_n 0 0 rfl rfl rfl ?_
  refine V_get (v := .int (σ.2.1 92 4)) 1 4 rfl clX12 flX12_452 (by decide) (wsh hW rfl) (fun _ => rfl) ?_
  refine V_if_eq 2 (tgt := 29) rfl (by decide) (fun hc => ?_) (fun hc => ?_)
  · replace h := h.1 hc
    exact k_j29 σ hW h
  · replace h := h.2 hc
    refine V_pc 7 rfl ?_
    refine V_aload_n 3 0 rfl rfl rfl ?_
    refine V_iload_n 4 1 rfl rfl rfl ?_
    refine V_iload_n 5 2 rfl rfl rfl ?_
    refine V_callV 6 2 (as := [.int a0, .int a1]) (rest := []) rfl mlX12_483 yvX12_isAttribute rfl rfl clX12 (wsh hW rfl) (by decide) (by decide) (Nat.le_of_ble_eq_true rfl) (by decide) (by decide) (fun B9 => ceX12_isAttribute hl B9 hW h) (fun X9 τ9 h9 => VX_out rfl h9) ?_
    rintro v9 σ3 ⟨hW, u4, rfl, h⟩
    refine V_if_eq 7 (tgt := 29) rfl (by decide) (fun hc => ?_) (fun hc => ?_)
    · replace h := h.1 hc
      exact k_j29 σ3 hW h
    · replace h := h.2 hc
      refine V_pc 16 rfl ?_
      refine V_aload_n 8 0 rfl rfl rfl ?_
      refine V_iload_n 9 1 rfl rfl rfl ?_
      refine V_iload_n 10 3 rfl rfl rfl ?_
      refine V_callV 11 2 (as := [.int a0, .int a2]) (rest := []) rfl mlX12_483 yvX12_isAttribute rfl rfl clX12 (wsh hW rfl) (by decide) (by decide) (Nat.le_of_ble_eq_true rfl) (by decide) (by decide) (fun B9 => ceX12_isAttribute hl B9 hW h) (fun X9 τ9 h9 => VX_out rfl h9) ?_
      rintro v9 σ5 ⟨hW, u6, rfl, h⟩
      refine V_if_eq 12 (tgt := 29) rfl (by decide) (fun hc => ?_) (fun hc => ?_)
      · replace h := h.1 hc
        exact k_j29 σ5 hW h
      · replace h := h.2 hc
        refine V_pc 25 rfl ?_
        refine V_iconst 13 (v := (1 : Int32)) rfl (by decide) ?_
        refine V_goto 14 (tgt := 30) rfl (by decide) ?_
        exact k_j30 (1 : Int32) σ5 hW h

def wX12_level_j63 (a0 : Int32) (a1 : Int32) (Q : Int32 → ab_S → Prop) (E : String → ab_S → Prop) (y0 : Int32) (y1 : Int32) (σ : ab_S) : Prop := wX12_refuse y1 y0 (0 : Int32) (fun u2 σ1 => ((u2 = 0) → ((0 ≤ a1) → vp_in (((8 : Int32) * a0) + a1) 104 ∧ (Q (σ1.2.1 111 (((8 : Int32) * a0) + a1).toNatClampNeg) σ1)) ∧ (¬ (0 ≤ a1) → vp_in a0 13 ∧ (Q (σ1.2.1 112 a0.toNatClampNeg) σ1))) ∧ (¬ (u2 = 0) → Q (0 : Int32) σ1)) E σ
def wX12_level_j54 (a0 : Int32) (a1 : Int32) (Q : Int32 → ab_S → Prop) (E : String → ab_S → Prop) (x3 : Int32) (y0 : Int32) (σ : ab_S) : Prop := ((¬ x3 = 0) → wX12_level_j63 a0 a1 Q E (0 : Int32) y0 σ) ∧ (¬ (¬ x3 = 0) → wX12_level_j63 a0 a1 Q E (1 : Int32) y0 σ)
def wX12_level_j40 (a0 : Int32) (a1 : Int32) (Q : Int32 → ab_S → Prop) (E : String → ab_S → Prop) (y0 : Int32) (σ : ab_S) : Prop := ((¬ (σ.2.1 92 4) = 0) → wX12_level_j54 a0 a1 Q E y0 (0 : Int32) σ) ∧ (¬ (¬ (σ.2.1 92 4) = 0) → wX12_level_j54 a0 a1 Q E y0 (1 : Int32) σ)
def wX12_level_j35 (a0 : Int32) (a1 : Int32) (Q : Int32 → ab_S → Prop) (E : String → ab_S → Prop)  (σ : ab_S) : Prop := wX12_level_j40 a0 a1 Q E (1 : Int32) σ
def wX12_level_j39 (a0 : Int32) (a1 : Int32) (Q : Int32 → ab_S → Prop) (E : String → ab_S → Prop)  (σ : ab_S) : Prop := wX12_level_j40 a0 a1 Q E (0 : Int32) σ
def wX12_level (a0 : Int32) (a1 : Int32) (Q : Int32 → ab_S → Prop) (E : String → ab_S → Prop) (σ : ab_S) : Prop := (((σ.2.1 92 4) = 0) → wX12_level_j39 a0 a1 Q E σ) ∧ (¬ ((σ.2.1 92 4) = 0) → wX12_in a0 (0 : Int32) ((σ.2.1 92 9) - (1 : Int32)) (fun u4 σ3 => ((u4 = 0) → wX12_level_j39 a0 a1 Q E σ3) ∧ (¬ (u4 = 0) → ((a1 = (-1 : Int32)) → wX12_level_j35 a0 a1 Q E σ3) ∧ (¬ (a1 = (-1 : Int32)) → wX12_isAttribute a0 a1 (fun u6 σ5 => ((u6 = 0) → wX12_level_j39 a0 a1 Q E σ5) ∧ (¬ (u6 = 0) → wX12_level_j35 a0 a1 Q E σ5)) E σ3))) E σ)
set_option maxHeartbeats 4000000 in
set_option maxRecDepth 100000 in
theorem ceX12_level {l : Launch} (hl : l.stackTraces = false) (B : Nat) {a0 : Int32} {a1 : Int32}  {Q : Int32 → ab_S → Prop} {E : String → ab_S → Prop} {σ : ab_S} (hW : Wire σ) (h : wX12_level a0 a1 Q E σ) : ab_Mt l yX12_level mdX12_level B 2 44 0 0 [.ref 92, .int a0, .int a1] σ (fun v σ' => Wire σ' ∧ ∃ r : Int32, v = some (.int r) ∧ Q r σ') (fun X σ' => Wire σ' ∧ E X σ') := by
  refine V_met hl ⟨rfl, rfl, by decide⟩ rfl dkX12_level (Nat.le_of_ble_eq_true rfl) ?_
  show V l mdX12_level B 2 44 0 0 (ab_End _ _) 0 [(0, .ref 92), (1, .int a0), (2, .int a1)] [] σ
  revert h hW
  revert σ
  have k_j63 : ∀ (y0 : Int32) (y1 : Int32)  (σ : ab_S), Wire σ → wX12_level_j63 a0 a1 Q E y0 y1 σ → V l mdX12_level B 2 44 0 0 (ab_End (fun v σ' => Wire σ' ∧ ∃ r : Int32, v = some (.int r) ∧ Q r σ') (fun X σ' => Wire σ' ∧ E X σ')) 63 [(0, .ref 92), (1, .int a0), (2, .int a1)] [.int y0, .int y1, .ref 92] σ := by
    intro y0 y1  σ hW h
    refine V_iconst 35 (v := (0 : Int32)) rfl (by decide) ?_
    refine V_callV 36 3 (as := [.int y1, .int y0, .int (0 : Int32)]) (rest := []) rfl mlX12_245 yvX12_refuse rfl rfl clX12 (wsh hW rfl) (by decide) (by decide) (Nat.le_of_ble_eq_true rfl) (by decide) (by decide) (fun B9 => ceX12_refuse hl B9 hW h) (fun X9 τ9 h9 => VX_out rfl h9) ?_
    rintro v9 σ1 ⟨hW, u2, rfl, h⟩
    refine V_if_eq 37 (tgt := 72) rfl (by decide) (fun hc => ?_) (fun hc => ?_)
    · replace h := h.1 hc
      refine V_iload_n 40 2 rfl rfl rfl ?_
      refine V_if_ge 41 (tgt := 85) rfl (by decide) (fun hc => ?_) (fun hc => ?_)
      · replace h := h.1 hc
        refine V_aload_n 47 0 rfl rfl rfl ?_
        refine V_getR 48 26 rfl clX12 flX12_66 (by decide) (wsh hW rfl) (fun _ => rfl) (wrf hW 112 rfl) ?_
        refine V_bipush 49 (v := (8 : Int32)) rfl (by decide) ?_
        refine V_iload_n 50 1 rfl rfl rfl ?_
        refine V_imul 51 rfl ?_
        refine V_iload_n 52 2 rfl rfl rfl ?_
        refine V_pc 94 rfl ?_
        refine V_iadd 53 rfl ?_
        obtain ⟨hin, h⟩ := h
        refine V_iald 54 rfl (wsh hW rfl) hin ?_
        exact V_iret 55 rfl rfl ⟨hW, _, rfl, h⟩
      · replace h := h.2 hc
        refine V_pc 76 rfl ?_
        refine V_aload_n 42 0 rfl rfl rfl ?_
        refine V_getR 43 27 rfl clX12 flX12_69 (by decide) (wsh hW rfl) (fun _ => rfl) (wrf hW 113 rfl) ?_
        refine V_iload_n 44 1 rfl rfl rfl ?_
        obtain ⟨hin, h⟩ := h
        refine V_iald 45 rfl (wsh hW rfl) hin ?_
        refine V_goto 46 (tgt := 96) rfl (by decide) ?_
        exact V_iret 55 rfl rfl ⟨hW, _, rfl, h⟩
    · replace h := h.2 hc
      refine V_pc 70 rfl ?_
      refine V_iconst 38 (v := (0 : Int32)) rfl (by decide) ?_
      exact V_iret 39 rfl rfl ⟨hW, _, rfl, h⟩
  have k_j54 : ∀ (x3 : Int32) (y0 : Int32)  (σ : ab_S), Wire σ → wX12_level_j54 a0 a1 Q E x3 y0 σ → V l mdX12_level B 2 44 0 0 (ab_End (fun v σ' => Wire σ' ∧ ∃ r : Int32, v = some (.int r) ∧ Q r σ') (fun X σ' => Wire σ' ∧ E X σ')) 54 [(0, .ref 92), (1, .int a0), (2, .int a1), (3, .int x3)] [.int y0, .ref 92] σ := by
    intro x3 y0  σ hW h
    refine V_iload_n 30 3 rfl rfl rfl ?_
    refine V_if_ne 31 (tgt := 62) rfl (by decide) (fun hc => ?_) (fun hc => ?_)
    · replace h := h.1 hc
      refine V_iconst 34 (v := (0 : Int32)) rfl (by decide) ?_
      refine V_sub [0, 1, 2] (lv' := [(0, .ref 92), (1, .int a0), (2, .int a1)]) rfl ?_
      exact k_j63 (0 : Int32) y0 σ hW h
    · replace h := h.2 hc
      refine V_pc 58 rfl ?_
      refine V_iconst 32 (v := (1 : Int32)) rfl (by decide) ?_
      refine V_goto 33 (tgt := 63) rfl (by decide) ?_
      refine V_sub [0, 1, 2] (lv' := [(0, .ref 92), (1, .int a0), (2, .int a1)]) rfl ?_
      exact k_j63 (1 : Int32) y0 σ hW h
  have k_j40 : ∀ (y0 : Int32)  (σ : ab_S), Wire σ → wX12_level_j40 a0 a1 Q E y0 σ → V l mdX12_level B 2 44 0 0 (ab_End (fun v σ' => Wire σ' ∧ ∃ r : Int32, v = some (.int r) ∧ Q r σ') (fun X σ' => Wire σ' ∧ E X σ')) 40 [(0, .ref 92), (1, .int a0), (2, .int a1)] [.int y0] σ := by
    intro y0  σ hW h
    refine V_istore_n 22 (lv' := [(3, .int y0), (0, .ref 92), (1, .int a0), (2, .int a1)]) rfl rfl (by decide) rfl ?_
    refine V_aload_n 23 1 rfl rfl rfl ?_
    refine V_aload_n 24 1 rfl rfl rfl ?_
    refine V_get (v := .int (σ.2.1 92 4)) 25 4 rfl clX12 flX12_452 (by decide) (wsh hW rfl) (fun _ => rfl) ?_
    refine V_if_ne 26 (tgt := 53) rfl (by decide) (fun hc => ?_) (fun hc => ?_)
    · replace h := h.1 hc
      refine V_iconst 29 (v := (0 : Int32)) rfl (by decide) ?_
      refine V_sub [1, 2, 3, 0] (lv' := [(0, .ref 92), (1, .int a0), (2, .int a1), (3, .int y0)]) rfl ?_
      exact k_j54 y0 (0 : Int32) σ hW h
    · replace h := h.2 hc
      refine V_pc 49 rfl ?_
      refine V_iconst 27 (v := (1 : Int32)) rfl (by decide) ?_
      refine V_goto 28 (tgt := 54) rfl (by decide) ?_
      refine V_sub [1, 2, 3, 0] (lv' := [(0, .ref 92), (1, .int a0), (2, .int a1), (3, .int y0)]) rfl ?_
      exact k_j54 y0 (1 : Int32) σ hW h
  have k_j35 : ∀   (σ : ab_S), Wire σ → wX12_level_j35 a0 a1 Q E  σ → V l mdX12_level B 2 44 0 0 (ab_End (fun v σ' => Wire σ' ∧ ∃ r : Int32, v = some (.int r) ∧ Q r σ') (fun X σ' => Wire σ' ∧ E X σ')) 35 [(0, .ref 92), (1, .int a0), (2, .int a1)] [] σ := by
    intro   σ hW h
    refine V_iconst 19 (v := (1 : Int32)) rfl (by decide) ?_
    refine V_goto 20 (tgt := 40) rfl (by decide) ?_
    exact k_j40 (1 : Int32) σ hW h
  have k_j39 : ∀   (σ : ab_S), Wire σ → wX12_level_j39 a0 a1 Q E  σ → V l mdX12_level B 2 44 0 0 (ab_End (fun v σ' => Wire σ' ∧ ∃ r : Int32, v = some (.int r) ∧ Q r σ') (fun X σ' => Wire σ' ∧ E X σ')) 39 [(0, .ref 92), (1, .int a0), (2, .int a1)] [] σ := by
    intro   σ hW h
    refine V_iconst 21 (v := (0 : Int32)) rfl (by decide) ?_
    exact k_j40 (0 : Int32) σ hW h
  intro σ hW h
  refine V_aload_n 0 0 rfl rfl rfl ?_
  refine V_get (v := .int (σ.2.1 92 4)) 1 4 rfl clX12 flX12_452 (by decide) (wsh hW rfl) (fun _ => rfl) ?_
  refine V_if_eq 2 (tgt := 39) rfl (by decide) (fun hc => ?_) (fun hc => ?_)
  · replace h := h.1 hc
    exact k_j39 σ hW h
  · replace h := h.2 hc
    refine V_pc 7 rfl ?_
    refine V_iload_n 3 1 rfl rfl rfl ?_
    refine V_iconst 4 (v := (0 : Int32)) rfl (by decide) ?_
    refine V_aload_n 5 0 rfl rfl rfl ?_
    refine V_get (v := .int (σ.2.1 92 9)) 6 9 rfl clX12 flX12_306 (by decide) (wsh hW rfl) (fun _ => rfl) ?_
    refine V_iconst 7 (v := (1 : Int32)) rfl (by decide) ?_
    refine V_isub 8 rfl ?_
    refine V_pc 15 rfl ?_
    refine V_callS 9 3 (as := [.int a0, .int (0 : Int32), .int ((σ.2.1 92 9) - (1 : Int32))]) (rest := []) rfl mlX12_238 yvX12_in rfl rfl (by decide) (by decide) (Nat.le_of_ble_eq_true rfl) (by decide) (by decide) (fun B9 => ceX12_in hl B9 hW h) (fun X9 τ9 h9 => VX_out rfl h9) ?_
    rintro v9 σ3 ⟨hW, u4, rfl, h⟩
    refine V_if_eq 10 (tgt := 39) rfl (by decide) (fun hc => ?_) (fun hc => ?_)
    · replace h := h.1 hc
      exact k_j39 σ3 hW h
    · replace h := h.2 hc
      refine V_pc 21 rfl ?_
      refine V_iload_n 11 2 rfl rfl rfl ?_
      refine V_iconst 12 (v := (-1 : Int32)) rfl (by decide) ?_
      refine V_icmp_eq 13 (tgt := 35) rfl (by decide) (fun hc => ?_) (fun hc => ?_)
      · replace h := h.1 hc
        exact k_j35 σ3 hW h
      · replace h := h.2 hc
        refine V_pc 26 rfl ?_
        refine V_aload_n 14 0 rfl rfl rfl ?_
        refine V_iload_n 15 1 rfl rfl rfl ?_
        refine V_iload_n 16 2 rfl rfl rfl ?_
        refine V_callV 17 2 (as := [.int a0, .int a1]) (rest := []) rfl mlX12_483 yvX12_isAttribute rfl rfl clX12 (wsh hW rfl) (by decide) (by decide) (Nat.le_of_ble_eq_true rfl) (by decide) (by decide) (fun B9 => ceX12_isAttribute hl B9 hW h) (fun X9 τ9 h9 => VX_out rfl h9) ?_
        rintro v9 σ5 ⟨hW, u6, rfl, h⟩
        refine V_if_eq 18 (tgt := 39) rfl (by decide) (fun hc => ?_) (fun hc => ?_)
        · replace h := h.1 hc
          exact k_j39 σ5 hW h
        · replace h := h.2 hc
          refine V_pc 35 rfl ?_
          exact k_j35 σ5 hW h

def wX12_visit_j178 (a0 : Int32) (a1 : Int32) (Q : Int32 → ab_S → Prop) (E : String → ab_S → Prop) (Bk : Int32 → Int32 → ab_S → Prop) (x5 : Int32) (y0 : Int32) (σ : ab_S) : Prop := ∀ v1 : Int32, v1 = (x5 + 1) → Bk y0 v1 σ
def wX12_visit_j160 (a0 : Int32) (a1 : Int32) (Q : Int32 → ab_S → Prop) (E : String → ab_S → Prop) (Bk : Int32 → Int32 → ab_S → Prop) (x4 : Int32) (x5 : Int32) (x6 : Int32) (y0 : Int32) (σ : ab_S) : Prop := ((¬ x6 = a1) → wX12_visit_j178 a0 a1 Q E Bk x5 x4 σ) ∧ (¬ (¬ x6 = a1) → wX12_visit_j178 a0 a1 Q E Bk x5 (x4 ||| y0) σ)
def wX12_visit_l96_b (a0 : Int32) (a1 : Int32) (Q : Int32 → ab_S → Prop) (E : String → ab_S → Prop) (Bk : Int32 → Int32 → ab_S → Prop) (x4 : Int32) (x5 : Int32) (σ : ab_S) : Prop := vp_in a0 13 ∧ ((((σ.2.1 99 a0.toNatClampNeg) ≤ x5) → Q x4 σ) ∧ (¬ ((σ.2.1 99 a0.toNatClampNeg) ≤ x5) → vp_in a0 13 ∧ (vp_in (((8 : Int32) * a0) + x5) 104 ∧ (∀ v2 : Int32, v2 = ((σ.2.1 112 a0.toNatClampNeg) - (((σ.2.1 111 (((8 : Int32) * a0) + x5).toNatClampNeg) - (1 : Int32)) / (2 : Int32))) → vp_in a0 13 ∧ (((¬ (((σ.2.1 100 a0.toNatClampNeg) >>> (x5 &&& 31)) &&& (1 : Int32)) = (1 : Int32)) → wX12_visit_j160 a0 a1 Q E Bk x4 x5 v2 ((256 : Int32) <<< (x5 &&& 31)) σ) ∧ (¬ (¬ (((σ.2.1 100 a0.toNatClampNeg) >>> (x5 &&& 31)) &&& (1 : Int32)) = (1 : Int32)) → wX12_visit_j160 a0 a1 Q E Bk x4 x5 v2 ((1 : Int32) <<< (x5 &&& 31)) σ))))))
def wX12_visit_l96 (a0 : Int32) (a1 : Int32) (Q : Int32 → ab_S → Prop) (E : String → ab_S → Prop) : Nat → Int32 → Int32 → ab_S → Prop
  | 0, _, _, _ => False
  | n + 1, x4, x5, σ => wX12_visit_l96_b a0 a1 Q E (wX12_visit_l96 a0 a1 Q E n) x4 x5 σ
def wX12_visit_j81 (a0 : Int32) (a1 : Int32) (Q : Int32 → ab_S → Prop) (E : String → ab_S → Prop) (y0 : Int32) (y1 : Int32) (σ : ab_S) : Prop := wX12_refuse y1 y0 (0 : Int32) (fun u4 σ3 => ((u4 = 0) → ∃ n, wX12_visit_l96 a0 a1 Q E n (0 : Int32) (0 : Int32) σ3) ∧ (¬ (u4 = 0) → Q (0 : Int32) σ3)) E σ
def wX12_visit_j72 (a0 : Int32) (a1 : Int32) (Q : Int32 → ab_S → Prop) (E : String → ab_S → Prop) (x3 : Int32) (y0 : Int32) (σ : ab_S) : Prop := ((¬ x3 = 0) → wX12_visit_j81 a0 a1 Q E (0 : Int32) y0 σ) ∧ (¬ (¬ x3 = 0) → wX12_visit_j81 a0 a1 Q E (1 : Int32) y0 σ)
def wX12_visit_j58 (a0 : Int32) (a1 : Int32) (Q : Int32 → ab_S → Prop) (E : String → ab_S → Prop) (y0 : Int32) (σ : ab_S) : Prop := ((¬ (σ.2.1 92 4) = 0) → wX12_visit_j72 a0 a1 Q E y0 (0 : Int32) σ) ∧ (¬ (¬ (σ.2.1 92 4) = 0) → wX12_visit_j72 a0 a1 Q E y0 (1 : Int32) σ)
def wX12_visit_j57 (a0 : Int32) (a1 : Int32) (Q : Int32 → ab_S → Prop) (E : String → ab_S → Prop)  (σ : ab_S) : Prop := wX12_visit_j58 a0 a1 Q E (0 : Int32) σ
def wX12_visit_j46 (a0 : Int32) (a1 : Int32) (Q : Int32 → ab_S → Prop) (E : String → ab_S → Prop) (y0 : Int32) (y2 : Int32) (σ : ab_S) : Prop := vp_in y0 13 ∧ (wX12_in a1 y2 (σ.2.1 112 y0.toNatClampNeg) (fun u6 σ5 => ((u6 = 0) → wX12_visit_j57 a0 a1 Q E σ5) ∧ (¬ (u6 = 0) → wX12_visit_j58 a0 a1 Q E (1 : Int32) σ5)) E σ)
def wX12_visit (a0 : Int32) (a1 : Int32) (Q : Int32 → ab_S → Prop) (E : String → ab_S → Prop) (σ : ab_S) : Prop := (((σ.2.1 92 4) = 0) → wX12_visit_j57 a0 a1 Q E σ) ∧ (¬ ((σ.2.1 92 4) = 0) → wX12_in a0 (0 : Int32) ((σ.2.1 92 9) - (1 : Int32)) (fun u8 σ7 => ((u8 = 0) → wX12_visit_j57 a0 a1 Q E σ7) ∧ (¬ (u8 = 0) → wX12_in a0 (0 : Int32) ((σ7.2.1 92 9) - (1 : Int32)) (fun u10 σ9 => ((u10 = 0) → wX12_visit_j46 a0 a1 Q E (0 : Int32) (1 : Int32) σ9) ∧ (¬ (u10 = 0) → wX12_visit_j46 a0 a1 Q E a0 (1 : Int32) σ9)) E σ7)) E σ)
set_option maxHeartbeats 4000000 in
set_option maxRecDepth 100000 in
theorem ceX12_visit {l : Launch} (hl : l.stackTraces = false) (B : Nat) {a0 : Int32} {a1 : Int32}  {Q : Int32 → ab_S → Prop} {E : String → ab_S → Prop} {σ : ab_S} (hW : Wire σ) (h : wX12_visit a0 a1 Q E σ) : ab_Mt l yX12_visit mdX12_visit B 1 23 0 0 [.ref 92, .int a0, .int a1] σ (fun v σ' => Wire σ' ∧ ∃ r : Int32, v = some (.int r) ∧ Q r σ') (fun X σ' => Wire σ' ∧ E X σ') := by
  refine V_met hl ⟨rfl, rfl, by decide⟩ rfl dkX12_visit (Nat.le_of_ble_eq_true rfl) ?_
  show V l mdX12_visit B 1 23 0 0 (ab_End _ _) 0 [(0, .ref 92), (1, .int a0), (2, .int a1)] [] σ
  revert h hW
  revert σ
  have k_l96 : ∀ (n : Nat) (x4 : Int32) (x5 : Int32)  (σ : ab_S), Wire σ → wX12_visit_l96 a0 a1 Q E n x4 x5 σ → V l mdX12_visit B 1 23 0 0 (ab_End (fun v σ' => Wire σ' ∧ ∃ r : Int32, v = some (.int r) ∧ Q r σ') (fun X σ' => Wire σ' ∧ E X σ')) 96 [(0, .ref 92), (1, .int a0), (2, .int a1), (4, .int x4), (5, .int x5)] [] σ := by
    have step : ∀ (Bk : Int32 → Int32 → ab_S → Prop) (k_Bk : ∀ (x4 : Int32) (x5 : Int32)  (σ : ab_S), Wire σ → Bk x4 x5 σ → V l mdX12_visit B 1 23 0 0 (ab_End (fun v σ' => Wire σ' ∧ ∃ r : Int32, v = some (.int r) ∧ Q r σ') (fun X σ' => Wire σ' ∧ E X σ')) 96 [(0, .ref 92), (1, .int a0), (2, .int a1), (4, .int x4), (5, .int x5)] [] σ), ∀ (x4 : Int32) (x5 : Int32)  (σ : ab_S), Wire σ → wX12_visit_l96_b a0 a1 Q E Bk x4 x5 σ → V l mdX12_visit B 1 23 0 0 (ab_End (fun v σ' => Wire σ' ∧ ∃ r : Int32, v = some (.int r) ∧ Q r σ') (fun X σ' => Wire σ' ∧ E X σ')) 96 [(0, .ref 92), (1, .int a0), (2, .int a1), (4, .int x4), (5, .int x5)] [] σ := by
      intro Bk k_Bk
      have k_j178 : ∀ (x5 : Int32) (y0 : Int32)  (σ : ab_S), Wire σ → wX12_visit_j178 a0 a1 Q E Bk x5 y0 σ → V l mdX12_visit B 1 23 0 0 (ab_End (fun v σ' => Wire σ' ∧ ∃ r : Int32, v = some (.int r) ∧ Q r σ') (fun X σ' => Wire σ' ∧ E X σ')) 178 [(0, .ref 92), (1, .int a0), (2, .int a1), (5, .int x5)] [.int y0] σ := by
        intro x5 y0  σ hW h
        refine V_istore 104 (lv' := [(4, .int y0), (0, .ref 92), (1, .int a0), (2, .int a1), (5, .int x5)]) rfl (by decide) rfl ?_
        obtain ⟨v1, ev1⟩ : ∃ z : Int32, z = (x5 + 1) := ⟨_, rfl⟩
        replace h := h v1 ev1
        refine V_iinc 105 4 (v := v1) (lv' := [(5, .int v1), (4, .int y0), (0, .ref 92), (1, .int a0), (2, .int a1)]) rfl rfl ((in_1 _).trans ev1.symm) (by decide) rfl ?_
        refine V_goto 106 (tgt := 96) rfl (by decide) ?_
        refine V_sub [2, 3, 4, 1, 0] (lv' := [(0, .ref 92), (1, .int a0), (2, .int a1), (4, .int y0), (5, .int v1)]) rfl ?_
        exact k_Bk y0 v1  σ hW h
      have k_j160 : ∀ (x4 : Int32) (x5 : Int32) (x6 : Int32) (y0 : Int32)  (σ : ab_S), Wire σ → wX12_visit_j160 a0 a1 Q E Bk x4 x5 x6 y0 σ → V l mdX12_visit B 1 23 0 0 (ab_End (fun v σ' => Wire σ' ∧ ∃ r : Int32, v = some (.int r) ∧ Q r σ') (fun X σ' => Wire σ' ∧ E X σ')) 160 [(0, .ref 92), (1, .int a0), (2, .int a1), (4, .int x4), (5, .int x5), (6, .int x6)] [.int y0] σ := by
        intro x4 x5 x6 y0  σ hW h
        refine V_istore 95 (lv' := [(7, .int y0), (0, .ref 92), (1, .int a0), (2, .int a1), (4, .int x4), (5, .int x5), (6, .int x6)]) rfl (by decide) rfl ?_
        refine V_iload 96 6 rfl rfl ?_
        refine V_iload_n 97 3 rfl rfl rfl ?_
        refine V_icmp_ne 98 (tgt := 176) rfl (by decide) (fun hc => ?_) (fun hc => ?_)
        · replace h := h.1 hc
          refine V_iload 103 4 rfl rfl ?_
          refine V_sub [1, 2, 3, 5] (lv' := [(0, .ref 92), (1, .int a0), (2, .int a1), (5, .int x5)]) rfl ?_
          exact k_j178 x5 x4 σ hW h
        · replace h := h.2 hc
          refine V_pc 168 rfl ?_
          refine V_iload 99 4 rfl rfl ?_
          refine V_iload 100 0 rfl rfl ?_
          refine V_ior 101 rfl ?_
          refine V_goto 102 (tgt := 178) rfl (by decide) ?_
          refine V_sub [1, 2, 3, 5] (lv' := [(0, .ref 92), (1, .int a0), (2, .int a1), (5, .int x5)]) rfl ?_
          exact k_j178 x5 (x4 ||| y0) σ hW h
      intro x4 x5  σ hW h
      refine V_iload 54 4 rfl rfl ?_
      refine V_aload_n 55 0 rfl rfl rfl ?_
      refine V_getR 56 12 rfl clX12 flX12_29 (by decide) (wsh hW rfl) (fun _ => rfl) (wrf hW 100 rfl) ?_
      refine V_iload_n 57 1 rfl rfl rfl ?_
      obtain ⟨hin, h⟩ := h
      refine V_iald 58 rfl (wsh hW rfl) hin ?_
      refine V_icmp_ge 59 (tgt := 186) rfl (by decide) (fun hc => ?_) (fun hc => ?_)
      · replace h := h.1 hc
        refine V_iload 107 3 rfl rfl ?_
        exact V_iret 108 rfl rfl ⟨hW, _, rfl, h⟩
      · replace h := h.2 hc
        refine V_pc 107 rfl ?_
        refine V_aload_n 60 0 rfl rfl rfl ?_
        refine V_getR 61 27 rfl clX12 flX12_69 (by decide) (wsh hW rfl) (fun _ => rfl) (wrf hW 113 rfl) ?_
        refine V_iload_n 62 1 rfl rfl rfl ?_
        obtain ⟨hin, h⟩ := h
        refine V_iald 63 rfl (wsh hW rfl) hin ?_
        refine V_aload_n 64 0 rfl rfl rfl ?_
        refine V_getR 65 26 rfl clX12 flX12_66 (by decide) (wsh hW rfl) (fun _ => rfl) (wrf hW 112 rfl) ?_
        refine V_pc 117 rfl ?_
        refine V_bipush 66 (v := (8 : Int32)) rfl (by decide) ?_
        refine V_iload_n 67 1 rfl rfl rfl ?_
        refine V_imul 68 rfl ?_
        refine V_iload 69 4 rfl rfl ?_
        refine V_iadd 70 rfl ?_
        obtain ⟨hin, h⟩ := h
        refine V_iald 71 rfl (wsh hW rfl) hin ?_
        refine V_pc 125 rfl ?_
        refine V_iconst 72 (v := (1 : Int32)) rfl (by decide) ?_
        refine V_isub 73 rfl ?_
        refine V_iconst 74 (v := (2 : Int32)) rfl (by decide) ?_
        refine V_idiv 75 rfl (by decide) ?_
        refine V_isub 76 rfl ?_
        refine V_topi (fun v2 ev2 => ?_)
        replace h := h v2 ev2
        refine V_istore 77 (lv' := [(6, .int v2), (0, .ref 92), (1, .int a0), (2, .int a1), (4, .int x4), (5, .int x5)]) rfl (by decide) rfl ?_
        refine V_pc 132 rfl ?_
        refine V_aload_n 78 1 rfl rfl rfl ?_
        refine V_getR 79 13 rfl clX12 flX12_32 (by decide) (wsh hW rfl) (fun _ => rfl) (wrf hW 101 rfl) ?_
        refine V_iload_n 80 2 rfl rfl rfl ?_
        obtain ⟨hin, h⟩ := h
        refine V_iald 81 rfl (wsh hW rfl) hin ?_
        refine V_iload 82 5 rfl rfl ?_
        refine V_ishr 83 rfl ?_
        refine V_pc 141 rfl ?_
        refine V_iconst 84 (v := (1 : Int32)) rfl (by decide) ?_
        refine V_iand 85 rfl ?_
        refine V_iconst 86 (v := (1 : Int32)) rfl (by decide) ?_
        refine V_icmp_ne 87 (tgt := 154) rfl (by decide) (fun hc => ?_) (fun hc => ?_)
        · replace h := h.1 hc
          refine V_sipush 92 (v := (256 : Int32)) rfl (by decide) ?_
          refine V_iload 93 5 rfl rfl ?_
          refine V_ishl 94 rfl ?_
          refine V_sub [1, 2, 3, 4, 5, 0] (lv' := [(0, .ref 92), (1, .int a0), (2, .int a1), (4, .int x4), (5, .int x5), (6, .int v2)]) rfl ?_
          exact k_j160 x4 x5 v2 ((256 : Int32) <<< (x5 &&& 31)) σ hW h
        · replace h := h.2 hc
          refine V_pc 147 rfl ?_
          refine V_iconst 88 (v := (1 : Int32)) rfl (by decide) ?_
          refine V_iload 89 5 rfl rfl ?_
          refine V_ishl 90 rfl ?_
          refine V_goto 91 (tgt := 160) rfl (by decide) ?_
          refine V_sub [1, 2, 3, 4, 5, 0] (lv' := [(0, .ref 92), (1, .int a0), (2, .int a1), (4, .int x4), (5, .int x5), (6, .int v2)]) rfl ?_
          exact k_j160 x4 x5 v2 ((1 : Int32) <<< (x5 &&& 31)) σ hW h
    intro n
    induction n with
    | zero => intro x4 x5  σ hW h; exact absurd h id
    | succ n ih => exact step  _ ih
  have k_j81 : ∀ (y0 : Int32) (y1 : Int32)  (σ : ab_S), Wire σ → wX12_visit_j81 a0 a1 Q E y0 y1 σ → V l mdX12_visit B 1 23 0 0 (ab_End (fun v σ' => Wire σ' ∧ ∃ r : Int32, v = some (.int r) ∧ Q r σ') (fun X σ' => Wire σ' ∧ E X σ')) 81 [(0, .ref 92), (1, .int a0), (2, .int a1)] [.int y0, .int y1, .ref 92] σ := by
    intro y0 y1  σ hW h
    refine V_iconst 45 (v := (0 : Int32)) rfl (by decide) ?_
    refine V_callV 46 3 (as := [.int y1, .int y0, .int (0 : Int32)]) (rest := []) rfl mlX12_245 yvX12_refuse rfl rfl clX12 (wsh hW rfl) (by decide) (by decide) (Nat.le_of_ble_eq_true rfl) (by decide) (by decide) (fun B9 => ceX12_refuse hl B9 hW h) (fun X9 τ9 h9 => VX_out rfl h9) ?_
    rintro v9 σ3 ⟨hW, u4, rfl, h⟩
    refine V_if_eq 47 (tgt := 90) rfl (by decide) (fun hc => ?_) (fun hc => ?_)
    · replace h := h.1 hc
      refine V_iconst 50 (v := (0 : Int32)) rfl (by decide) ?_
      refine V_istore 51 (lv' := [(4, .int (0 : Int32)), (0, .ref 92), (1, .int a0), (2, .int a1)]) rfl (by decide) rfl ?_
      refine V_iconst 52 (v := (0 : Int32)) rfl (by decide) ?_
      refine V_istore 53 (lv' := [(5, .int (0 : Int32)), (4, .int (0 : Int32)), (0, .ref 92), (1, .int a0), (2, .int a1)]) rfl (by decide) rfl ?_
      refine V_sub [2, 3, 4, 1, 0] (lv' := [(0, .ref 92), (1, .int a0), (2, .int a1), (4, .int (0 : Int32)), (5, .int (0 : Int32))]) rfl ?_
      obtain ⟨n, h⟩ := h
      exact k_l96 n (0 : Int32) (0 : Int32) σ3 hW h
    · replace h := h.2 hc
      refine V_pc 88 rfl ?_
      refine V_iconst 48 (v := (0 : Int32)) rfl (by decide) ?_
      exact V_iret 49 rfl rfl ⟨hW, _, rfl, h⟩
  have k_j72 : ∀ (x3 : Int32) (y0 : Int32)  (σ : ab_S), Wire σ → wX12_visit_j72 a0 a1 Q E x3 y0 σ → V l mdX12_visit B 1 23 0 0 (ab_End (fun v σ' => Wire σ' ∧ ∃ r : Int32, v = some (.int r) ∧ Q r σ') (fun X σ' => Wire σ' ∧ E X σ')) 72 [(0, .ref 92), (1, .int a0), (2, .int a1), (3, .int x3)] [.int y0, .ref 92] σ := by
    intro x3 y0  σ hW h
    refine V_iload_n 40 3 rfl rfl rfl ?_
    refine V_if_ne 41 (tgt := 80) rfl (by decide) (fun hc => ?_) (fun hc => ?_)
    · replace h := h.1 hc
      refine V_iconst 44 (v := (0 : Int32)) rfl (by decide) ?_
      refine V_sub [0, 1, 2] (lv' := [(0, .ref 92), (1, .int a0), (2, .int a1)]) rfl ?_
      exact k_j81 (0 : Int32) y0 σ hW h
    · replace h := h.2 hc
      refine V_pc 76 rfl ?_
      refine V_iconst 42 (v := (1 : Int32)) rfl (by decide) ?_
      refine V_goto 43 (tgt := 81) rfl (by decide) ?_
      refine V_sub [0, 1, 2] (lv' := [(0, .ref 92), (1, .int a0), (2, .int a1)]) rfl ?_
      exact k_j81 (1 : Int32) y0 σ hW h
  have k_j58 : ∀ (y0 : Int32)  (σ : ab_S), Wire σ → wX12_visit_j58 a0 a1 Q E y0 σ → V l mdX12_visit B 1 23 0 0 (ab_End (fun v σ' => Wire σ' ∧ ∃ r : Int32, v = some (.int r) ∧ Q r σ') (fun X σ' => Wire σ' ∧ E X σ')) 58 [(0, .ref 92), (1, .int a0), (2, .int a1)] [.int y0] σ := by
    intro y0  σ hW h
    refine V_istore_n 32 (lv' := [(3, .int y0), (0, .ref 92), (1, .int a0), (2, .int a1)]) rfl rfl (by decide) rfl ?_
    refine V_aload_n 33 1 rfl rfl rfl ?_
    refine V_aload_n 34 1 rfl rfl rfl ?_
    refine V_get (v := .int (σ.2.1 92 4)) 35 4 rfl clX12 flX12_452 (by decide) (wsh hW rfl) (fun _ => rfl) ?_
    refine V_if_ne 36 (tgt := 71) rfl (by decide) (fun hc => ?_) (fun hc => ?_)
    · replace h := h.1 hc
      refine V_iconst 39 (v := (0 : Int32)) rfl (by decide) ?_
      refine V_sub [1, 2, 3, 0] (lv' := [(0, .ref 92), (1, .int a0), (2, .int a1), (3, .int y0)]) rfl ?_
      exact k_j72 y0 (0 : Int32) σ hW h
    · replace h := h.2 hc
      refine V_pc 67 rfl ?_
      refine V_iconst 37 (v := (1 : Int32)) rfl (by decide) ?_
      refine V_goto 38 (tgt := 72) rfl (by decide) ?_
      refine V_sub [1, 2, 3, 0] (lv' := [(0, .ref 92), (1, .int a0), (2, .int a1), (3, .int y0)]) rfl ?_
      exact k_j72 y0 (1 : Int32) σ hW h
  have k_j57 : ∀   (σ : ab_S), Wire σ → wX12_visit_j57 a0 a1 Q E  σ → V l mdX12_visit B 1 23 0 0 (ab_End (fun v σ' => Wire σ' ∧ ∃ r : Int32, v = some (.int r) ∧ Q r σ') (fun X σ' => Wire σ' ∧ E X σ')) 57 [(0, .ref 92), (1, .int a0), (2, .int a1)] [] σ := by
    intro   σ hW h
    refine V_iconst 31 (v := (0 : Int32)) rfl (by decide) ?_
    exact k_j58 (0 : Int32) σ hW h
  have k_j46 : ∀ (y0 : Int32) (y2 : Int32)  (σ : ab_S), Wire σ → wX12_visit_j46 a0 a1 Q E y0 y2 σ → V l mdX12_visit B 1 23 0 0 (ab_End (fun v σ' => Wire σ' ∧ ∃ r : Int32, v = some (.int r) ∧ Q r σ') (fun X σ' => Wire σ' ∧ E X σ')) 46 [(0, .ref 92), (1, .int a0), (2, .int a1)] [.int y0, .ref 112, .int y2, .int a1] σ := by
    intro y0 y2  σ hW h
    obtain ⟨hin, h⟩ := h
    refine V_iald 26 rfl (wsh hW rfl) hin ?_
    refine V_callS 27 3 (as := [.int a1, .int y2, .int (σ.2.1 112 y0.toNatClampNeg)]) (rest := []) rfl mlX12_238 yvX12_in rfl rfl (by decide) (by decide) (Nat.le_of_ble_eq_true rfl) (by decide) (by decide) (fun B9 => ceX12_in hl B9 hW h) (fun X9 τ9 h9 => VX_out rfl h9) ?_
    rintro v9 σ5 ⟨hW, u6, rfl, h⟩
    refine V_if_eq 28 (tgt := 57) rfl (by decide) (fun hc => ?_) (fun hc => ?_)
    · replace h := h.1 hc
      exact k_j57 σ5 hW h
    · replace h := h.2 hc
      refine V_pc 53 rfl ?_
      refine V_iconst 29 (v := (1 : Int32)) rfl (by decide) ?_
      refine V_goto 30 (tgt := 58) rfl (by decide) ?_
      exact k_j58 (1 : Int32) σ5 hW h
  intro σ hW h
  refine V_aload_n 0 0 rfl rfl rfl ?_
  refine V_get (v := .int (σ.2.1 92 4)) 1 4 rfl clX12 flX12_452 (by decide) (wsh hW rfl) (fun _ => rfl) ?_
  refine V_if_eq 2 (tgt := 57) rfl (by decide) (fun hc => ?_) (fun hc => ?_)
  · replace h := h.1 hc
    exact k_j57 σ hW h
  · replace h := h.2 hc
    refine V_pc 7 rfl ?_
    refine V_iload_n 3 1 rfl rfl rfl ?_
    refine V_iconst 4 (v := (0 : Int32)) rfl (by decide) ?_
    refine V_aload_n 5 0 rfl rfl rfl ?_
    refine V_get (v := .int (σ.2.1 92 9)) 6 9 rfl clX12 flX12_306 (by decide) (wsh hW rfl) (fun _ => rfl) ?_
    refine V_iconst 7 (v := (1 : Int32)) rfl (by decide) ?_
    refine V_isub 8 rfl ?_
    refine V_pc 15 rfl ?_
    refine V_callS 9 3 (as := [.int a0, .int (0 : Int32), .int ((σ.2.1 92 9) - (1 : Int32))]) (rest := []) rfl mlX12_238 yvX12_in rfl rfl (by decide) (by decide) (Nat.le_of_ble_eq_true rfl) (by decide) (by decide) (fun B9 => ceX12_in hl B9 hW h) (fun X9 τ9 h9 => VX_out rfl h9) ?_
    rintro v9 σ7 ⟨hW, u8, rfl, h⟩
    refine V_if_eq 10 (tgt := 57) rfl (by decide) (fun hc => ?_) (fun hc => ?_)
    · replace h := h.1 hc
      exact k_j57 σ7 hW h
    · replace h := h.2 hc
      refine V_pc 21 rfl ?_
      refine V_iload_n 11 2 rfl rfl rfl ?_
      refine V_iconst 12 (v := (1 : Int32)) rfl (by decide) ?_
      refine V_aload_n 13 0 rfl rfl rfl ?_
      refine V_getR 14 27 rfl clX12 flX12_69 (by decide) (wsh hW rfl) (fun _ => rfl) (wrf hW 113 rfl) ?_
      refine V_iload_n 15 1 rfl rfl rfl ?_
      refine V_iconst 16 (v := (0 : Int32)) rfl (by decide) ?_
      refine V_pc 29 rfl ?_
      refine V_aload_n 17 0 rfl rfl rfl ?_
      refine V_get (v := .int (σ7.2.1 92 9)) 18 9 rfl clX12 flX12_306 (by decide) (wsh hW rfl) (fun _ => rfl) ?_
      refine V_iconst 19 (v := (1 : Int32)) rfl (by decide) ?_
      refine V_isub 20 rfl ?_
      refine V_callS 21 3 (as := [.int a0, .int (0 : Int32), .int ((σ7.2.1 92 9) - (1 : Int32))]) (rest := [.ref 112, .int (1 : Int32), .int a1]) rfl mlX12_238 yvX12_in rfl rfl (by decide) (by decide) (Nat.le_of_ble_eq_true rfl) (by decide) (by decide) (fun B9 => ceX12_in hl B9 hW h) (fun X9 τ9 h9 => VX_out rfl h9) ?_
      rintro v9 σ9 ⟨hW, u10, rfl, h⟩
      refine V_if_eq 22 (tgt := 45) rfl (by decide) (fun hc => ?_) (fun hc => ?_)
      · replace h := h.1 hc
        refine V_iconst 25 (v := (0 : Int32)) rfl (by decide) ?_
        exact k_j46 (0 : Int32) (1 : Int32) σ9 hW h
      · replace h := h.2 hc
        refine V_pc 41 rfl ?_
        refine V_iload_n 23 1 rfl rfl rfl ?_
        refine V_goto 24 (tgt := 46) rfl (by decide) ?_
        exact k_j46 a0 (1 : Int32) σ9 hW h

def wX12_treeNode_j43 (a0 : Int32) (a1 : Int32) (a2 : Int32) (Q : ab_S → Prop) (E : String → ab_S → Prop)  (σ : ab_S) : Prop := wX12_fail (σ.2.1 92 41) (fun σ1 => Q σ1) E σ
def wX12_treeNode_j185 (a0 : Int32) (a1 : Int32) (a2 : Int32) (Q : ab_S → Prop) (E : String → ab_S → Prop) (x4 : Int32) (x5 : Int32) (σ : ab_S) : Prop := vp_in x4 31 ∧ ((((σ.2.1 103 x4.toNatClampNeg) ≤ 0) → Q σ) ∧ (¬ ((σ.2.1 103 x4.toNatClampNeg) ≤ 0) → wX12_need (10 : Int32) (fun σ2 => vp_in (σ2.2.1 92 64) 251 ∧ (∀ σ3 : ab_S, σ3 = ab_I σ2 137 (σ2.2.1 92 64).toNatClampNeg x5 → vp_in (σ3.2.1 92 64) 251 ∧ (∀ σ4 : ab_S, σ4 = ab_I σ3 138 (σ3.2.1 92 64).toNatClampNeg (0 : Int32) → (∀ σ5 : ab_S, σ5 = ab_I σ4 92 64 ((σ4.2.1 92 64) + (1 : Int32)) → Q σ5)))) E σ))
def wX12_treeNode_j180 (a0 : Int32) (a1 : Int32) (a2 : Int32) (Q : ab_S → Prop) (E : String → ab_S → Prop) (x4 : Int32) (x5 : Int32) (y0 : Int32) (y1 : Int32) (σ : ab_S) : Prop := vp_in y1 251 ∧ (∀ σ6 : ab_S, σ6 = ab_I σ 136 y1.toNatClampNeg y0 → wX12_advance (fun σ7 => wX12_treeNode_j185 a0 a1 a2 Q E x4 x5 σ7) E σ6)
def wX12_treeNode_j140 (a0 : Int32) (a1 : Int32) (a2 : Int32) (Q : ab_S → Prop) (E : String → ab_S → Prop) (x4 : Int32) (x5 : Int32) (x6 : Int32) (σ : ab_S) : Prop := (((σ.2.1 92 40) = (2 : Int32)) → ((x6 = 0) → wX12_numberHere (fun u9 σ8 => wX12_treeNode_j180 a0 a1 a2 Q E x4 x5 u9 x5 σ8) E σ) ∧ (¬ (x6 = 0) → wX12_numberHere (fun u11 σ10 => wX12_treeNode_j180 a0 a1 a2 Q E x4 x5 (-u11) x5 σ10) E σ)) ∧ (¬ ((σ.2.1 92 40) = (2 : Int32)) → wX12_fail (σ.2.1 92 41) (fun σ12 => Q σ12) E σ)
def wX12_treeNode_j129 (a0 : Int32) (a1 : Int32) (a2 : Int32) (Q : ab_S → Prop) (E : String → ab_S → Prop) (x4 : Int32) (x5 : Int32) (y0 : Int32) (σ : ab_S) : Prop := ((y0 = 0) → wX12_treeNode_j140 a0 a1 a2 Q E x4 x5 y0 σ) ∧ (¬ (y0 = 0) → wX12_advance (fun σ13 => wX12_treeNode_j140 a0 a1 a2 Q E x4 x5 y0 σ13) E σ)
def wX12_treeNode (a0 : Int32) (a1 : Int32) (a2 : Int32) (Q : ab_S → Prop) (E : String → ab_S → Prop) (σ : ab_S) : Prop := wX12_find 101 248 (0 : Int32) (σ.2.1 92 14) (fun u15 σ14 => ((u15 < 0) → wX12_treeNode_j43 a0 a1 a2 Q E σ14) ∧ (¬ (u15 < 0) → vp_in ((4 : Int32) * u15) 124 ∧ (((¬ (σ14.2.1 104 ((4 : Int32) * u15).toNatClampNeg) = a0) → wX12_treeNode_j43 a0 a1 a2 Q E σ14) ∧ (¬ (¬ (σ14.2.1 104 ((4 : Int32) * u15).toNatClampNeg) = a0) → ((¬ (σ14.2.1 92 59) = (250 : Int32)) → ∀ v16 : Int32, v16 = (σ14.2.1 92 59) → vp_in v16 251 ∧ (∀ σ17 : ab_S, σ17 = ab_I σ14 133 v16.toNatClampNeg u15 → vp_in v16 251 ∧ (∀ σ18 : ab_S, σ18 = ab_I σ17 134 v16.toNatClampNeg a1 → vp_in v16 251 ∧ (∀ σ19 : ab_S, σ19 = ab_I σ18 135 v16.toNatClampNeg a2 → vp_in v16 251 ∧ (∀ σ20 : ab_S, σ20 = ab_I σ19 136 v16.toNatClampNeg (0 : Int32) → (∀ σ21 : ab_S, σ21 = ab_I σ20 92 59 ((σ20.2.1 92 59) + (1 : Int32)) → wX12_advance (fun σ22 => vp_in u15 31 ∧ ((((σ22.2.1 102 u15.toNatClampNeg) = 0) → wX12_treeNode_j185 a0 a1 a2 Q E u15 v16 σ22) ∧ (¬ ((σ22.2.1 102 u15.toNatClampNeg) = 0) → ((¬ (σ22.2.1 92 40) = (14 : Int32)) → wX12_treeNode_j129 a0 a1 a2 Q E u15 v16 (0 : Int32) σ22) ∧ (¬ (¬ (σ22.2.1 92 40) = (14 : Int32)) → wX12_treeNode_j129 a0 a1 a2 Q E u15 v16 (1 : Int32) σ22)))) E σ21)))))) ∧ (¬ (¬ (σ14.2.1 92 59) = (250 : Int32)) → wX12_treeNode_j43 a0 a1 a2 Q E σ14))))) E σ
set_option maxHeartbeats 4000000 in
set_option maxRecDepth 100000 in
theorem ceX12_treeNode {l : Launch} (hl : l.stackTraces = false) (B : Nat) {a0 : Int32} {a1 : Int32} {a2 : Int32}  {Q : ab_S → Prop} {E : String → ab_S → Prop} {σ : ab_S} (hW : Wire σ) (h : wX12_treeNode a0 a1 a2 Q E σ) : ab_Mt l yX12_treeNode mdX12_treeNode B 4 86 0 0 [.ref 92, .int a0, .int a1, .int a2] σ (fun v σ' => Wire σ' ∧ v = none ∧ Q σ') (fun X σ' => Wire σ' ∧ E X σ') := by
  refine V_met hl ⟨rfl, rfl, by decide⟩ rfl dkX12_treeNode (Nat.le_of_ble_eq_true rfl) ?_
  show V l mdX12_treeNode B 4 86 0 0 (ab_End _ _) 0 [(0, .ref 92), (1, .int a0), (2, .int a1), (3, .int a2)] [] σ
  revert h hW
  revert σ
  have k_j43 : ∀   (σ : ab_S), Wire σ → wX12_treeNode_j43 a0 a1 a2 Q E  σ → V l mdX12_treeNode B 4 86 0 0 (ab_End (fun v σ' => Wire σ' ∧ v = none ∧ Q σ') (fun X σ' => Wire σ' ∧ E X σ')) 43 [(0, .ref 92)] [] σ := by
    intro   σ hW h
    refine V_aload_n 22 0 rfl rfl rfl ?_
    refine V_aload_n 23 0 rfl rfl rfl ?_
    refine V_get (v := .int (σ.2.1 92 41)) 24 41 rfl clX12 flX12_252 (by decide) (wsh hW rfl) (fun _ => rfl) ?_
    refine V_callV 25 1 (as := [.int (σ.2.1 92 41)]) (rest := []) rfl mlX12_287 yvX12_fail rfl rfl clX12 (wsh hW rfl) (by decide) (by decide) (Nat.le_of_ble_eq_true rfl) (by decide) (by decide) (fun B9 => ceX12_fail hl B9 hW h) (fun X9 τ9 h9 => VX_out rfl h9) ?_
    rintro v9 σ1 ⟨hW, rfl, h⟩
    exact V_vret 26 rfl rfl ⟨hW, rfl, h⟩
  have k_j185 : ∀ (x4 : Int32) (x5 : Int32)  (σ : ab_S), Wire σ → wX12_treeNode_j185 a0 a1 a2 Q E x4 x5 σ → V l mdX12_treeNode B 4 86 0 0 (ab_End (fun v σ' => Wire σ' ∧ v = none ∧ Q σ') (fun X σ' => Wire σ' ∧ E X σ')) 185 [(0, .ref 92), (4, .int x4), (5, .int x5)] [] σ := by
    intro x4 x5  σ hW h
    refine V_aload_n 98 0 rfl rfl rfl ?_
    refine V_getR 99 17 rfl clX12 flX12_42 (by decide) (wsh hW rfl) (fun _ => rfl) (wrf hW 104 rfl) ?_
    refine V_iload 100 1 rfl rfl ?_
    obtain ⟨hin, h⟩ := h
    refine V_iald 101 rfl (wsh hW rfl) hin ?_
    refine V_if_le 102 (tgt := 232) rfl (by decide) (fun hc => ?_) (fun hc => ?_)
    · replace h := h.1 hc
      exact V_vret 124 rfl rfl ⟨hW, rfl, h⟩
    · replace h := h.2 hc
      refine V_pc 195 rfl ?_
      refine V_aload_n 103 0 rfl rfl rfl ?_
      refine V_bipush 104 (v := (10 : Int32)) rfl (by decide) ?_
      refine V_callV 105 1 (as := [.int (10 : Int32)]) (rest := []) rfl mlX12_313 yvX12_need rfl rfl clX12 (wsh hW rfl) (by decide) (by decide) (Nat.le_of_ble_eq_true rfl) (by decide) (by decide) (fun B9 => ceX12_need hl B9 hW h) (fun X9 τ9 h9 => VX_out rfl h9) ?_
      rintro v9 σ2 ⟨hW, rfl, h⟩
      refine V_aload_n 106 0 rfl rfl rfl ?_
      refine V_getR 107 65 rfl clX12 flX12_144 (by decide) (wsh hW rfl) (fun _ => rfl) (wrf hW 138 rfl) ?_
      refine V_aload_n 108 0 rfl rfl rfl ?_
      refine V_get (v := .int (σ2.2.1 92 64)) 109 64 rfl clX12 flX12_511 (by decide) (wsh hW rfl) (fun _ => rfl) ?_
      refine V_iload 110 2 rfl rfl ?_
      refine V_pc 211 rfl ?_
      obtain ⟨hin, h⟩ := h
      refine V_iast 111 rfl (wsh hW rfl) hin ?_
      refine V_nm (fun σ3 eσ3 => ?_)
      replace h := h σ3 eσ3
      have hW := wire_I eσ3 hW
      refine V_aload_n 112 0 rfl rfl rfl ?_
      refine V_getR 113 66 rfl clX12 flX12_147 (by decide) (wsh hW rfl) (fun _ => rfl) (wrf hW 139 rfl) ?_
      refine V_aload_n 114 0 rfl rfl rfl ?_
      refine V_get (v := .int (σ3.2.1 92 64)) 115 64 rfl clX12 flX12_511 (by decide) (wsh hW rfl) (fun _ => rfl) ?_
      refine V_iconst 116 (v := (0 : Int32)) rfl (by decide) ?_
      refine V_pc 221 rfl ?_
      obtain ⟨hin, h⟩ := h
      refine V_iast 117 rfl (wsh hW rfl) hin ?_
      refine V_nm (fun σ4 eσ4 => ?_)
      replace h := h σ4 eσ4
      have hW := wire_I eσ4 hW
      refine V_aload_n 118 0 rfl rfl rfl ?_
      refine V_dup 119 rfl rfl ?_
      refine V_get (v := .int (σ4.2.1 92 64)) 120 64 rfl clX12 flX12_511 (by decide) (wsh hW rfl) (fun _ => rfl) ?_
      refine V_iconst 121 (v := (1 : Int32)) rfl (by decide) ?_
      refine V_iadd 122 rfl ?_
      refine V_pc 229 rfl ?_
      refine V_putI 123 64 rfl clX12 flX12_511 (by decide) (wsh hW rfl) rfl (fun _ _ => rfl) rfl rfl ?_
      refine V_nm (fun σ5 eσ5 => ?_)
      replace h := h σ5 eσ5
      have hW := wire_I eσ5 hW
      exact V_vret 124 rfl rfl ⟨hW, rfl, h⟩
  have k_j180 : ∀ (x4 : Int32) (x5 : Int32) (y0 : Int32) (y1 : Int32)  (σ : ab_S), Wire σ → wX12_treeNode_j180 a0 a1 a2 Q E x4 x5 y0 y1 σ → V l mdX12_treeNode B 4 86 0 0 (ab_End (fun v σ' => Wire σ' ∧ v = none ∧ Q σ') (fun X σ' => Wire σ' ∧ E X σ')) 180 [(0, .ref 92), (4, .int x4), (5, .int x5)] [.int y0, .int y1, .ref 136] σ := by
    intro x4 x5 y0 y1  σ hW h
    obtain ⟨hin, h⟩ := h
    refine V_iast 95 rfl (wsh hW rfl) hin ?_
    refine V_nm (fun σ6 eσ6 => ?_)
    replace h := h σ6 eσ6
    have hW := wire_I eσ6 hW
    refine V_aload_n 96 0 rfl rfl rfl ?_
    refine V_callV 97 0 (as := []) (rest := []) rfl mlX12_295 yvX12_advance rfl rfl clX12 (wsh hW rfl) (by decide) (by decide) (Nat.le_of_ble_eq_true rfl) (by decide) (by decide) (fun B9 => ceX12_advance hl B9 hW h) (fun X9 τ9 h9 => VX_out rfl h9) ?_
    rintro v9 σ7 ⟨hW, rfl, h⟩
    exact k_j185 x4 x5 σ7 hW h
  have k_j140 : ∀ (x4 : Int32) (x5 : Int32) (x6 : Int32)  (σ : ab_S), Wire σ → wX12_treeNode_j140 a0 a1 a2 Q E x4 x5 x6 σ → V l mdX12_treeNode B 4 86 0 0 (ab_End (fun v σ' => Wire σ' ∧ v = none ∧ Q σ') (fun X σ' => Wire σ' ∧ E X σ')) 140 [(0, .ref 92), (4, .int x4), (5, .int x5), (6, .int x6)] [] σ := by
    intro x4 x5 x6  σ hW h
    refine V_aload_n 75 0 rfl rfl rfl ?_
    refine V_get (v := .int (σ.2.1 92 40)) 76 40 rfl clX12 flX12_267 (by decide) (wsh hW rfl) (fun _ => rfl) ?_
    refine V_iconst 77 (v := (2 : Int32)) rfl (by decide) ?_
    refine V_icmp_eq 78 (tgt := 157) rfl (by decide) (fun hc => ?_) (fun hc => ?_)
    · replace h := h.1 hc
      refine V_aload_n 84 0 rfl rfl rfl ?_
      refine V_getR 85 63 rfl clX12 flX12_141 (by decide) (wsh hW rfl) (fun _ => rfl) (wrf hW 137 rfl) ?_
      refine V_iload 86 2 rfl rfl ?_
      refine V_iload 87 3 rfl rfl ?_
      refine V_if_eq 88 (tgt := 176) rfl (by decide) (fun hc => ?_) (fun hc => ?_)
      · replace h := h.1 hc
        refine V_aload_n 93 0 rfl rfl rfl ?_
        refine V_callV 94 0 (as := []) (rest := [.int x5, .ref 136]) rfl mlX12_331 yvX12_numberHere rfl rfl clX12 (wsh hW rfl) (by decide) (by decide) (Nat.le_of_ble_eq_true rfl) (by decide) (by decide) (fun B9 => ceX12_numberHere hl B9 hW h) (fun X9 τ9 h9 => VX_out rfl h9) ?_
        rintro v9 σ8 ⟨hW, u9, rfl, h⟩
        refine V_sub [0, 1, 2] (lv' := [(0, .ref 92), (4, .int x4), (5, .int x5)]) rfl ?_
        exact k_j180 x4 x5 u9 x5 σ8 hW h
      · replace h := h.2 hc
        refine V_pc 168 rfl ?_
        refine V_aload_n 89 0 rfl rfl rfl ?_
        refine V_callV 90 0 (as := []) (rest := [.int x5, .ref 136]) rfl mlX12_331 yvX12_numberHere rfl rfl clX12 (wsh hW rfl) (by decide) (by decide) (Nat.le_of_ble_eq_true rfl) (by decide) (by decide) (fun B9 => ceX12_numberHere hl B9 hW h) (fun X9 τ9 h9 => VX_out rfl h9) ?_
        rintro v9 σ10 ⟨hW, u11, rfl, h⟩
        refine V_ineg 91 rfl ?_
        refine V_goto 92 (tgt := 180) rfl (by decide) ?_
        refine V_sub [0, 1, 2] (lv' := [(0, .ref 92), (4, .int x4), (5, .int x5)]) rfl ?_
        exact k_j180 x4 x5 (-u11) x5 σ10 hW h
    · replace h := h.2 hc
      refine V_pc 148 rfl ?_
      refine V_aload_n 79 0 rfl rfl rfl ?_
      refine V_aload_n 80 0 rfl rfl rfl ?_
      refine V_get (v := .int (σ.2.1 92 41)) 81 41 rfl clX12 flX12_252 (by decide) (wsh hW rfl) (fun _ => rfl) ?_
      refine V_callV 82 1 (as := [.int (σ.2.1 92 41)]) (rest := []) rfl mlX12_287 yvX12_fail rfl rfl clX12 (wsh hW rfl) (by decide) (by decide) (Nat.le_of_ble_eq_true rfl) (by decide) (by decide) (fun B9 => ceX12_fail hl B9 hW h) (fun X9 τ9 h9 => VX_out rfl h9) ?_
      rintro v9 σ12 ⟨hW, rfl, h⟩
      exact V_vret 83 rfl rfl ⟨hW, rfl, h⟩
  have k_j129 : ∀ (x4 : Int32) (x5 : Int32) (y0 : Int32)  (σ : ab_S), Wire σ → wX12_treeNode_j129 a0 a1 a2 Q E x4 x5 y0 σ → V l mdX12_treeNode B 4 86 0 0 (ab_End (fun v σ' => Wire σ' ∧ v = none ∧ Q σ') (fun X σ' => Wire σ' ∧ E X σ')) 129 [(0, .ref 92), (4, .int x4), (5, .int x5)] [.int y0] σ := by
    intro x4 x5 y0  σ hW h
    refine V_istore 70 (lv' := [(6, .int y0), (0, .ref 92), (4, .int x4), (5, .int x5)]) rfl (by decide) rfl ?_
    refine V_iload 71 0 rfl rfl ?_
    refine V_if_eq 72 (tgt := 140) rfl (by decide) (fun hc => ?_) (fun hc => ?_)
    · replace h := h.1 hc
      refine V_sub [1, 2, 3, 0] (lv' := [(0, .ref 92), (4, .int x4), (5, .int x5), (6, .int y0)]) rfl ?_
      exact k_j140 x4 x5 y0 σ hW h
    · replace h := h.2 hc
      refine V_pc 136 rfl ?_
      refine V_aload_n 73 1 rfl rfl rfl ?_
      refine V_callV 74 0 (as := []) (rest := []) rfl mlX12_295 yvX12_advance rfl rfl clX12 (wsh hW rfl) (by decide) (by decide) (Nat.le_of_ble_eq_true rfl) (by decide) (by decide) (fun B9 => ceX12_advance hl B9 hW h) (fun X9 τ9 h9 => VX_out rfl h9) ?_
      rintro v9 σ13 ⟨hW, rfl, h⟩
      refine V_sub [1, 2, 3, 0] (lv' := [(0, .ref 92), (4, .int x4), (5, .int x5), (6, .int y0)]) rfl ?_
      exact k_j140 x4 x5 y0 σ13 hW h
  intro σ hW h
  refine V_aload_n 0 0 rfl rfl rfl ?_
  refine V_aload_n 1 0 rfl rfl rfl ?_
  refine V_getR 2 15 rfl clX12 flX12_35 (by decide) (wsh hW rfl) (fun _ => rfl) (wrf hW 102 rfl) ?_
  refine V_iconst 3 (v := (0 : Int32)) rfl (by decide) ?_
  refine V_aload_n 4 0 rfl rfl rfl ?_
  refine V_get (v := .int (σ.2.1 92 14)) 5 14 rfl clX12 flX12_316 (by decide) (wsh hW rfl) (fun _ => rfl) ?_
  refine V_pc 10 rfl ?_
  refine V_callV 6 3 (as := [.ref 101, .int (0 : Int32), .int (σ.2.1 92 14)]) (rest := []) rfl mlX12_298 yvX12_find rfl rfl clX12 (wsh hW rfl) (by decide) (by decide) (Nat.le_of_ble_eq_true rfl) (by decide) (by decide) (fun B9 => ceX12_find hl B9 rfl hW h) (fun X9 τ9 h9 => VX_out rfl h9) ?_
  rintro v9 σ14 ⟨hW, u15, rfl, h⟩
  refine V_istore 7 (lv' := [(4, .int u15), (0, .ref 92), (1, .int a0), (2, .int a1), (3, .int a2)]) rfl (by decide) rfl ?_
  refine V_iload 8 0 rfl rfl ?_
  refine V_if_lt 9 (tgt := 43) rfl (by decide) (fun hc => ?_) (fun hc => ?_)
  · replace h := h.1 hc
    refine V_sub [1] (lv' := [(0, .ref 92)]) rfl ?_
    exact k_j43 σ14 hW h
  · replace h := h.2 hc
    refine V_pc 20 rfl ?_
    refine V_aload_n 10 1 rfl rfl rfl ?_
    refine V_getR 11 18 rfl clX12 flX12_45 (by decide) (wsh hW rfl) (fun _ => rfl) (wrf hW 105 rfl) ?_
    refine V_iconst 12 (v := (4 : Int32)) rfl (by decide) ?_
    refine V_iload 13 0 rfl rfl ?_
    refine V_imul 14 rfl ?_
    obtain ⟨hin, h⟩ := h
    refine V_iald 15 rfl (wsh hW rfl) hin ?_
    refine V_pc 29 rfl ?_
    refine V_iload_n 16 2 rfl rfl rfl ?_
    refine V_icmp_ne 17 (tgt := 43) rfl (by decide) (fun hc => ?_) (fun hc => ?_)
    · replace h := h.1 hc
      refine V_sub [1] (lv' := [(0, .ref 92)]) rfl ?_
      exact k_j43 σ14 hW h
    · replace h := h.2 hc
      refine V_pc 33 rfl ?_
      refine V_aload_n 18 1 rfl rfl rfl ?_
      refine V_get (v := .int (σ14.2.1 92 59)) 19 59 rfl clX12 flX12_508 (by decide) (wsh hW rfl) (fun _ => rfl) ?_
      refine V_sipush 20 (v := (250 : Int32)) rfl (by decide) ?_
      refine V_icmp_ne 21 (tgt := 52) rfl (by decide) (fun hc => ?_) (fun hc => ?_)
      · replace h := h.1 hc
        refine V_aload_n 27 1 rfl rfl rfl ?_
        refine V_get (v := .int (σ14.2.1 92 59)) 28 59 rfl clX12 flX12_508 (by decide) (wsh hW rfl) (fun _ => rfl) ?_
        refine V_topi (fun v16 ev16 => ?_)
        replace h := h v16 ev16
        refine V_istore 29 (lv' := [(5, .int v16), (4, .int u15), (0, .ref 92), (1, .int a0), (2, .int a1), (3, .int a2)]) rfl (by decide) rfl ?_
        refine V_aload_n 30 2 rfl rfl rfl ?_
        refine V_getR 31 60 rfl clX12 flX12_132 (by decide) (wsh hW rfl) (fun _ => rfl) (wrf hW 134 rfl) ?_
        refine V_iload 32 0 rfl rfl ?_
        refine V_pc 64 rfl ?_
        refine V_iload 33 1 rfl rfl ?_
        obtain ⟨hin, h⟩ := h
        refine V_iast 34 rfl (wsh hW rfl) hin ?_
        refine V_nm (fun σ17 eσ17 => ?_)
        replace h := h σ17 eσ17
        have hW := wire_I eσ17 hW
        refine V_aload_n 35 2 rfl rfl rfl ?_
        refine V_getR 36 61 rfl clX12 flX12_135 (by decide) (wsh hW rfl) (fun _ => rfl) (wrf hW 135 rfl) ?_
        refine V_iload 37 0 rfl rfl ?_
        refine V_iload_n 38 4 rfl rfl rfl ?_
        refine V_pc 74 rfl ?_
        obtain ⟨hin, h⟩ := h
        refine V_iast 39 rfl (wsh hW rfl) hin ?_
        refine V_nm (fun σ18 eσ18 => ?_)
        replace h := h σ18 eσ18
        have hW := wire_I eσ18 hW
        refine V_aload_n 40 2 rfl rfl rfl ?_
        refine V_getR 41 62 rfl clX12 flX12_138 (by decide) (wsh hW rfl) (fun _ => rfl) (wrf hW 136 rfl) ?_
        refine V_iload 42 0 rfl rfl ?_
        refine V_iload_n 43 5 rfl rfl rfl ?_
        obtain ⟨hin, h⟩ := h
        refine V_iast 44 rfl (wsh hW rfl) hin ?_
        refine V_nm (fun σ19 eσ19 => ?_)
        replace h := h σ19 eσ19
        have hW := wire_I eσ19 hW
        refine V_pc 83 rfl ?_
        refine V_aload_n 45 2 rfl rfl rfl ?_
        refine V_getR 46 63 rfl clX12 flX12_141 (by decide) (wsh hW rfl) (fun _ => rfl) (wrf hW 137 rfl) ?_
        refine V_iload 47 0 rfl rfl ?_
        refine V_iconst 48 (v := (0 : Int32)) rfl (by decide) ?_
        obtain ⟨hin, h⟩ := h
        refine V_iast 49 rfl (wsh hW rfl) hin ?_
        refine V_nm (fun σ20 eσ20 => ?_)
        replace h := h σ20 eσ20
        have hW := wire_I eσ20 hW
        refine V_aload_n 50 2 rfl rfl rfl ?_
        refine V_pc 92 rfl ?_
        refine V_dup 51 rfl rfl ?_
        refine V_get (v := .int (σ20.2.1 92 59)) 52 59 rfl clX12 flX12_508 (by decide) (wsh hW rfl) (fun _ => rfl) ?_
        refine V_iconst 53 (v := (1 : Int32)) rfl (by decide) ?_
        refine V_iadd 54 rfl ?_
        refine V_putI 55 59 rfl clX12 flX12_508 (by decide) (wsh hW rfl) rfl (fun _ _ => rfl) rfl rfl ?_
        refine V_nm (fun σ21 eσ21 => ?_)
        replace h := h σ21 eσ21
        have hW := wire_I eσ21 hW
        refine V_aload_n 56 2 rfl rfl rfl ?_
        refine V_callV 57 0 (as := []) (rest := []) rfl mlX12_295 yvX12_advance rfl rfl clX12 (wsh hW rfl) (by decide) (by decide) (Nat.le_of_ble_eq_true rfl) (by decide) (by decide) (fun B9 => ceX12_advance hl B9 hW h) (fun X9 τ9 h9 => VX_out rfl h9) ?_
        rintro v9 σ22 ⟨hW, rfl, h⟩
        refine V_aload_n 58 2 rfl rfl rfl ?_
        refine V_getR 59 16 rfl clX12 flX12_38 (by decide) (wsh hW rfl) (fun _ => rfl) (wrf hW 103 rfl) ?_
        refine V_iload 60 1 rfl rfl ?_
        obtain ⟨hin, h⟩ := h
        refine V_zald 61 rfl (wsh hW rfl) hin ?_
        refine V_if_eq 62 (tgt := 185) rfl (by decide) (fun hc => ?_) (fun hc => ?_)
        · replace h := h.1 hc
          refine V_sub [2, 1, 0] (lv' := [(0, .ref 92), (4, .int u15), (5, .int v16)]) rfl ?_
          exact k_j185 u15 v16 σ22 hW h
        · replace h := h.2 hc
          refine V_pc 115 rfl ?_
          refine V_aload_n 63 2 rfl rfl rfl ?_
          refine V_get (v := .int (σ22.2.1 92 40)) 64 40 rfl clX12 flX12_267 (by decide) (wsh hW rfl) (fun _ => rfl) ?_
          refine V_bipush 65 (v := (14 : Int32)) rfl (by decide) ?_
          refine V_icmp_ne 66 (tgt := 128) rfl (by decide) (fun hc => ?_) (fun hc => ?_)
          · replace h := h.1 hc
            refine V_iconst 69 (v := (0 : Int32)) rfl (by decide) ?_
            refine V_sub [2, 1, 0] (lv' := [(0, .ref 92), (4, .int u15), (5, .int v16)]) rfl ?_
            exact k_j129 u15 v16 (0 : Int32) σ22 hW h
          · replace h := h.2 hc
            refine V_pc 124 rfl ?_
            refine V_iconst 67 (v := (1 : Int32)) rfl (by decide) ?_
            refine V_goto 68 (tgt := 129) rfl (by decide) ?_
            refine V_sub [2, 1, 0] (lv' := [(0, .ref 92), (4, .int u15), (5, .int v16)]) rfl ?_
            exact k_j129 u15 v16 (1 : Int32) σ22 hW h
      · replace h := h.2 hc
        refine V_pc 43 rfl ?_
        refine V_sub [1] (lv' := [(0, .ref 92)]) rfl ?_
        exact k_j43 σ14 hW h

def wX12_readTree_j160 (Q : ab_S → Prop) (E : String → ab_S → Prop)  (σ : ab_S) : Prop := wX12_good (fun u2 σ1 => ((u2 = 0) → Q σ1) ∧ (¬ (u2 = 0) → (((σ1.2.1 92 40) = 0) → Q σ1) ∧ (¬ ((σ1.2.1 92 40) = 0) → wX12_fail (σ1.2.1 92 41) (fun σ3 => Q σ3) E σ1))) E σ
def wX12_readTree_j157 (Q : ab_S → Prop) (E : String → ab_S → Prop) (K160 : ab_S → Prop) (Bk : ab_S → Prop)  (σ : ab_S) : Prop := Bk σ
def wX12_readTree_j115 (Q : ab_S → Prop) (E : String → ab_S → Prop) (K160 : ab_S → Prop) (Bk : ab_S → Prop) (x1 : Int32) (x2 : Int32) (x3 : Int32) (σ : ab_S) : Prop := vp_in ((σ.2.1 92 64) - (1 : Int32)) 251 ∧ (vp_in ((σ.2.1 92 64) - (1 : Int32)) 251 ∧ (∀ σ4 : ab_S, σ4 = ab_I σ 138 ((σ.2.1 92 64) - (1 : Int32)).toNatClampNeg ((σ.2.1 138 ((σ.2.1 92 64) - (1 : Int32)).toNatClampNeg) + (1 : Int32)) → wX12_good (fun u6 σ5 => ((u6 = 0) → wX12_readTree_j157 Q E K160 Bk σ5) ∧ (¬ (u6 = 0) → vp_in ((((4 : Int32) * x3) + x2) + (1 : Int32)) 124 ∧ (wX12_treeNode (σ5.2.1 104 ((((4 : Int32) * x3) + x2) + (1 : Int32)).toNatClampNeg) x1 (x2 + (1 : Int32)) (fun σ7 => wX12_readTree_j157 Q E K160 Bk σ7) E σ5))) E σ4))
def wX12_readTree_l31_b (Q : ab_S → Prop) (E : String → ab_S → Prop) (K160 : ab_S → Prop) (Bk : ab_S → Prop)  (σ : ab_S) : Prop := wX12_good (fun u9 σ8 => ((u9 = 0) → K160 σ8) ∧ (¬ (u9 = 0) → (((σ8.2.1 92 64) ≤ 0) → K160 σ8) ∧ (¬ ((σ8.2.1 92 64) ≤ 0) → vp_in ((σ8.2.1 92 64) - (1 : Int32)) 251 ∧ (∀ v10 : Int32, v10 = (σ8.2.1 137 ((σ8.2.1 92 64) - (1 : Int32)).toNatClampNeg) → vp_in ((σ8.2.1 92 64) - (1 : Int32)) 251 ∧ (∀ v11 : Int32, v11 = (σ8.2.1 138 ((σ8.2.1 92 64) - (1 : Int32)).toNatClampNeg) → vp_in v10 251 ∧ (∀ v12 : Int32, v12 = (σ8.2.1 133 v10.toNatClampNeg) → vp_in v12 31 ∧ (((¬ v11 = (σ8.2.1 103 v12.toNatClampNeg)) → ((v11 ≤ 0) → wX12_readTree_j115 Q E K160 Bk v10 v11 v12 σ8) ∧ (¬ (v11 ≤ 0) → wX12_need (6 : Int32) (fun σ13 => wX12_readTree_j115 Q E K160 Bk v10 v11 v12 σ13) E σ8)) ∧ (¬ (¬ v11 = (σ8.2.1 103 v12.toNatClampNeg)) → wX12_need (11 : Int32) (fun σ14 => (∀ σ15 : ab_S, σ15 = ab_I σ14 92 64 ((σ14.2.1 92 64) - (1 : Int32)) → Bk σ15)) E σ8)))))))) E σ
def wX12_readTree_l31 (Q : ab_S → Prop) (E : String → ab_S → Prop) (K160 : ab_S → Prop) : Nat → ab_S → Prop
  | 0, _ => False
  | n + 1, σ => wX12_readTree_l31_b Q E K160 (wX12_readTree_l31 Q E K160 n)  σ
def wX12_readTree  (Q : ab_S → Prop) (E : String → ab_S → Prop) (σ : ab_S) : Prop := (∀ σ16 : ab_S, σ16 = ab_I σ 92 44 (-1 : Int32) → (∀ σ17 : ab_S, σ17 = ab_I σ16 92 59 (0 : Int32) → (∀ σ18 : ab_S, σ18 = ab_I σ17 92 64 (0 : Int32) → (∀ σ19 : ab_S, σ19 = ab_I σ18 92 42 (0 : Int32) → wX12_advance (fun σ20 => wX12_treeNode (0 : Int32) (-1 : Int32) (0 : Int32) (fun σ21 => ∃ n, wX12_readTree_l31 Q E (wX12_readTree_j160 Q E) n σ21) E σ20) E σ19))))
set_option maxHeartbeats 4000000 in
set_option maxRecDepth 100000 in
theorem ceX12_readTree {l : Launch} (hl : l.stackTraces = false) (B : Nat)   {Q : ab_S → Prop} {E : String → ab_S → Prop} {σ : ab_S} (hW : Wire σ) (h : wX12_readTree  Q E σ) : ab_Mt l yX12_readTree mdX12_readTree B 5 112 0 0 [.ref 92] σ (fun v σ' => Wire σ' ∧ v = none ∧ Q σ') (fun X σ' => Wire σ' ∧ E X σ') := by
  refine V_met hl ⟨rfl, rfl, by decide⟩ rfl dkX12_readTree (Nat.le_of_ble_eq_true rfl) ?_
  show V l mdX12_readTree B 5 112 0 0 (ab_End _ _) 0 [(0, .ref 92)] [] σ
  revert h hW
  revert σ
  have k_j160 : ∀   (σ : ab_S), Wire σ → wX12_readTree_j160 Q E  σ → V l mdX12_readTree B 5 112 0 0 (ab_End (fun v σ' => Wire σ' ∧ v = none ∧ Q σ') (fun X σ' => Wire σ' ∧ E X σ')) 160 [(0, .ref 92)] [] σ := by
    intro   σ hW h
    refine V_aload_n 98 0 rfl rfl rfl ?_
    refine V_callV 99 0 (as := []) (rest := []) rfl mlX12_291 yvX12_good rfl rfl clX12 (wsh hW rfl) (by decide) (by decide) (Nat.le_of_ble_eq_true rfl) (by decide) (by decide) (fun B9 => ceX12_good hl B9 hW h) (fun X9 τ9 h9 => VX_out rfl h9) ?_
    rintro v9 σ1 ⟨hW, u2, rfl, h⟩
    refine V_if_eq 100 (tgt := 182) rfl (by decide) (fun hc => ?_) (fun hc => ?_)
    · replace h := h.1 hc
      exact V_vret 108 rfl rfl ⟨hW, rfl, h⟩
    · replace h := h.2 hc
      refine V_pc 167 rfl ?_
      refine V_aload_n 101 0 rfl rfl rfl ?_
      refine V_get (v := .int (σ1.2.1 92 40)) 102 40 rfl clX12 flX12_267 (by decide) (wsh hW rfl) (fun _ => rfl) ?_
      refine V_if_eq 103 (tgt := 182) rfl (by decide) (fun hc => ?_) (fun hc => ?_)
      · replace h := h.1 hc
        exact V_vret 108 rfl rfl ⟨hW, rfl, h⟩
      · replace h := h.2 hc
        refine V_pc 174 rfl ?_
        refine V_aload_n 104 0 rfl rfl rfl ?_
        refine V_aload_n 105 0 rfl rfl rfl ?_
        refine V_get (v := .int (σ1.2.1 92 41)) 106 41 rfl clX12 flX12_252 (by decide) (wsh hW rfl) (fun _ => rfl) ?_
        refine V_callV 107 1 (as := [.int (σ1.2.1 92 41)]) (rest := []) rfl mlX12_287 yvX12_fail rfl rfl clX12 (wsh hW rfl) (by decide) (by decide) (Nat.le_of_ble_eq_true rfl) (by decide) (by decide) (fun B9 => ceX12_fail hl B9 hW h) (fun X9 τ9 h9 => VX_out rfl h9) ?_
        rintro v9 σ3 ⟨hW, rfl, h⟩
        exact V_vret 108 rfl rfl ⟨hW, rfl, h⟩
  have k_l31 : ∀ (n : Nat)   (σ : ab_S), Wire σ → wX12_readTree_l31 Q E (wX12_readTree_j160 Q E) n  σ → V l mdX12_readTree B 5 112 0 0 (ab_End (fun v σ' => Wire σ' ∧ v = none ∧ Q σ') (fun X σ' => Wire σ' ∧ E X σ')) 31 [(0, .ref 92)] [] σ := by
    have step : ∀ (K160 : ab_S → Prop) (k_K160 : ∀   (σ : ab_S), Wire σ → K160  σ → V l mdX12_readTree B 5 112 0 0 (ab_End (fun v σ' => Wire σ' ∧ v = none ∧ Q σ') (fun X σ' => Wire σ' ∧ E X σ')) 160 [(0, .ref 92)] [] σ), ∀ (Bk : ab_S → Prop) (k_Bk : ∀   (σ : ab_S), Wire σ → Bk  σ → V l mdX12_readTree B 5 112 0 0 (ab_End (fun v σ' => Wire σ' ∧ v = none ∧ Q σ') (fun X σ' => Wire σ' ∧ E X σ')) 31 [(0, .ref 92)] [] σ), ∀   (σ : ab_S), Wire σ → wX12_readTree_l31_b Q E K160 Bk  σ → V l mdX12_readTree B 5 112 0 0 (ab_End (fun v σ' => Wire σ' ∧ v = none ∧ Q σ') (fun X σ' => Wire σ' ∧ E X σ')) 31 [(0, .ref 92)] [] σ := by
      intro K160 k_K160 Bk k_Bk
      have k_j157 : ∀   (σ : ab_S), Wire σ → wX12_readTree_j157 Q E K160 Bk  σ → V l mdX12_readTree B 5 112 0 0 (ab_End (fun v σ' => Wire σ' ∧ v = none ∧ Q σ') (fun X σ' => Wire σ' ∧ E X σ')) 157 [(0, .ref 92)] [] σ := by
        intro   σ hW h
        refine V_goto 97 (tgt := 31) rfl (by decide) ?_
        exact k_Bk  σ hW h
      have k_j115 : ∀ (x1 : Int32) (x2 : Int32) (x3 : Int32)  (σ : ab_S), Wire σ → wX12_readTree_j115 Q E K160 Bk x1 x2 x3 σ → V l mdX12_readTree B 5 112 0 0 (ab_End (fun v σ' => Wire σ' ∧ v = none ∧ Q σ') (fun X σ' => Wire σ' ∧ E X σ')) 115 [(0, .ref 92), (1, .int x1), (2, .int x2), (3, .int x3)] [] σ := by
        intro x1 x2 x3  σ hW h
        refine V_aload_n 67 0 rfl rfl rfl ?_
        refine V_getR 68 66 rfl clX12 flX12_147 (by decide) (wsh hW rfl) (fun _ => rfl) (wrf hW 139 rfl) ?_
        refine V_aload_n 69 0 rfl rfl rfl ?_
        refine V_get (v := .int (σ.2.1 92 64)) 70 64 rfl clX12 flX12_511 (by decide) (wsh hW rfl) (fun _ => rfl) ?_
        refine V_iconst 71 (v := (1 : Int32)) rfl (by decide) ?_
        refine V_isub 72 rfl ?_
        refine V_pc 125 rfl ?_
        refine V_dup2 73 rfl rfl rfl ?_
        obtain ⟨hin, h⟩ := h
        refine V_iald 74 rfl (wsh hW rfl) hin ?_
        refine V_iconst 75 (v := (1 : Int32)) rfl (by decide) ?_
        refine V_iadd 76 rfl ?_
        obtain ⟨hin, h⟩ := h
        refine V_iast 77 rfl (wsh hW rfl) hin ?_
        refine V_nm (fun σ4 eσ4 => ?_)
        replace h := h σ4 eσ4
        have hW := wire_I eσ4 hW
        refine V_aload_n 78 0 rfl rfl rfl ?_
        refine V_pc 131 rfl ?_
        refine V_callV 79 0 (as := []) (rest := []) rfl mlX12_291 yvX12_good rfl rfl clX12 (wsh hW rfl) (by decide) (by decide) (Nat.le_of_ble_eq_true rfl) (by decide) (by decide) (fun B9 => ceX12_good hl B9 hW h) (fun X9 τ9 h9 => VX_out rfl h9) ?_
        rintro v9 σ5 ⟨hW, u6, rfl, h⟩
        refine V_if_eq 80 (tgt := 157) rfl (by decide) (fun hc => ?_) (fun hc => ?_)
        · replace h := h.1 hc
          refine V_sub [0] (lv' := [(0, .ref 92)]) rfl ?_
          exact k_j157 σ5 hW h
        · replace h := h.2 hc
          refine V_pc 137 rfl ?_
          refine V_aload_n 81 0 rfl rfl rfl ?_
          refine V_aload_n 82 0 rfl rfl rfl ?_
          refine V_getR 83 18 rfl clX12 flX12_45 (by decide) (wsh hW rfl) (fun _ => rfl) (wrf hW 105 rfl) ?_
          refine V_iconst 84 (v := (4 : Int32)) rfl (by decide) ?_
          refine V_iload_n 85 3 rfl rfl rfl ?_
          refine V_imul 86 rfl ?_
          refine V_pc 145 rfl ?_
          refine V_iload_n 87 2 rfl rfl rfl ?_
          refine V_iadd 88 rfl ?_
          refine V_iconst 89 (v := (1 : Int32)) rfl (by decide) ?_
          refine V_iadd 90 rfl ?_
          obtain ⟨hin, h⟩ := h
          refine V_iald 91 rfl (wsh hW rfl) hin ?_
          refine V_iload_n 92 1 rfl rfl rfl ?_
          refine V_pc 151 rfl ?_
          refine V_iload_n 93 2 rfl rfl rfl ?_
          refine V_iconst 94 (v := (1 : Int32)) rfl (by decide) ?_
          refine V_iadd 95 rfl ?_
          refine V_callV 96 3 (as := [.int (σ5.2.1 104 ((((4 : Int32) * x3) + x2) + (1 : Int32)).toNatClampNeg), .int x1, .int (x2 + (1 : Int32))]) (rest := []) rfl mlX12_514 yvX12_treeNode rfl rfl clX12 (wsh hW rfl) (by decide) (by decide) (Nat.le_of_ble_eq_true rfl) (by decide) (by decide) (fun B9 => ceX12_treeNode hl B9 hW h) (fun X9 τ9 h9 => VX_out rfl h9) ?_
          rintro v9 σ7 ⟨hW, rfl, h⟩
          refine V_sub [0] (lv' := [(0, .ref 92)]) rfl ?_
          exact k_j157 σ7 hW h
      intro   σ hW h
      refine V_aload_n 19 0 rfl rfl rfl ?_
      refine V_callV 20 0 (as := []) (rest := []) rfl mlX12_291 yvX12_good rfl rfl clX12 (wsh hW rfl) (by decide) (by decide) (Nat.le_of_ble_eq_true rfl) (by decide) (by decide) (fun B9 => ceX12_good hl B9 hW h) (fun X9 τ9 h9 => VX_out rfl h9) ?_
      rintro v9 σ8 ⟨hW, u9, rfl, h⟩
      refine V_if_eq 21 (tgt := 160) rfl (by decide) (fun hc => ?_) (fun hc => ?_)
      · replace h := h.1 hc
        exact k_K160  σ8 hW h
      · replace h := h.2 hc
        refine V_pc 38 rfl ?_
        refine V_aload_n 22 0 rfl rfl rfl ?_
        refine V_get (v := .int (σ8.2.1 92 64)) 23 64 rfl clX12 flX12_511 (by decide) (wsh hW rfl) (fun _ => rfl) ?_
        refine V_if_le 24 (tgt := 160) rfl (by decide) (fun hc => ?_) (fun hc => ?_)
        · replace h := h.1 hc
          exact k_K160  σ8 hW h
        · replace h := h.2 hc
          refine V_pc 45 rfl ?_
          refine V_aload_n 25 0 rfl rfl rfl ?_
          refine V_getR 26 65 rfl clX12 flX12_144 (by decide) (wsh hW rfl) (fun _ => rfl) (wrf hW 138 rfl) ?_
          refine V_aload_n 27 0 rfl rfl rfl ?_
          refine V_get (v := .int (σ8.2.1 92 64)) 28 64 rfl clX12 flX12_511 (by decide) (wsh hW rfl) (fun _ => rfl) ?_
          refine V_iconst 29 (v := (1 : Int32)) rfl (by decide) ?_
          refine V_isub 30 rfl ?_
          refine V_pc 55 rfl ?_
          obtain ⟨hin, h⟩ := h
          refine V_iald 31 rfl (wsh hW rfl) hin ?_
          refine V_topi (fun v10 ev10 => ?_)
          replace h := h v10 ev10
          refine V_istore_n 32 (lv' := [(1, .int v10), (0, .ref 92)]) rfl rfl (by decide) rfl ?_
          refine V_aload_n 33 1 rfl rfl rfl ?_
          refine V_getR 34 66 rfl clX12 flX12_147 (by decide) (wsh hW rfl) (fun _ => rfl) (wrf hW 139 rfl) ?_
          refine V_aload_n 35 1 rfl rfl rfl ?_
          refine V_get (v := .int (σ8.2.1 92 64)) 36 64 rfl clX12 flX12_511 (by decide) (wsh hW rfl) (fun _ => rfl) ?_
          refine V_pc 65 rfl ?_
          refine V_iconst 37 (v := (1 : Int32)) rfl (by decide) ?_
          refine V_isub 38 rfl ?_
          obtain ⟨hin, h⟩ := h
          refine V_iald 39 rfl (wsh hW rfl) hin ?_
          refine V_topi (fun v11 ev11 => ?_)
          replace h := h v11 ev11
          refine V_istore_n 40 (lv' := [(2, .int v11), (1, .int v10), (0, .ref 92)]) rfl rfl (by decide) rfl ?_
          refine V_aload_n 41 2 rfl rfl rfl ?_
          refine V_getR 42 60 rfl clX12 flX12_132 (by decide) (wsh hW rfl) (fun _ => rfl) (wrf hW 134 rfl) ?_
          refine V_pc 73 rfl ?_
          refine V_iload_n 43 1 rfl rfl rfl ?_
          obtain ⟨hin, h⟩ := h
          refine V_iald 44 rfl (wsh hW rfl) hin ?_
          refine V_topi (fun v12 ev12 => ?_)
          replace h := h v12 ev12
          refine V_istore_n 45 (lv' := [(3, .int v12), (2, .int v11), (1, .int v10), (0, .ref 92)]) rfl rfl (by decide) rfl ?_
          refine V_iload_n 46 1 rfl rfl rfl ?_
          refine V_aload_n 47 3 rfl rfl rfl ?_
          refine V_getR 48 17 rfl clX12 flX12_42 (by decide) (wsh hW rfl) (fun _ => rfl) (wrf hW 104 rfl) ?_
          refine V_pc 81 rfl ?_
          refine V_iload_n 49 0 rfl rfl rfl ?_
          obtain ⟨hin, h⟩ := h
          refine V_iald 50 rfl (wsh hW rfl) hin ?_
          refine V_icmp_ne 51 (tgt := 105) rfl (by decide) (fun hc => ?_) (fun hc => ?_)
          · replace h := h.1 hc
            refine V_iload_n 62 1 rfl rfl rfl ?_
            refine V_if_le 63 (tgt := 115) rfl (by decide) (fun hc => ?_) (fun hc => ?_)
            · replace h := h.1 hc
              refine V_sub [3, 2, 1, 0] (lv' := [(0, .ref 92), (1, .int v10), (2, .int v11), (3, .int v12)]) rfl ?_
              exact k_j115 v10 v11 v12 σ8 hW h
            · replace h := h.2 hc
              refine V_pc 109 rfl ?_
              refine V_aload_n 64 3 rfl rfl rfl ?_
              refine V_bipush 65 (v := (6 : Int32)) rfl (by decide) ?_
              refine V_callV 66 1 (as := [.int (6 : Int32)]) (rest := []) rfl mlX12_313 yvX12_need rfl rfl clX12 (wsh hW rfl) (by decide) (by decide) (Nat.le_of_ble_eq_true rfl) (by decide) (by decide) (fun B9 => ceX12_need hl B9 hW h) (fun X9 τ9 h9 => VX_out rfl h9) ?_
              rintro v9 σ13 ⟨hW, rfl, h⟩
              refine V_sub [3, 2, 1, 0] (lv' := [(0, .ref 92), (1, .int v10), (2, .int v11), (3, .int v12)]) rfl ?_
              exact k_j115 v10 v11 v12 σ13 hW h
          · replace h := h.2 hc
            refine V_pc 86 rfl ?_
            refine V_aload_n 52 3 rfl rfl rfl ?_
            refine V_bipush 53 (v := (11 : Int32)) rfl (by decide) ?_
            refine V_callV 54 1 (as := [.int (11 : Int32)]) (rest := []) rfl mlX12_313 yvX12_need rfl rfl clX12 (wsh hW rfl) (by decide) (by decide) (Nat.le_of_ble_eq_true rfl) (by decide) (by decide) (fun B9 => ceX12_need hl B9 hW h) (fun X9 τ9 h9 => VX_out rfl h9) ?_
            rintro v9 σ14 ⟨hW, rfl, h⟩
            refine V_aload_n 55 3 rfl rfl rfl ?_
            refine V_dup 56 rfl rfl ?_
            refine V_get (v := .int (σ14.2.1 92 64)) 57 64 rfl clX12 flX12_511 (by decide) (wsh hW rfl) (fun _ => rfl) ?_
            refine V_iconst 58 (v := (1 : Int32)) rfl (by decide) ?_
            refine V_isub 59 rfl ?_
            refine V_pc 99 rfl ?_
            refine V_putI 60 64 rfl clX12 flX12_511 (by decide) (wsh hW rfl) rfl (fun _ _ => rfl) rfl rfl ?_
            refine V_nm (fun σ15 eσ15 => ?_)
            replace h := h σ15 eσ15
            have hW := wire_I eσ15 hW
            refine V_goto 61 (tgt := 31) rfl (by decide) ?_
            refine V_sub [3] (lv' := [(0, .ref 92)]) rfl ?_
            exact k_Bk  σ15 hW h
    intro n
    induction n with
    | zero => intro   σ hW h; exact absurd h id
    | succ n ih => exact step _ k_j160 _ ih
  intro σ hW h
  refine V_aload_n 0 0 rfl rfl rfl ?_
  refine V_iconst 1 (v := (-1 : Int32)) rfl (by decide) ?_
  refine V_putI 2 44 rfl clX12 flX12_284 (by decide) (wsh hW rfl) rfl (fun _ _ => rfl) rfl rfl ?_
  refine V_nm (fun σ16 eσ16 => ?_)
  replace h := h σ16 eσ16
  have hW := wire_I eσ16 hW
  refine V_aload_n 3 0 rfl rfl rfl ?_
  refine V_iconst 4 (v := (0 : Int32)) rfl (by decide) ?_
  refine V_putI 5 59 rfl clX12 flX12_508 (by decide) (wsh hW rfl) rfl (fun _ _ => rfl) rfl rfl ?_
  refine V_nm (fun σ17 eσ17 => ?_)
  replace h := h σ17 eσ17
  have hW := wire_I eσ17 hW
  refine V_aload_n 6 0 rfl rfl rfl ?_
  refine V_iconst 7 (v := (0 : Int32)) rfl (by decide) ?_
  refine V_putI 8 64 rfl clX12 flX12_511 (by decide) (wsh hW rfl) rfl (fun _ _ => rfl) rfl rfl ?_
  refine V_nm (fun σ18 eσ18 => ?_)
  replace h := h σ18 eσ18
  have hW := wire_I eσ18 hW
  refine V_aload_n 9 0 rfl rfl rfl ?_
  refine V_iconst 10 (v := (0 : Int32)) rfl (by decide) ?_
  refine V_putI 11 42 rfl clX12 flX12_255 (by decide) (wsh hW rfl) rfl (fun _ _ => rfl) rfl rfl ?_
  refine V_nm (fun σ19 eσ19 => ?_)
  replace h := h σ19 eσ19
  have hW := wire_I eσ19 hW
  refine V_aload_n 12 0 rfl rfl rfl ?_
  refine V_callV 13 0 (as := []) (rest := []) rfl mlX12_295 yvX12_advance rfl rfl clX12 (wsh hW rfl) (by decide) (by decide) (Nat.le_of_ble_eq_true rfl) (by decide) (by decide) (fun B9 => ceX12_advance hl B9 hW h) (fun X9 τ9 h9 => VX_out rfl h9) ?_
  rintro v9 σ20 ⟨hW, rfl, h⟩
  refine V_aload_n 14 0 rfl rfl rfl ?_
  refine V_iconst 15 (v := (0 : Int32)) rfl (by decide) ?_
  refine V_iconst 16 (v := (-1 : Int32)) rfl (by decide) ?_
  refine V_iconst 17 (v := (0 : Int32)) rfl (by decide) ?_
  refine V_callV 18 3 (as := [.int (0 : Int32), .int (-1 : Int32), .int (0 : Int32)]) (rest := []) rfl mlX12_514 yvX12_treeNode rfl rfl clX12 (wsh hW rfl) (by decide) (by decide) (Nat.le_of_ble_eq_true rfl) (by decide) (by decide) (fun B9 => ceX12_treeNode hl B9 hW h) (fun X9 τ9 h9 => VX_out rfl h9) ?_
  rintro v9 σ21 ⟨hW, rfl, h⟩
  obtain ⟨n, h⟩ := h
  exact k_l31 n σ21 hW h

def wX12_valueAt_j27 (a0 : Int32) (a1 : Int32) (Q : Int32 → ab_S → Prop) (E : String → ab_S → Prop) (y0 : Int32) (y1 : Int32) (σ : ab_S) : Prop := Q ((y1 * y0) + (a1 - a1 / (8 : Int32) * (8 : Int32))) σ
def wX12_valueAt (a0 : Int32) (a1 : Int32) (Q : Int32 → ab_S → Prop) (E : String → ab_S → Prop) (σ : ab_S) : Prop := ∀ v1 : Int32, v1 = (a1 / (8 : Int32)) → ((¬ v1 = 0) → vp_in ((((3 : Int32) * a0) + v1) - (1 : Int32)) 753 ∧ (wX12_valueAt_j27 a0 a1 Q E (σ.2.1 132 ((((3 : Int32) * a0) + v1) - (1 : Int32)).toNatClampNeg) (8 : Int32) σ)) ∧ (¬ (¬ v1 = 0) → wX12_valueAt_j27 a0 a1 Q E a0 (8 : Int32) σ)
set_option maxHeartbeats 4000000 in
set_option maxRecDepth 100000 in
theorem ceX12_valueAt {l : Launch} (hl : l.stackTraces = false) (B : Nat) {a0 : Int32} {a1 : Int32}  {Q : Int32 → ab_S → Prop} {E : String → ab_S → Prop} {σ : ab_S} (hW : Wire σ) (h : wX12_valueAt a0 a1 Q E σ) : ab_Mt l yX12_valueAt mdX12_valueAt B 0 0 0 0 [.ref 92, .int a0, .int a1] σ (fun v σ' => Wire σ' ∧ ∃ r : Int32, v = some (.int r) ∧ Q r σ') (fun X σ' => Wire σ' ∧ E X σ') := by
  refine V_met hl ⟨rfl, rfl, by decide⟩ rfl dkX12_valueAt (Nat.le_of_ble_eq_true rfl) ?_
  show V l mdX12_valueAt B 0 0 0 0 (ab_End _ _) 0 [(0, .ref 92), (1, .int a0), (2, .int a1)] [] σ
  revert h hW
  revert σ
  have k_j27 : ∀ (y0 : Int32) (y1 : Int32)  (σ : ab_S), Wire σ → wX12_valueAt_j27 a0 a1 Q E y0 y1 σ → V l mdX12_valueAt B 0 0 0 0 (ab_End (fun v σ' => Wire σ' ∧ ∃ r : Int32, v = some (.int r) ∧ Q r σ') (fun X σ' => Wire σ' ∧ E X σ')) 27 [(2, .int a1)] [.int y0, .int y1] σ := by
    intro y0 y1  σ hW h
    refine V_imul 19 rfl ?_
    refine V_iload_n 20 0 rfl rfl rfl ?_
    refine V_bipush 21 (v := (8 : Int32)) rfl (by decide) ?_
    refine V_irem 22 rfl (by decide) ?_
    refine V_iadd 23 rfl ?_
    exact V_iret 24 rfl rfl ⟨hW, _, rfl, h⟩
  intro σ hW h
  refine V_iload_n 0 2 rfl rfl rfl ?_
  refine V_bipush 1 (v := (8 : Int32)) rfl (by decide) ?_
  refine V_idiv 2 rfl (by decide) ?_
  refine V_topi (fun v1 ev1 => ?_)
  replace h := h v1 ev1
  refine V_istore_n 3 (lv' := [(3, .int v1), (0, .ref 92), (1, .int a0), (2, .int a1)]) rfl rfl (by decide) rfl ?_
  refine V_bipush 4 (v := (8 : Int32)) rfl (by decide) ?_
  refine V_iload_n 5 0 rfl rfl rfl ?_
  refine V_pc 8 rfl ?_
  refine V_if_ne 6 (tgt := 15) rfl (by decide) (fun hc => ?_) (fun hc => ?_)
  · replace h := h.1 hc
    refine V_aload_n 9 1 rfl rfl rfl ?_
    refine V_getR 10 58 rfl clX12 flX12_129 (by decide) (wsh hW rfl) (fun _ => rfl) (wrf hW 133 rfl) ?_
    refine V_iconst 11 (v := (3 : Int32)) rfl (by decide) ?_
    refine V_iload_n 12 2 rfl rfl rfl ?_
    refine V_imul 13 rfl ?_
    refine V_iload_n 14 0 rfl rfl rfl ?_
    refine V_pc 23 rfl ?_
    refine V_iadd 15 rfl ?_
    refine V_iconst 16 (v := (1 : Int32)) rfl (by decide) ?_
    refine V_isub 17 rfl ?_
    obtain ⟨hin, h⟩ := h
    refine V_iald 18 rfl (wsh hW rfl) hin ?_
    refine V_sub [3] (lv' := [(2, .int a1)]) rfl ?_
    exact k_j27 (σ.2.1 132 ((((3 : Int32) * a0) + v1) - (1 : Int32)).toNatClampNeg) (8 : Int32) σ hW h
  · replace h := h.2 hc
    refine V_pc 11 rfl ?_
    refine V_iload_n 7 2 rfl rfl rfl ?_
    refine V_goto 8 (tgt := 27) rfl (by decide) ?_
    refine V_sub [3] (lv' := [(2, .int a1)]) rfl ?_
    exact k_j27 a0 (8 : Int32) σ hW h

def wX12_isReady_j76 (a0 : Int32) (a1 : Int32) (Q : Int32 → ab_S → Prop) (E : String → ab_S → Prop) (Bk : Int32 → Int32 → Int32 → ab_S → Prop) (x3 : Int32) (x5 : Int32) (y0 : Int32) (σ : ab_S) : Prop := ∀ v1 : Int32, v1 = (x5 + 1) → Bk x3 y0 v1 σ
def wX12_isReady_j71 (a0 : Int32) (a1 : Int32) (Q : Int32 → ab_S → Prop) (E : String → ab_S → Prop) (Bk : Int32 → Int32 → Int32 → ab_S → Prop) (x3 : Int32) (x5 : Int32) (σ : ab_S) : Prop := wX12_isReady_j76 a0 a1 Q E Bk x3 x5 (1 : Int32) σ
def wX12_isReady_j75 (a0 : Int32) (a1 : Int32) (Q : Int32 → ab_S → Prop) (E : String → ab_S → Prop) (Bk : Int32 → Int32 → Int32 → ab_S → Prop) (x3 : Int32) (x5 : Int32) (σ : ab_S) : Prop := wX12_isReady_j76 a0 a1 Q E Bk x3 x5 (0 : Int32) σ
def wX12_isReady_l23_b (a0 : Int32) (a1 : Int32) (Q : Int32 → ab_S → Prop) (E : String → ab_S → Prop) (Bk : Int32 → Int32 → Int32 → ab_S → Prop) (x3 : Int32) (x4 : Int32) (x5 : Int32) (σ : ab_S) : Prop := vp_in x3 992 ∧ ((((σ.2.1 106 x3.toNatClampNeg) ≤ x5) → (x4 = 0 ∨ x4 = 1) ∧ Q x4 σ) ∧ (¬ ((σ.2.1 106 x3.toNatClampNeg) ≤ x5) → ((x4 = 0) → wX12_isReady_j75 a0 a1 Q E Bk x3 x5 σ) ∧ (¬ (x4 = 0) → vp_in x5 2500 ∧ (((¬ (σ.2.1 107 x5.toNatClampNeg) = (50 : Int32)) → wX12_isReady_j71 a0 a1 Q E Bk x3 x5 σ) ∧ (¬ (¬ (σ.2.1 107 x5.toNatClampNeg) = (50 : Int32)) → vp_in x5 2500 ∧ (wX12_valueAt a0 (σ.2.1 108 x5.toNatClampNeg) (fun u3 σ2 => vp_in u3 2000 ∧ ((((σ2.2.1 140 u3.toNatClampNeg) = 0) → wX12_isReady_j75 a0 a1 Q E Bk x3 x5 σ2) ∧ (¬ ((σ2.2.1 140 u3.toNatClampNeg) = 0) → wX12_isReady_j71 a0 a1 Q E Bk x3 x5 σ2))) E σ))))))
def wX12_isReady_l23 (a0 : Int32) (a1 : Int32) (Q : Int32 → ab_S → Prop) (E : String → ab_S → Prop) : Nat → Int32 → Int32 → Int32 → ab_S → Prop
  | 0, _, _, _, _ => False
  | n + 1, x3, x4, x5, σ => wX12_isReady_l23_b a0 a1 Q E (wX12_isReady_l23 a0 a1 Q E n) x3 x4 x5 σ
def wX12_isReady (a0 : Int32) (a1 : Int32) (Q : Int32 → ab_S → Prop) (E : String → ab_S → Prop) (σ : ab_S) : Prop := vp_in a0 251 ∧ (∀ v4 : Int32, v4 = (((32 : Int32) * (σ.2.1 128 a0.toNatClampNeg)) + a1) → vp_in v4 992 ∧ (∀ v5 : Int32, v5 = (σ.2.1 105 v4.toNatClampNeg) → ∃ n, wX12_isReady_l23 a0 a1 Q E n v4 (1 : Int32) v5 σ))
set_option maxHeartbeats 4000000 in
set_option maxRecDepth 100000 in
theorem ceX12_isReady {l : Launch} (hl : l.stackTraces = false) (B : Nat) {a0 : Int32} {a1 : Int32}  {Q : Int32 → ab_S → Prop} {E : String → ab_S → Prop} {σ : ab_S} (hW : Wire σ) (h : wX12_isReady a0 a1 Q E σ) : ab_Mt l yX12_isReady mdX12_isReady B 1 23 0 0 [.ref 92, .int a0, .int a1] σ (fun v σ' => Wire σ' ∧ ∃ r : Int32, v = some (.int r) ∧ Q r σ') (fun X σ' => Wire σ' ∧ E X σ') := by
  refine V_met hl ⟨rfl, rfl, by decide⟩ rfl dkX12_isReady (Nat.le_of_ble_eq_true rfl) ?_
  show V l mdX12_isReady B 1 23 0 0 (ab_End _ _) 0 [(0, .ref 92), (1, .int a0), (2, .int a1)] [] σ
  revert h hW
  revert σ
  have k_l23 : ∀ (n : Nat) (x3 : Int32) (x4 : Int32) (x5 : Int32)  (σ : ab_S), Wire σ → wX12_isReady_l23 a0 a1 Q E n x3 x4 x5 σ → V l mdX12_isReady B 1 23 0 0 (ab_End (fun v σ' => Wire σ' ∧ ∃ r : Int32, v = some (.int r) ∧ Q r σ') (fun X σ' => Wire σ' ∧ E X σ')) 23 [(0, .ref 92), (1, .int a0), (3, .int x3), (4, .int x4), (5, .int x5)] [] σ := by
    have step : ∀ (Bk : Int32 → Int32 → Int32 → ab_S → Prop) (k_Bk : ∀ (x3 : Int32) (x4 : Int32) (x5 : Int32)  (σ : ab_S), Wire σ → Bk x3 x4 x5 σ → V l mdX12_isReady B 1 23 0 0 (ab_End (fun v σ' => Wire σ' ∧ ∃ r : Int32, v = some (.int r) ∧ Q r σ') (fun X σ' => Wire σ' ∧ E X σ')) 23 [(0, .ref 92), (1, .int a0), (3, .int x3), (4, .int x4), (5, .int x5)] [] σ), ∀ (x3 : Int32) (x4 : Int32) (x5 : Int32)  (σ : ab_S), Wire σ → wX12_isReady_l23_b a0 a1 Q E Bk x3 x4 x5 σ → V l mdX12_isReady B 1 23 0 0 (ab_End (fun v σ' => Wire σ' ∧ ∃ r : Int32, v = some (.int r) ∧ Q r σ') (fun X σ' => Wire σ' ∧ E X σ')) 23 [(0, .ref 92), (1, .int a0), (3, .int x3), (4, .int x4), (5, .int x5)] [] σ := by
      intro Bk k_Bk
      have k_j76 : ∀ (x3 : Int32) (x5 : Int32) (y0 : Int32)  (σ : ab_S), Wire σ → wX12_isReady_j76 a0 a1 Q E Bk x3 x5 y0 σ → V l mdX12_isReady B 1 23 0 0 (ab_End (fun v σ' => Wire σ' ∧ ∃ r : Int32, v = some (.int r) ∧ Q r σ') (fun X σ' => Wire σ' ∧ E X σ')) 76 [(0, .ref 92), (1, .int a0), (3, .int x3), (5, .int x5)] [.int y0] σ := by
        intro x3 x5 y0  σ hW h
        refine V_istore 44 (lv' := [(4, .int y0), (0, .ref 92), (1, .int a0), (3, .int x3), (5, .int x5)]) rfl (by decide) rfl ?_
        obtain ⟨v1, ev1⟩ : ∃ z : Int32, z = (x5 + 1) := ⟨_, rfl⟩
        replace h := h v1 ev1
        refine V_iinc 45 4 (v := v1) (lv' := [(5, .int v1), (4, .int y0), (0, .ref 92), (1, .int a0), (3, .int x3)]) rfl rfl ((in_1 _).trans ev1.symm) (by decide) rfl ?_
        refine V_goto 46 (tgt := 23) rfl (by decide) ?_
        refine V_sub [2, 3, 4, 1, 0] (lv' := [(0, .ref 92), (1, .int a0), (3, .int x3), (4, .int y0), (5, .int v1)]) rfl ?_
        exact k_Bk x3 y0 v1  σ hW h
      have k_j71 : ∀ (x3 : Int32) (x5 : Int32)  (σ : ab_S), Wire σ → wX12_isReady_j71 a0 a1 Q E Bk x3 x5 σ → V l mdX12_isReady B 1 23 0 0 (ab_End (fun v σ' => Wire σ' ∧ ∃ r : Int32, v = some (.int r) ∧ Q r σ') (fun X σ' => Wire σ' ∧ E X σ')) 71 [(0, .ref 92), (1, .int a0), (3, .int x3), (5, .int x5)] [] σ := by
        intro x3 x5  σ hW h
        refine V_iconst 41 (v := (1 : Int32)) rfl (by decide) ?_
        refine V_goto 42 (tgt := 76) rfl (by decide) ?_
        exact k_j76 x3 x5 (1 : Int32) σ hW h
      have k_j75 : ∀ (x3 : Int32) (x5 : Int32)  (σ : ab_S), Wire σ → wX12_isReady_j75 a0 a1 Q E Bk x3 x5 σ → V l mdX12_isReady B 1 23 0 0 (ab_End (fun v σ' => Wire σ' ∧ ∃ r : Int32, v = some (.int r) ∧ Q r σ') (fun X σ' => Wire σ' ∧ E X σ')) 75 [(0, .ref 92), (1, .int a0), (3, .int x3), (5, .int x5)] [] σ := by
        intro x3 x5  σ hW h
        refine V_iconst 43 (v := (0 : Int32)) rfl (by decide) ?_
        exact k_j76 x3 x5 (0 : Int32) σ hW h
      intro x3 x4 x5  σ hW h
      refine V_iload 16 4 rfl rfl ?_
      refine V_aload_n 17 0 rfl rfl rfl ?_
      refine V_getR 18 20 rfl clX12 flX12_51 (by decide) (wsh hW rfl) (fun _ => rfl) (wrf hW 107 rfl) ?_
      refine V_iload_n 19 2 rfl rfl rfl ?_
      obtain ⟨hin, h⟩ := h
      refine V_iald 20 rfl (wsh hW rfl) hin ?_
      refine V_icmp_ge 21 (tgt := 84) rfl (by decide) (fun hc => ?_) (fun hc => ?_)
      · replace h := h.1 hc
        refine V_iload 47 3 rfl rfl ?_
        exact V_zret 48 rfl rfl (nb1 h.1) ⟨hW, _, rfl, h.2⟩
      · replace h := h.2 hc
        refine V_pc 34 rfl ?_
        refine V_iload 22 3 rfl rfl ?_
        refine V_if_eq 23 (tgt := 75) rfl (by decide) (fun hc => ?_) (fun hc => ?_)
        · replace h := h.1 hc
          refine V_sub [0, 1, 2, 4] (lv' := [(0, .ref 92), (1, .int a0), (3, .int x3), (5, .int x5)]) rfl ?_
          exact k_j75 x3 x5 σ hW h
        · replace h := h.2 hc
          refine V_pc 39 rfl ?_
          refine V_aload_n 24 0 rfl rfl rfl ?_
          refine V_getR 25 22 rfl clX12 flX12_54 (by decide) (wsh hW rfl) (fun _ => rfl) (wrf hW 108 rfl) ?_
          refine V_iload 26 4 rfl rfl ?_
          obtain ⟨hin, h⟩ := h
          refine V_iald 27 rfl (wsh hW rfl) hin ?_
          refine V_bipush 28 (v := (50 : Int32)) rfl (by decide) ?_
          refine V_icmp_ne 29 (tgt := 71) rfl (by decide) (fun hc => ?_) (fun hc => ?_)
          · replace h := h.1 hc
            refine V_sub [0, 1, 2, 4] (lv' := [(0, .ref 92), (1, .int a0), (3, .int x3), (5, .int x5)]) rfl ?_
            exact k_j71 x3 x5 σ hW h
          · replace h := h.2 hc
            refine V_pc 51 rfl ?_
            refine V_aload_n 30 0 rfl rfl rfl ?_
            refine V_getR 31 68 rfl clX12 flX12_153 (by decide) (wsh hW rfl) (fun _ => rfl) (wrf hW 141 rfl) ?_
            refine V_aload_n 32 0 rfl rfl rfl ?_
            refine V_iload_n 33 1 rfl rfl rfl ?_
            refine V_aload_n 34 0 rfl rfl rfl ?_
            refine V_getR 35 23 rfl clX12 flX12_57 (by decide) (wsh hW rfl) (fun _ => rfl) (wrf hW 109 rfl) ?_
            refine V_pc 61 rfl ?_
            refine V_iload 36 4 rfl rfl ?_
            obtain ⟨hin, h⟩ := h
            refine V_iald 37 rfl (wsh hW rfl) hin ?_
            refine V_callV 38 2 (as := [.int a0, .int (σ.2.1 108 x5.toNatClampNeg)]) (rest := [.ref 140]) rfl mlX12_527 yvX12_valueAt rfl rfl clX12 (wsh hW rfl) (by decide) (by decide) (Nat.le_of_ble_eq_true rfl) (by decide) (by decide) (fun B9 => ceX12_valueAt hl B9 hW h) (fun X9 τ9 h9 => VX_out rfl h9) ?_
            rintro v9 σ2 ⟨hW, u3, rfl, h⟩
            obtain ⟨hin, h⟩ := h
            refine V_zald 39 rfl (wsh hW rfl) hin ?_
            refine V_if_eq 40 (tgt := 75) rfl (by decide) (fun hc => ?_) (fun hc => ?_)
            · replace h := h.1 hc
              refine V_sub [0, 1, 2, 4] (lv' := [(0, .ref 92), (1, .int a0), (3, .int x3), (5, .int x5)]) rfl ?_
              exact k_j75 x3 x5 σ2 hW h
            · replace h := h.2 hc
              refine V_pc 71 rfl ?_
              refine V_sub [0, 1, 2, 4] (lv' := [(0, .ref 92), (1, .int a0), (3, .int x3), (5, .int x5)]) rfl ?_
              exact k_j71 x3 x5 σ2 hW h
    intro n
    induction n with
    | zero => intro x3 x4 x5  σ hW h; exact absurd h id
    | succ n ih => exact step  _ ih
  intro σ hW h
  refine V_bipush 0 (v := (32 : Int32)) rfl (by decide) ?_
  refine V_aload_n 1 0 rfl rfl rfl ?_
  refine V_getR 2 54 rfl clX12 flX12_117 (by decide) (wsh hW rfl) (fun _ => rfl) (wrf hW 129 rfl) ?_
  refine V_iload_n 3 1 rfl rfl rfl ?_
  obtain ⟨hin, h⟩ := h
  refine V_iald 4 rfl (wsh hW rfl) hin ?_
  refine V_imul 5 rfl ?_
  refine V_pc 9 rfl ?_
  refine V_iload_n 6 2 rfl rfl rfl ?_
  refine V_iadd 7 rfl ?_
  refine V_topi (fun v4 ev4 => ?_)
  replace h := h v4 ev4
  refine V_istore_n 8 (lv' := [(3, .int v4), (0, .ref 92), (1, .int a0), (2, .int a1)]) rfl rfl (by decide) rfl ?_
  refine V_iconst 9 (v := (1 : Int32)) rfl (by decide) ?_
  refine V_istore 10 (lv' := [(4, .int (1 : Int32)), (3, .int v4), (0, .ref 92), (1, .int a0), (2, .int a1)]) rfl (by decide) rfl ?_
  refine V_aload_n 11 2 rfl rfl rfl ?_
  refine V_pc 16 rfl ?_
  refine V_getR 12 19 rfl clX12 flX12_48 (by decide) (wsh hW rfl) (fun _ => rfl) (wrf hW 106 rfl) ?_
  refine V_iload_n 13 1 rfl rfl rfl ?_
  obtain ⟨hin, h⟩ := h
  refine V_iald 14 rfl (wsh hW rfl) hin ?_
  refine V_topi (fun v5 ev5 => ?_)
  replace h := h v5 ev5
  refine V_istore 15 (lv' := [(5, .int v5), (4, .int (1 : Int32)), (3, .int v4), (0, .ref 92), (1, .int a0), (2, .int a1)]) rfl (by decide) rfl ?_
  refine V_sub [3, 4, 2, 1, 0] (lv' := [(0, .ref 92), (1, .int a0), (3, .int v4), (4, .int (1 : Int32)), (5, .int v5)]) rfl ?_
  obtain ⟨n, h⟩ := h
  exact k_l23 n v4 (1 : Int32) v5 σ hW h

def wX12_two (a0 : Int32) (a1 : Int32) (a2 : Int32) (Q : Int32 → ab_S → Prop) (E : String → ab_S → Prop) (σ : ab_S) : Prop := (a0 = 13 → Q (a1 + a2) σ) ∧ (¬ a0 = 13 → (a0 = 14 → Q (a1 - a2) σ) ∧ (¬ a0 = 14 → (a0 = 15 → Q (a1 * a2) σ) ∧ (¬ a0 = 15 → (a0 = 16 → ((¬ a2 = 0) → ¬ a2 = 0 ∧ (Q (a1 / a2) σ)) ∧ (¬ (¬ a2 = 0) → Q (0 : Int32) σ)) ∧ (¬ a0 = 16 → (a0 = 17 → ((a2 ≤ a1) → Q (0 : Int32) σ) ∧ (¬ (a2 ≤ a1) → Q (1 : Int32) σ)) ∧ (¬ a0 = 17 → ((¬ a1 = a2) → Q (0 : Int32) σ) ∧ (¬ (¬ a1 = a2) → Q (1 : Int32) σ))))))
set_option maxHeartbeats 4000000 in
set_option maxRecDepth 100000 in
theorem ceX12_two {l : Launch} (hl : l.stackTraces = false) (B : Nat) {a0 : Int32} {a1 : Int32} {a2 : Int32}  {Q : Int32 → ab_S → Prop} {E : String → ab_S → Prop} {σ : ab_S} (hW : Wire σ) (h : wX12_two a0 a1 a2 Q E σ) : ab_Mt l yX12_two mdX12_two B 0 0 0 0 [.ref 92, .int a0, .int a1, .int a2] σ (fun v σ' => Wire σ' ∧ ∃ r : Int32, v = some (.int r) ∧ Q r σ') (fun X σ' => Wire σ' ∧ E X σ') := by
  refine V_met hl ⟨rfl, rfl, by decide⟩ rfl dkX12_two (Nat.le_of_ble_eq_true rfl) ?_
  show V l mdX12_two B 0 0 0 0 (ab_End _ _) 0 [(0, .ref 92), (1, .int a0), (2, .int a1), (3, .int a2)] [] σ
  refine V_iload_n 0 1 rfl rfl rfl ?_
  by_cases hs0 : a0 = 13
  · replace h := h.1 hs0
    refine V_tab 1 (v := 13) (off := 35) (tgt := 36) rfl (by rw [hs0]; rfl) (by decide) rfl (by decide) ?_
    refine V_iload_n 2 2 rfl rfl rfl ?_
    refine V_iload_n 3 3 rfl rfl rfl ?_
    refine V_iadd 4 rfl ?_
    exact V_iret 5 rfl rfl ⟨hW, _, rfl, h⟩
  · replace h := h.2 hs0
    by_cases hs1 : a0 = 14
    · replace h := h.1 hs1
      refine V_tab 1 (v := 14) (off := 39) (tgt := 40) rfl (by rw [hs1]; rfl) (by decide) rfl (by decide) ?_
      refine V_iload_n 6 2 rfl rfl rfl ?_
      refine V_iload_n 7 3 rfl rfl rfl ?_
      refine V_isub 8 rfl ?_
      exact V_iret 9 rfl rfl ⟨hW, _, rfl, h⟩
    · replace h := h.2 hs1
      by_cases hs2 : a0 = 15
      · replace h := h.1 hs2
        refine V_tab 1 (v := 15) (off := 43) (tgt := 44) rfl (by rw [hs2]; rfl) (by decide) rfl (by decide) ?_
        refine V_iload_n 10 2 rfl rfl rfl ?_
        refine V_iload_n 11 3 rfl rfl rfl ?_
        refine V_imul 12 rfl ?_
        exact V_iret 13 rfl rfl ⟨hW, _, rfl, h⟩
      · replace h := h.2 hs2
        by_cases hs3 : a0 = 16
        · replace h := h.1 hs3
          refine V_tab 1 (v := 16) (off := 47) (tgt := 48) rfl (by rw [hs3]; rfl) (by decide) rfl (by decide) ?_
          refine V_iload_n 14 3 rfl rfl rfl ?_
          refine V_if_ne 15 (tgt := 56) rfl (by decide) (fun hc => ?_) (fun hc => ?_)
          · replace h := h.1 hc
            refine V_iload_n 18 2 rfl rfl rfl ?_
            refine V_iload_n 19 3 rfl rfl rfl ?_
            obtain ⟨hz, h⟩ := h
            refine V_idiv 20 rfl hz ?_
            exact V_iret 21 rfl rfl ⟨hW, _, rfl, h⟩
          · replace h := h.2 hc
            refine V_pc 52 rfl ?_
            refine V_iconst 16 (v := (0 : Int32)) rfl (by decide) ?_
            refine V_goto 17 (tgt := 59) rfl (by decide) ?_
            exact V_iret 21 rfl rfl ⟨hW, _, rfl, h⟩
        · replace h := h.2 hs3
          by_cases hs4 : a0 = 17
          · replace h := h.1 hs4
            refine V_tab 1 (v := 17) (off := 59) (tgt := 60) rfl (by rw [hs4]; rfl) (by decide) rfl (by decide) ?_
            refine V_iload_n 22 2 rfl rfl rfl ?_
            refine V_iload_n 23 3 rfl rfl rfl ?_
            refine V_icmp_ge 24 (tgt := 69) rfl (by decide) (fun hc => ?_) (fun hc => ?_)
            · replace h := h.1 hc
              refine V_iconst 27 (v := (0 : Int32)) rfl (by decide) ?_
              exact V_iret 28 rfl rfl ⟨hW, _, rfl, h⟩
            · replace h := h.2 hc
              refine V_pc 65 rfl ?_
              refine V_iconst 25 (v := (1 : Int32)) rfl (by decide) ?_
              refine V_goto 26 (tgt := 70) rfl (by decide) ?_
              exact V_iret 28 rfl rfl ⟨hW, _, rfl, h⟩
          · replace h := h.2 hs4
            refine V_tabOut 1 (tgt := 71) rfl (by have hq0 := lv_neT hs0 (show Int32.toInt 13 = 13 from by decide); have hq1 := lv_neT hs1 (show Int32.toInt 14 = 14 from by decide); have hq2 := lv_neT hs2 (show Int32.toInt 15 = 15 from by decide); have hq3 := lv_neT hs3 (show Int32.toInt 16 = 16 from by decide); have hq4 := lv_neT hs4 (show Int32.toInt 17 = 17 from by decide); omega) (by decide) ?_
            refine V_iload_n 29 2 rfl rfl rfl ?_
            refine V_iload_n 30 3 rfl rfl rfl ?_
            refine V_icmp_ne 31 (tgt := 80) rfl (by decide) (fun hc => ?_) (fun hc => ?_)
            · replace h := h.1 hc
              refine V_iconst 34 (v := (0 : Int32)) rfl (by decide) ?_
              exact V_iret 35 rfl rfl ⟨hW, _, rfl, h⟩
            · replace h := h.2 hc
              refine V_pc 76 rfl ?_
              refine V_iconst 32 (v := (1 : Int32)) rfl (by decide) ?_
              refine V_goto 33 (tgt := 81) rfl (by decide) ?_
              exact V_iret 35 rfl rfl ⟨hW, _, rfl, h⟩

def wX12_workOut_j369 (a0 : Int32) (a1 : Int32) (Q : ab_S → Prop) (E : String → ab_S → Prop) (Bk : Int32 → Int32 → Int32 → ab_S → Prop) (x3 : Int32) (x4 : Int32) (x5 : Int32) (σ : ab_S) : Prop := ∀ v1 : Int32, v1 = (x5 + 1) → Bk x3 x4 v1 σ
def wX12_workOut_j86 (a0 : Int32) (a1 : Int32) (Q : ab_S → Prop) (E : String → ab_S → Prop) (Bk : Int32 → Int32 → Int32 → ab_S → Prop) (x3 : Int32) (x4 : Int32) (x5 : Int32) (y0 : Int32) (y1 : Int32) (σ : ab_S) : Prop := vp_in y1 64 ∧ (∀ σ2 : ab_S, σ2 = ab_I σ 144 y1.toNatClampNeg y0 → vp_in x4 64 ∧ (∀ σ3 : ab_S, σ3 = ab_I σ2 145 x4.toNatClampNeg (vp_nar .boolean (0 : Int32)) → ∀ v4 : Int32, v4 = (x4 + 1) → wX12_workOut_j369 a0 a1 Q E Bk x3 v4 x5 σ3))
def wX12_workOut_j57 (a0 : Int32) (a1 : Int32) (Q : ab_S → Prop) (E : String → ab_S → Prop) (Bk : Int32 → Int32 → Int32 → ab_S → Prop) (x3 : Int32) (x4 : Int32) (x5 : Int32) (x6 : Int32) (σ : ab_S) : Prop := ((¬ x6 = (40 : Int32)) → vp_in a0 251 ∧ (wX12_workOut_j86 a0 a1 Q E Bk x3 x4 x5 (σ.2.1 131 a0.toNatClampNeg) x4 σ)) ∧ (¬ (¬ x6 = (40 : Int32)) → vp_in x5 2500 ∧ (wX12_workOut_j86 a0 a1 Q E Bk x3 x4 x5 (σ.2.1 108 x5.toNatClampNeg) x4 σ))
def wX12_workOut_j262 (a0 : Int32) (a1 : Int32) (Q : ab_S → Prop) (E : String → ab_S → Prop) (Bk : Int32 → Int32 → Int32 → ab_S → Prop) (x3 : Int32) (x4 : Int32) (x5 : Int32) (x7 : Int32) (y0 : Int32) (y1 : Int32) (σ : ab_S) : Prop := vp_in y1 64 ∧ (∀ σ5 : ab_S, σ5 = ab_I σ 145 y1.toNatClampNeg (vp_nar .boolean y0) → vp_in x7 64 ∧ (vp_in (x4 - (1 : Int32)) 64 ∧ (∀ σ6 : ab_S, σ6 = ab_I σ5 144 (x4 - (1 : Int32)).toNatClampNeg (σ5.2.1 144 x7.toNatClampNeg) → wX12_workOut_j369 a0 a1 Q E Bk x3 x4 x5 σ6)))
def wX12_workOut_j257 (a0 : Int32) (a1 : Int32) (Q : ab_S → Prop) (E : String → ab_S → Prop) (Bk : Int32 → Int32 → Int32 → ab_S → Prop) (x3 : Int32) (x4 : Int32) (x5 : Int32) (x7 : Int32) (y0 : Int32) (σ : ab_S) : Prop := wX12_workOut_j262 a0 a1 Q E Bk x3 x4 x5 x7 (1 : Int32) y0 σ
def wX12_workOut_j225 (a0 : Int32) (a1 : Int32) (Q : ab_S → Prop) (E : String → ab_S → Prop) (Bk : Int32 → Int32 → Int32 → ab_S → Prop) (x3 : Int32) (x4 : Int32) (x5 : Int32) (y0 : Int32) (σ : ab_S) : Prop := vp_in (x4 - (1 : Int32)) 64 ∧ (((¬ (σ.2.1 145 (x4 - (1 : Int32)).toNatClampNeg) = 0) → wX12_workOut_j257 a0 a1 Q E Bk x3 x4 x5 y0 (x4 - (1 : Int32)) σ) ∧ (¬ (¬ (σ.2.1 145 (x4 - (1 : Int32)).toNatClampNeg) = 0) → vp_in y0 64 ∧ ((((σ.2.1 145 y0.toNatClampNeg) = 0) → wX12_workOut_j262 a0 a1 Q E Bk x3 x4 x5 y0 (0 : Int32) (x4 - (1 : Int32)) σ) ∧ (¬ ((σ.2.1 145 y0.toNatClampNeg) = 0) → wX12_workOut_j257 a0 a1 Q E Bk x3 x4 x5 y0 (x4 - (1 : Int32)) σ))))
def wX12_workOut_j337 (a0 : Int32) (a1 : Int32) (Q : ab_S → Prop) (E : String → ab_S → Prop) (Bk : Int32 → Int32 → Int32 → ab_S → Prop) (x3 : Int32) (x4 : Int32) (x5 : Int32) (x6 : Int32) (y0 : Int32) (y1 : Int32) (σ : ab_S) : Prop := vp_in y1 64 ∧ (∀ σ7 : ab_S, σ7 = ab_I σ 145 y1.toNatClampNeg (vp_nar .boolean y0) → vp_in (x4 - (1 : Int32)) 64 ∧ (vp_in x4 64 ∧ (wX12_two x6 (σ7.2.1 144 (x4 - (1 : Int32)).toNatClampNeg) (σ7.2.1 144 x4.toNatClampNeg) (fun u9 σ8 => vp_in (x4 - (1 : Int32)) 64 ∧ (∀ σ10 : ab_S, σ10 = ab_I σ8 144 (x4 - (1 : Int32)).toNatClampNeg u9 → wX12_workOut_j369 a0 a1 Q E Bk x3 x4 x5 σ10)) E σ7)))
def wX12_workOut_j332 (a0 : Int32) (a1 : Int32) (Q : ab_S → Prop) (E : String → ab_S → Prop) (Bk : Int32 → Int32 → Int32 → ab_S → Prop) (x3 : Int32) (x4 : Int32) (x5 : Int32) (x6 : Int32) (y0 : Int32) (σ : ab_S) : Prop := wX12_workOut_j337 a0 a1 Q E Bk x3 x4 x5 x6 (1 : Int32) y0 σ
def wX12_workOut_j336 (a0 : Int32) (a1 : Int32) (Q : ab_S → Prop) (E : String → ab_S → Prop) (Bk : Int32 → Int32 → Int32 → ab_S → Prop) (x3 : Int32) (x4 : Int32) (x5 : Int32) (x6 : Int32) (y0 : Int32) (σ : ab_S) : Prop := wX12_workOut_j337 a0 a1 Q E Bk x3 x4 x5 x6 (0 : Int32) y0 σ
def wX12_workOut_l23_b (a0 : Int32) (a1 : Int32) (Q : ab_S → Prop) (E : String → ab_S → Prop) (Bk : Int32 → Int32 → Int32 → ab_S → Prop) (x3 : Int32) (x4 : Int32) (x5 : Int32) (σ : ab_S) : Prop := vp_in x3 992 ∧ ((((σ.2.1 106 x3.toNatClampNeg) ≤ x5) → Q σ) ∧ (¬ ((σ.2.1 106 x3.toNatClampNeg) ≤ x5) → vp_in x5 2500 ∧ (∀ v11 : Int32, v11 = (σ.2.1 107 x5.toNatClampNeg) → ((v11 = (40 : Int32)) → wX12_workOut_j57 a0 a1 Q E Bk x3 x4 x5 v11 σ) ∧ (¬ (v11 = (40 : Int32)) → ((¬ v11 = (41 : Int32)) → ((¬ v11 = (50 : Int32)) → ((¬ v11 = (30 : Int32)) → ((¬ v11 = (31 : Int32)) → ∀ v12 : Int32, v12 = (x4 - 1) → vp_in (v12 - (1 : Int32)) 64 ∧ (((¬ (σ.2.1 145 (v12 - (1 : Int32)).toNatClampNeg) = 0) → wX12_workOut_j332 a0 a1 Q E Bk x3 v12 x5 v11 (v12 - (1 : Int32)) σ) ∧ (¬ (¬ (σ.2.1 145 (v12 - (1 : Int32)).toNatClampNeg) = 0) → vp_in v12 64 ∧ (((¬ (σ.2.1 145 v12.toNatClampNeg) = 0) → wX12_workOut_j332 a0 a1 Q E Bk x3 v12 x5 v11 (v12 - (1 : Int32)) σ) ∧ (¬ (¬ (σ.2.1 145 v12.toNatClampNeg) = 0) → ((¬ v11 = (16 : Int32)) → wX12_workOut_j336 a0 a1 Q E Bk x3 v12 x5 v11 (v12 - (1 : Int32)) σ) ∧ (¬ (¬ v11 = (16 : Int32)) → vp_in v12 64 ∧ (((¬ (σ.2.1 144 v12.toNatClampNeg) = 0) → wX12_workOut_j336 a0 a1 Q E Bk x3 v12 x5 v11 (v12 - (1 : Int32)) σ) ∧ (¬ (¬ (σ.2.1 144 v12.toNatClampNeg) = 0) → wX12_workOut_j332 a0 a1 Q E Bk x3 v12 x5 v11 (v12 - (1 : Int32)) σ)))))))) ∧ (¬ (¬ v11 = (31 : Int32)) → ∀ v13 : Int32, v13 = (x4 - (2 : Int32)) → vp_in (v13 - (1 : Int32)) 64 ∧ ((((σ.2.1 144 (v13 - (1 : Int32)).toNatClampNeg) = 0) → wX12_workOut_j225 a0 a1 Q E Bk x3 v13 x5 (v13 + (1 : Int32)) σ) ∧ (¬ ((σ.2.1 144 (v13 - (1 : Int32)).toNatClampNeg) = 0) → wX12_workOut_j225 a0 a1 Q E Bk x3 v13 x5 v13 σ)))) ∧ (¬ (¬ v11 = (30 : Int32)) → vp_in (x4 - (1 : Int32)) 64 ∧ (vp_in (x4 - (1 : Int32)) 64 ∧ (∀ σ14 : ab_S, σ14 = ab_I σ 144 (x4 - (1 : Int32)).toNatClampNeg (-(σ.2.1 144 (x4 - (1 : Int32)).toNatClampNeg)) → wX12_workOut_j369 a0 a1 Q E Bk x3 x4 x5 σ14)))) ∧ (¬ (¬ v11 = (50 : Int32)) → vp_in x5 2500 ∧ (wX12_valueAt a0 (σ.2.1 108 x5.toNatClampNeg) (fun u16 σ15 => vp_in u16 2000 ∧ (vp_in x4 64 ∧ (∀ σ17 : ab_S, σ17 = ab_I σ15 144 x4.toNatClampNeg (σ15.2.1 139 u16.toNatClampNeg) → vp_in x5 2500 ∧ (wX12_valueAt a0 (σ17.2.1 108 x5.toNatClampNeg) (fun u19 σ18 => vp_in u19 2000 ∧ (vp_in x4 64 ∧ (∀ σ20 : ab_S, σ20 = ab_I σ18 145 x4.toNatClampNeg (vp_nar .boolean (σ18.2.1 141 u19.toNatClampNeg)) → ∀ v21 : Int32, v21 = (x4 + 1) → wX12_workOut_j369 a0 a1 Q E Bk x3 v21 x5 σ20))) E σ17)))) E σ))) ∧ (¬ (¬ v11 = (41 : Int32)) → wX12_workOut_j57 a0 a1 Q E Bk x3 x4 x5 v11 σ)))))
def wX12_workOut_l23 (a0 : Int32) (a1 : Int32) (Q : ab_S → Prop) (E : String → ab_S → Prop) : Nat → Int32 → Int32 → Int32 → ab_S → Prop
  | 0, _, _, _, _ => False
  | n + 1, x3, x4, x5, σ => wX12_workOut_l23_b a0 a1 Q E (wX12_workOut_l23 a0 a1 Q E n) x3 x4 x5 σ
def wX12_workOut (a0 : Int32) (a1 : Int32) (Q : ab_S → Prop) (E : String → ab_S → Prop) (σ : ab_S) : Prop := vp_in a0 251 ∧ (∀ v22 : Int32, v22 = (((32 : Int32) * (σ.2.1 128 a0.toNatClampNeg)) + a1) → vp_in v22 992 ∧ (∀ v23 : Int32, v23 = (σ.2.1 105 v22.toNatClampNeg) → ∃ n, wX12_workOut_l23 a0 a1 Q E n v22 (0 : Int32) v23 σ))
set_option maxHeartbeats 4000000 in
set_option maxRecDepth 100000 in
theorem ceX12_workOut {l : Launch} (hl : l.stackTraces = false) (B : Nat) {a0 : Int32} {a1 : Int32}  {Q : ab_S → Prop} {E : String → ab_S → Prop} {σ : ab_S} (hW : Wire σ) (h : wX12_workOut a0 a1 Q E σ) : ab_Mt l yX12_workOut mdX12_workOut B 1 23 0 0 [.ref 92, .int a0, .int a1] σ (fun v σ' => Wire σ' ∧ v = none ∧ Q σ') (fun X σ' => Wire σ' ∧ E X σ') := by
  refine V_met hl ⟨rfl, rfl, by decide⟩ rfl dkX12_workOut (Nat.le_of_ble_eq_true rfl) ?_
  show V l mdX12_workOut B 1 23 0 0 (ab_End _ _) 0 [(0, .ref 92), (1, .int a0), (2, .int a1)] [] σ
  revert h hW
  revert σ
  have k_l23 : ∀ (n : Nat) (x3 : Int32) (x4 : Int32) (x5 : Int32)  (σ : ab_S), Wire σ → wX12_workOut_l23 a0 a1 Q E n x3 x4 x5 σ → V l mdX12_workOut B 1 23 0 0 (ab_End (fun v σ' => Wire σ' ∧ v = none ∧ Q σ') (fun X σ' => Wire σ' ∧ E X σ')) 23 [(0, .ref 92), (1, .int a0), (3, .int x3), (4, .int x4), (5, .int x5)] [] σ := by
    have step : ∀ (Bk : Int32 → Int32 → Int32 → ab_S → Prop) (k_Bk : ∀ (x3 : Int32) (x4 : Int32) (x5 : Int32)  (σ : ab_S), Wire σ → Bk x3 x4 x5 σ → V l mdX12_workOut B 1 23 0 0 (ab_End (fun v σ' => Wire σ' ∧ v = none ∧ Q σ') (fun X σ' => Wire σ' ∧ E X σ')) 23 [(0, .ref 92), (1, .int a0), (3, .int x3), (4, .int x4), (5, .int x5)] [] σ), ∀ (x3 : Int32) (x4 : Int32) (x5 : Int32)  (σ : ab_S), Wire σ → wX12_workOut_l23_b a0 a1 Q E Bk x3 x4 x5 σ → V l mdX12_workOut B 1 23 0 0 (ab_End (fun v σ' => Wire σ' ∧ v = none ∧ Q σ') (fun X σ' => Wire σ' ∧ E X σ')) 23 [(0, .ref 92), (1, .int a0), (3, .int x3), (4, .int x4), (5, .int x5)] [] σ := by
      intro Bk k_Bk
      have k_j369 : ∀ (x3 : Int32) (x4 : Int32) (x5 : Int32)  (σ : ab_S), Wire σ → wX12_workOut_j369 a0 a1 Q E Bk x3 x4 x5 σ → V l mdX12_workOut B 1 23 0 0 (ab_End (fun v σ' => Wire σ' ∧ v = none ∧ Q σ') (fun X σ' => Wire σ' ∧ E X σ')) 369 [(0, .ref 92), (1, .int a0), (3, .int x3), (4, .int x4), (5, .int x5)] [] σ := by
        intro x3 x4 x5  σ hW h
        obtain ⟨v1, ev1⟩ : ∃ z : Int32, z = (x5 + 1) := ⟨_, rfl⟩
        replace h := h v1 ev1
        refine V_iinc 207 4 (v := v1) (lv' := [(5, .int v1), (0, .ref 92), (1, .int a0), (3, .int x3), (4, .int x4)]) rfl rfl ((in_1 _).trans ev1.symm) (by decide) rfl ?_
        refine V_goto 208 (tgt := 23) rfl (by decide) ?_
        refine V_sub [1, 2, 3, 4, 0] (lv' := [(0, .ref 92), (1, .int a0), (3, .int x3), (4, .int x4), (5, .int v1)]) rfl ?_
        exact k_Bk x3 x4 v1  σ hW h
      have k_j86 : ∀ (x3 : Int32) (x4 : Int32) (x5 : Int32) (y0 : Int32) (y1 : Int32)  (σ : ab_S), Wire σ → wX12_workOut_j86 a0 a1 Q E Bk x3 x4 x5 y0 y1 σ → V l mdX12_workOut B 1 23 0 0 (ab_End (fun v σ' => Wire σ' ∧ v = none ∧ Q σ') (fun X σ' => Wire σ' ∧ E X σ')) 86 [(0, .ref 92), (1, .int a0), (3, .int x3), (4, .int x4), (5, .int x5)] [.int y0, .int y1, .ref 144] σ := by
        intro x3 x4 x5 y0 y1  σ hW h
        obtain ⟨hin, h⟩ := h
        refine V_iast 48 rfl (wsh hW rfl) hin ?_
        refine V_nm (fun σ2 eσ2 => ?_)
        replace h := h σ2 eσ2
        have hW := wire_I eσ2 hW
        refine V_aload_n 49 0 rfl rfl rfl ?_
        refine V_getR 50 73 rfl clX12 flX12_168 (by decide) (wsh hW rfl) (fun _ => rfl) (wrf hW 146 rfl) ?_
        refine V_iload 51 3 rfl rfl ?_
        refine V_iconst 52 (v := (0 : Int32)) rfl (by decide) ?_
        obtain ⟨hin, h⟩ := h
        refine V_zast 53 rfl (wsh hW rfl) hin ?_
        refine V_nm (fun σ3 eσ3 => ?_)
        replace h := h σ3 eσ3
        have hW := wire_I eσ3 hW
        refine V_pc 95 rfl ?_
        obtain ⟨v4, ev4⟩ : ∃ z : Int32, z = (x4 + 1) := ⟨_, rfl⟩
        replace h := h v4 ev4
        refine V_iinc 54 3 (v := v4) (lv' := [(4, .int v4), (0, .ref 92), (1, .int a0), (3, .int x3), (5, .int x5)]) rfl rfl ((in_1 _).trans ev4.symm) (by decide) rfl ?_
        refine V_goto 55 (tgt := 369) rfl (by decide) ?_
        refine V_sub [1, 2, 3, 0, 4] (lv' := [(0, .ref 92), (1, .int a0), (3, .int x3), (4, .int v4), (5, .int x5)]) rfl ?_
        exact k_j369 x3 v4 x5 σ3 hW h
      have k_j57 : ∀ (x3 : Int32) (x4 : Int32) (x5 : Int32) (x6 : Int32)  (σ : ab_S), Wire σ → wX12_workOut_j57 a0 a1 Q E Bk x3 x4 x5 x6 σ → V l mdX12_workOut B 1 23 0 0 (ab_End (fun v σ' => Wire σ' ∧ v = none ∧ Q σ') (fun X σ' => Wire σ' ∧ E X σ')) 57 [(0, .ref 92), (1, .int a0), (3, .int x3), (4, .int x4), (5, .int x5), (6, .int x6)] [] σ := by
        intro x3 x4 x5 x6  σ hW h
        refine V_aload_n 33 0 rfl rfl rfl ?_
        refine V_getR 34 72 rfl clX12 flX12_165 (by decide) (wsh hW rfl) (fun _ => rfl) (wrf hW 145 rfl) ?_
        refine V_iload 35 3 rfl rfl ?_
        refine V_iload 36 5 rfl rfl ?_
        refine V_bipush 37 (v := (40 : Int32)) rfl (by decide) ?_
        refine V_icmp_ne 38 (tgt := 80) rfl (by decide) (fun hc => ?_) (fun hc => ?_)
        · replace h := h.1 hc
          refine V_aload_n 44 0 rfl rfl rfl ?_
          refine V_getR 45 57 rfl clX12 flX12_126 (by decide) (wsh hW rfl) (fun _ => rfl) (wrf hW 132 rfl) ?_
          refine V_iload_n 46 1 rfl rfl rfl ?_
          obtain ⟨hin, h⟩ := h
          refine V_iald 47 rfl (wsh hW rfl) hin ?_
          refine V_sub [0, 1, 2, 3, 4] (lv' := [(0, .ref 92), (1, .int a0), (3, .int x3), (4, .int x4), (5, .int x5)]) rfl ?_
          exact k_j86 x3 x4 x5 (σ.2.1 131 a0.toNatClampNeg) x4 σ hW h
        · replace h := h.2 hc
          refine V_pc 70 rfl ?_
          refine V_aload_n 39 0 rfl rfl rfl ?_
          refine V_getR 40 23 rfl clX12 flX12_57 (by decide) (wsh hW rfl) (fun _ => rfl) (wrf hW 109 rfl) ?_
          refine V_iload 41 4 rfl rfl ?_
          obtain ⟨hin, h⟩ := h
          refine V_iald 42 rfl (wsh hW rfl) hin ?_
          refine V_goto 43 (tgt := 86) rfl (by decide) ?_
          refine V_sub [0, 1, 2, 3, 4] (lv' := [(0, .ref 92), (1, .int a0), (3, .int x3), (4, .int x4), (5, .int x5)]) rfl ?_
          exact k_j86 x3 x4 x5 (σ.2.1 108 x5.toNatClampNeg) x4 σ hW h
      have k_j262 : ∀ (x3 : Int32) (x4 : Int32) (x5 : Int32) (x7 : Int32) (y0 : Int32) (y1 : Int32)  (σ : ab_S), Wire σ → wX12_workOut_j262 a0 a1 Q E Bk x3 x4 x5 x7 y0 y1 σ → V l mdX12_workOut B 1 23 0 0 (ab_End (fun v σ' => Wire σ' ∧ v = none ∧ Q σ') (fun X σ' => Wire σ' ∧ E X σ')) 262 [(0, .ref 92), (1, .int a0), (3, .int x3), (4, .int x4), (5, .int x5), (7, .int x7)] [.int y0, .int y1, .ref 145] σ := by
        intro x3 x4 x5 x7 y0 y1  σ hW h
        obtain ⟨hin, h⟩ := h
        refine V_zast 146 rfl (wsh hW rfl) hin ?_
        refine V_nm (fun σ5 eσ5 => ?_)
        replace h := h σ5 eσ5
        have hW := wire_I eσ5 hW
        refine V_aload_n 147 0 rfl rfl rfl ?_
        refine V_getR 148 72 rfl clX12 flX12_165 (by decide) (wsh hW rfl) (fun _ => rfl) (wrf hW 145 rfl) ?_
        refine V_iload 149 3 rfl rfl ?_
        refine V_iconst 150 (v := (1 : Int32)) rfl (by decide) ?_
        refine V_isub 151 rfl ?_
        refine V_pc 271 rfl ?_
        refine V_aload_n 152 0 rfl rfl rfl ?_
        refine V_getR 153 72 rfl clX12 flX12_165 (by decide) (wsh hW rfl) (fun _ => rfl) (wrf hW 145 rfl) ?_
        refine V_iload 154 5 rfl rfl ?_
        obtain ⟨hin, h⟩ := h
        refine V_iald 155 rfl (wsh hW rfl) hin ?_
        obtain ⟨hin, h⟩ := h
        refine V_iast 156 rfl (wsh hW rfl) hin ?_
        refine V_nm (fun σ6 eσ6 => ?_)
        replace h := h σ6 eσ6
        have hW := wire_I eσ6 hW
        refine V_goto 157 (tgt := 369) rfl (by decide) ?_
        refine V_sub [0, 1, 2, 3, 4] (lv' := [(0, .ref 92), (1, .int a0), (3, .int x3), (4, .int x4), (5, .int x5)]) rfl ?_
        exact k_j369 x3 x4 x5 σ6 hW h
      have k_j257 : ∀ (x3 : Int32) (x4 : Int32) (x5 : Int32) (x7 : Int32) (y0 : Int32)  (σ : ab_S), Wire σ → wX12_workOut_j257 a0 a1 Q E Bk x3 x4 x5 x7 y0 σ → V l mdX12_workOut B 1 23 0 0 (ab_End (fun v σ' => Wire σ' ∧ v = none ∧ Q σ') (fun X σ' => Wire σ' ∧ E X σ')) 257 [(0, .ref 92), (1, .int a0), (3, .int x3), (4, .int x4), (5, .int x5), (7, .int x7)] [.int y0, .ref 145] σ := by
        intro x3 x4 x5 x7 y0  σ hW h
        refine V_iconst 143 (v := (1 : Int32)) rfl (by decide) ?_
        refine V_goto 144 (tgt := 262) rfl (by decide) ?_
        exact k_j262 x3 x4 x5 x7 (1 : Int32) y0 σ hW h
      have k_j225 : ∀ (x3 : Int32) (x4 : Int32) (x5 : Int32) (y0 : Int32)  (σ : ab_S), Wire σ → wX12_workOut_j225 a0 a1 Q E Bk x3 x4 x5 y0 σ → V l mdX12_workOut B 1 23 0 0 (ab_End (fun v σ' => Wire σ' ∧ v = none ∧ Q σ') (fun X σ' => Wire σ' ∧ E X σ')) 225 [(0, .ref 92), (1, .int a0), (3, .int x3), (4, .int x4), (5, .int x5)] [.int y0] σ := by
        intro x3 x4 x5 y0  σ hW h
        refine V_istore 125 (lv' := [(7, .int y0), (0, .ref 92), (1, .int a0), (3, .int x3), (4, .int x4), (5, .int x5)]) rfl (by decide) rfl ?_
        refine V_aload_n 126 1 rfl rfl rfl ?_
        refine V_getR 127 73 rfl clX12 flX12_168 (by decide) (wsh hW rfl) (fun _ => rfl) (wrf hW 146 rfl) ?_
        refine V_iload 128 4 rfl rfl ?_
        refine V_iconst 129 (v := (1 : Int32)) rfl (by decide) ?_
        refine V_isub 130 rfl ?_
        refine V_pc 235 rfl ?_
        refine V_aload_n 131 1 rfl rfl rfl ?_
        refine V_getR 132 73 rfl clX12 flX12_168 (by decide) (wsh hW rfl) (fun _ => rfl) (wrf hW 146 rfl) ?_
        refine V_iload 133 4 rfl rfl ?_
        refine V_iconst 134 (v := (1 : Int32)) rfl (by decide) ?_
        refine V_isub 135 rfl ?_
        obtain ⟨hin, h⟩ := h
        refine V_zald 136 rfl (wsh hW rfl) hin ?_
        refine V_pc 244 rfl ?_
        refine V_if_ne 137 (tgt := 257) rfl (by decide) (fun hc => ?_) (fun hc => ?_)
        · replace h := h.1 hc
          refine V_sub [1, 2, 3, 4, 5, 0] (lv' := [(0, .ref 92), (1, .int a0), (3, .int x3), (4, .int x4), (5, .int x5), (7, .int y0)]) rfl ?_
          exact k_j257 x3 x4 x5 y0 (x4 - (1 : Int32)) σ hW h
        · replace h := h.2 hc
          refine V_pc 247 rfl ?_
          refine V_aload_n 138 1 rfl rfl rfl ?_
          refine V_getR 139 73 rfl clX12 flX12_168 (by decide) (wsh hW rfl) (fun _ => rfl) (wrf hW 146 rfl) ?_
          refine V_iload 140 0 rfl rfl ?_
          obtain ⟨hin, h⟩ := h
          refine V_zald 141 rfl (wsh hW rfl) hin ?_
          refine V_if_eq 142 (tgt := 261) rfl (by decide) (fun hc => ?_) (fun hc => ?_)
          · replace h := h.1 hc
            refine V_iconst 145 (v := (0 : Int32)) rfl (by decide) ?_
            refine V_sub [1, 2, 3, 4, 5, 0] (lv' := [(0, .ref 92), (1, .int a0), (3, .int x3), (4, .int x4), (5, .int x5), (7, .int y0)]) rfl ?_
            exact k_j262 x3 x4 x5 y0 (0 : Int32) (x4 - (1 : Int32)) σ hW h
          · replace h := h.2 hc
            refine V_pc 257 rfl ?_
            refine V_sub [1, 2, 3, 4, 5, 0] (lv' := [(0, .ref 92), (1, .int a0), (3, .int x3), (4, .int x4), (5, .int x5), (7, .int y0)]) rfl ?_
            exact k_j257 x3 x4 x5 y0 (x4 - (1 : Int32)) σ hW h
      have k_j337 : ∀ (x3 : Int32) (x4 : Int32) (x5 : Int32) (x6 : Int32) (y0 : Int32) (y1 : Int32)  (σ : ab_S), Wire σ → wX12_workOut_j337 a0 a1 Q E Bk x3 x4 x5 x6 y0 y1 σ → V l mdX12_workOut B 1 23 0 0 (ab_End (fun v σ' => Wire σ' ∧ v = none ∧ Q σ') (fun X σ' => Wire σ' ∧ E X σ')) 337 [(0, .ref 92), (1, .int a0), (3, .int x3), (4, .int x4), (5, .int x5), (6, .int x6)] [.int y0, .int y1, .ref 145] σ := by
        intro x3 x4 x5 x6 y0 y1  σ hW h
        obtain ⟨hin, h⟩ := h
        refine V_zast 187 rfl (wsh hW rfl) hin ?_
        refine V_nm (fun σ7 eσ7 => ?_)
        replace h := h σ7 eσ7
        have hW := wire_I eσ7 hW
        refine V_aload_n 188 0 rfl rfl rfl ?_
        refine V_getR 189 72 rfl clX12 flX12_165 (by decide) (wsh hW rfl) (fun _ => rfl) (wrf hW 145 rfl) ?_
        refine V_iload 190 3 rfl rfl ?_
        refine V_iconst 191 (v := (1 : Int32)) rfl (by decide) ?_
        refine V_isub 192 rfl ?_
        refine V_pc 346 rfl ?_
        refine V_aload_n 193 0 rfl rfl rfl ?_
        refine V_iload 194 5 rfl rfl ?_
        refine V_aload_n 195 0 rfl rfl rfl ?_
        refine V_getR 196 72 rfl clX12 flX12_165 (by decide) (wsh hW rfl) (fun _ => rfl) (wrf hW 145 rfl) ?_
        refine V_iload 197 3 rfl rfl ?_
        refine V_iconst 198 (v := (1 : Int32)) rfl (by decide) ?_
        refine V_pc 356 rfl ?_
        refine V_isub 199 rfl ?_
        obtain ⟨hin, h⟩ := h
        refine V_iald 200 rfl (wsh hW rfl) hin ?_
        refine V_aload_n 201 0 rfl rfl rfl ?_
        refine V_getR 202 72 rfl clX12 flX12_165 (by decide) (wsh hW rfl) (fun _ => rfl) (wrf hW 145 rfl) ?_
        refine V_iload 203 3 rfl rfl ?_
        obtain ⟨hin, h⟩ := h
        refine V_iald 204 rfl (wsh hW rfl) hin ?_
        refine V_pc 365 rfl ?_
        refine V_callV 205 3 (as := [.int x6, .int (σ7.2.1 144 (x4 - (1 : Int32)).toNatClampNeg), .int (σ7.2.1 144 x4.toNatClampNeg)]) (rest := [.int (x4 - (1 : Int32)), .ref 144]) rfl mlX12_530 yvX12_two rfl rfl clX12 (wsh hW rfl) (by decide) (by decide) (Nat.le_of_ble_eq_true rfl) (by decide) (by decide) (fun B9 => ceX12_two hl B9 hW h) (fun X9 τ9 h9 => VX_out rfl h9) ?_
        rintro v9 σ8 ⟨hW, u9, rfl, h⟩
        obtain ⟨hin, h⟩ := h
        refine V_iast 206 rfl (wsh hW rfl) hin ?_
        refine V_nm (fun σ10 eσ10 => ?_)
        replace h := h σ10 eσ10
        have hW := wire_I eσ10 hW
        refine V_sub [0, 1, 2, 3, 4] (lv' := [(0, .ref 92), (1, .int a0), (3, .int x3), (4, .int x4), (5, .int x5)]) rfl ?_
        exact k_j369 x3 x4 x5 σ10 hW h
      have k_j332 : ∀ (x3 : Int32) (x4 : Int32) (x5 : Int32) (x6 : Int32) (y0 : Int32)  (σ : ab_S), Wire σ → wX12_workOut_j332 a0 a1 Q E Bk x3 x4 x5 x6 y0 σ → V l mdX12_workOut B 1 23 0 0 (ab_End (fun v σ' => Wire σ' ∧ v = none ∧ Q σ') (fun X σ' => Wire σ' ∧ E X σ')) 332 [(0, .ref 92), (1, .int a0), (3, .int x3), (4, .int x4), (5, .int x5), (6, .int x6)] [.int y0, .ref 145] σ := by
        intro x3 x4 x5 x6 y0  σ hW h
        refine V_iconst 184 (v := (1 : Int32)) rfl (by decide) ?_
        refine V_goto 185 (tgt := 337) rfl (by decide) ?_
        exact k_j337 x3 x4 x5 x6 (1 : Int32) y0 σ hW h
      have k_j336 : ∀ (x3 : Int32) (x4 : Int32) (x5 : Int32) (x6 : Int32) (y0 : Int32)  (σ : ab_S), Wire σ → wX12_workOut_j336 a0 a1 Q E Bk x3 x4 x5 x6 y0 σ → V l mdX12_workOut B 1 23 0 0 (ab_End (fun v σ' => Wire σ' ∧ v = none ∧ Q σ') (fun X σ' => Wire σ' ∧ E X σ')) 336 [(0, .ref 92), (1, .int a0), (3, .int x3), (4, .int x4), (5, .int x5), (6, .int x6)] [.int y0, .ref 145] σ := by
        intro x3 x4 x5 x6 y0  σ hW h
        refine V_iconst 186 (v := (0 : Int32)) rfl (by decide) ?_
        exact k_j337 x3 x4 x5 x6 (0 : Int32) y0 σ hW h
      intro x3 x4 x5  σ hW h
      refine V_iload 16 4 rfl rfl ?_
      refine V_aload_n 17 0 rfl rfl rfl ?_
      refine V_getR 18 20 rfl clX12 flX12_51 (by decide) (wsh hW rfl) (fun _ => rfl) (wrf hW 107 rfl) ?_
      refine V_iload_n 19 2 rfl rfl rfl ?_
      obtain ⟨hin, h⟩ := h
      refine V_iald 20 rfl (wsh hW rfl) hin ?_
      refine V_icmp_ge 21 (tgt := 375) rfl (by decide) (fun hc => ?_) (fun hc => ?_)
      · replace h := h.1 hc
        exact V_vret 209 rfl rfl ⟨hW, rfl, h⟩
      · replace h := h.2 hc
        refine V_pc 34 rfl ?_
        refine V_aload_n 22 0 rfl rfl rfl ?_
        refine V_getR 23 22 rfl clX12 flX12_54 (by decide) (wsh hW rfl) (fun _ => rfl) (wrf hW 108 rfl) ?_
        refine V_iload 24 4 rfl rfl ?_
        obtain ⟨hin, h⟩ := h
        refine V_iald 25 rfl (wsh hW rfl) hin ?_
        refine V_topi (fun v11 ev11 => ?_)
        replace h := h v11 ev11
        refine V_istore 26 (lv' := [(6, .int v11), (0, .ref 92), (1, .int a0), (3, .int x3), (4, .int x4), (5, .int x5)]) rfl (by decide) rfl ?_
        refine V_iload 27 0 rfl rfl ?_
        refine V_pc 45 rfl ?_
        refine V_bipush 28 (v := (40 : Int32)) rfl (by decide) ?_
        refine V_icmp_eq 29 (tgt := 57) rfl (by decide) (fun hc => ?_) (fun hc => ?_)
        · replace h := h.1 hc
          refine V_sub [1, 2, 3, 4, 5, 0] (lv' := [(0, .ref 92), (1, .int a0), (3, .int x3), (4, .int x4), (5, .int x5), (6, .int v11)]) rfl ?_
          exact k_j57 x3 x4 x5 v11 σ hW h
        · replace h := h.2 hc
          refine V_pc 50 rfl ?_
          refine V_iload 30 0 rfl rfl ?_
          refine V_bipush 31 (v := (41 : Int32)) rfl (by decide) ?_
          refine V_icmp_ne 32 (tgt := 101) rfl (by decide) (fun hc => ?_) (fun hc => ?_)
          · replace h := h.1 hc
            refine V_iload 56 0 rfl rfl ?_
            refine V_bipush 57 (v := (50 : Int32)) rfl (by decide) ?_
            refine V_icmp_ne 58 (tgt := 162) rfl (by decide) (fun hc => ?_) (fun hc => ?_)
            · replace h := h.1 hc
              refine V_iload 89 0 rfl rfl ?_
              refine V_bipush 90 (v := (30 : Int32)) rfl (by decide) ?_
              refine V_icmp_ne 91 (tgt := 191) rfl (by decide) (fun hc => ?_) (fun hc => ?_)
              · replace h := h.1 hc
                refine V_iload 106 0 rfl rfl ?_
                refine V_bipush 107 (v := (31 : Int32)) rfl (by decide) ?_
                refine V_icmp_ne 108 (tgt := 282) rfl (by decide) (fun hc => ?_) (fun hc => ?_)
                · replace h := h.1 hc
                  obtain ⟨v12, ev12⟩ : ∃ z : Int32, z = (x4 - 1) := ⟨_, rfl⟩
                  replace h := h v12 ev12
                  refine V_iinc 158 4 (v := v12) (lv' := [(4, .int v12), (6, .int v11), (0, .ref 92), (1, .int a0), (3, .int x3), (5, .int x5)]) rfl rfl ((in_m1 _).trans ev12.symm) (by decide) rfl ?_
                  refine V_aload_n 159 2 rfl rfl rfl ?_
                  refine V_getR 160 73 rfl clX12 flX12_168 (by decide) (wsh hW rfl) (fun _ => rfl) (wrf hW 146 rfl) ?_
                  refine V_iload 161 0 rfl rfl ?_
                  refine V_iconst 162 (v := (1 : Int32)) rfl (by decide) ?_
                  refine V_isub 163 rfl ?_
                  refine V_pc 293 rfl ?_
                  refine V_aload_n 164 2 rfl rfl rfl ?_
                  refine V_getR 165 73 rfl clX12 flX12_168 (by decide) (wsh hW rfl) (fun _ => rfl) (wrf hW 146 rfl) ?_
                  refine V_iload 166 0 rfl rfl ?_
                  refine V_iconst 167 (v := (1 : Int32)) rfl (by decide) ?_
                  refine V_isub 168 rfl ?_
                  obtain ⟨hin, h⟩ := h
                  refine V_zald 169 rfl (wsh hW rfl) hin ?_
                  refine V_pc 302 rfl ?_
                  refine V_if_ne 170 (tgt := 332) rfl (by decide) (fun hc => ?_) (fun hc => ?_)
                  · replace h := h.1 hc
                    refine V_sub [2, 3, 4, 0, 5, 1] (lv' := [(0, .ref 92), (1, .int a0), (3, .int x3), (4, .int v12), (5, .int x5), (6, .int v11)]) rfl ?_
                    exact k_j332 x3 v12 x5 v11 (v12 - (1 : Int32)) σ hW h
                  · replace h := h.2 hc
                    refine V_pc 305 rfl ?_
                    refine V_aload_n 171 2 rfl rfl rfl ?_
                    refine V_getR 172 73 rfl clX12 flX12_168 (by decide) (wsh hW rfl) (fun _ => rfl) (wrf hW 146 rfl) ?_
                    refine V_iload 173 0 rfl rfl ?_
                    obtain ⟨hin, h⟩ := h
                    refine V_zald 174 rfl (wsh hW rfl) hin ?_
                    refine V_if_ne 175 (tgt := 332) rfl (by decide) (fun hc => ?_) (fun hc => ?_)
                    · replace h := h.1 hc
                      refine V_sub [2, 3, 4, 0, 5, 1] (lv' := [(0, .ref 92), (1, .int a0), (3, .int x3), (4, .int v12), (5, .int x5), (6, .int v11)]) rfl ?_
                      exact k_j332 x3 v12 x5 v11 (v12 - (1 : Int32)) σ hW h
                    · replace h := h.2 hc
                      refine V_pc 315 rfl ?_
                      refine V_iload 176 1 rfl rfl ?_
                      refine V_bipush 177 (v := (16 : Int32)) rfl (by decide) ?_
                      refine V_icmp_ne 178 (tgt := 336) rfl (by decide) (fun hc => ?_) (fun hc => ?_)
                      · replace h := h.1 hc
                        refine V_sub [2, 3, 4, 0, 5, 1] (lv' := [(0, .ref 92), (1, .int a0), (3, .int x3), (4, .int v12), (5, .int x5), (6, .int v11)]) rfl ?_
                        exact k_j336 x3 v12 x5 v11 (v12 - (1 : Int32)) σ hW h
                      · replace h := h.2 hc
                        refine V_pc 322 rfl ?_
                        refine V_aload_n 179 2 rfl rfl rfl ?_
                        refine V_getR 180 72 rfl clX12 flX12_165 (by decide) (wsh hW rfl) (fun _ => rfl) (wrf hW 145 rfl) ?_
                        refine V_iload 181 0 rfl rfl ?_
                        obtain ⟨hin, h⟩ := h
                        refine V_iald 182 rfl (wsh hW rfl) hin ?_
                        refine V_if_ne 183 (tgt := 336) rfl (by decide) (fun hc => ?_) (fun hc => ?_)
                        · replace h := h.1 hc
                          refine V_sub [2, 3, 4, 0, 5, 1] (lv' := [(0, .ref 92), (1, .int a0), (3, .int x3), (4, .int v12), (5, .int x5), (6, .int v11)]) rfl ?_
                          exact k_j336 x3 v12 x5 v11 (v12 - (1 : Int32)) σ hW h
                        · replace h := h.2 hc
                          refine V_pc 332 rfl ?_
                          refine V_sub [2, 3, 4, 0, 5, 1] (lv' := [(0, .ref 92), (1, .int a0), (3, .int x3), (4, .int v12), (5, .int x5), (6, .int v11)]) rfl ?_
                          exact k_j332 x3 v12 x5 v11 (v12 - (1 : Int32)) σ hW h
                · replace h := h.2 hc
                  refine V_pc 198 rfl ?_
                  refine V_iload 109 4 rfl rfl ?_
                  refine V_iconst 110 (v := (2 : Int32)) rfl (by decide) ?_
                  refine V_isub 111 rfl ?_
                  refine V_topi (fun v13 ev13 => ?_)
                  replace h := h v13 ev13
                  refine V_istore 112 (lv' := [(4, .int v13), (6, .int v11), (0, .ref 92), (1, .int a0), (3, .int x3), (5, .int x5)]) rfl (by decide) rfl ?_
                  refine V_aload_n 113 2 rfl rfl rfl ?_
                  refine V_getR 114 72 rfl clX12 flX12_165 (by decide) (wsh hW rfl) (fun _ => rfl) (wrf hW 145 rfl) ?_
                  refine V_pc 208 rfl ?_
                  refine V_iload 115 0 rfl rfl ?_
                  refine V_iconst 116 (v := (1 : Int32)) rfl (by decide) ?_
                  refine V_isub 117 rfl ?_
                  obtain ⟨hin, h⟩ := h
                  refine V_iald 118 rfl (wsh hW rfl) hin ?_
                  refine V_if_eq 119 (tgt := 221) rfl (by decide) (fun hc => ?_) (fun hc => ?_)
                  · replace h := h.1 hc
                    refine V_iload 122 0 rfl rfl ?_
                    refine V_iconst 123 (v := (1 : Int32)) rfl (by decide) ?_
                    refine V_iadd 124 rfl ?_
                    refine V_sub [2, 3, 4, 0, 5] (lv' := [(0, .ref 92), (1, .int a0), (3, .int x3), (4, .int v13), (5, .int x5)]) rfl ?_
                    exact k_j225 x3 v13 x5 (v13 + (1 : Int32)) σ hW h
                  · replace h := h.2 hc
                    refine V_pc 216 rfl ?_
                    refine V_iload 120 0 rfl rfl ?_
                    refine V_goto 121 (tgt := 225) rfl (by decide) ?_
                    refine V_sub [2, 3, 4, 0, 5] (lv' := [(0, .ref 92), (1, .int a0), (3, .int x3), (4, .int v13), (5, .int x5)]) rfl ?_
                    exact k_j225 x3 v13 x5 v13 σ hW h
              · replace h := h.2 hc
                refine V_pc 169 rfl ?_
                refine V_aload_n 92 1 rfl rfl rfl ?_
                refine V_getR 93 72 rfl clX12 flX12_165 (by decide) (wsh hW rfl) (fun _ => rfl) (wrf hW 145 rfl) ?_
                refine V_iload 94 4 rfl rfl ?_
                refine V_iconst 95 (v := (1 : Int32)) rfl (by decide) ?_
                refine V_isub 96 rfl ?_
                refine V_aload_n 97 1 rfl rfl rfl ?_
                refine V_pc 178 rfl ?_
                refine V_getR 98 72 rfl clX12 flX12_165 (by decide) (wsh hW rfl) (fun _ => rfl) (wrf hW 145 rfl) ?_
                refine V_iload 99 4 rfl rfl ?_
                refine V_iconst 100 (v := (1 : Int32)) rfl (by decide) ?_
                refine V_isub 101 rfl ?_
                obtain ⟨hin, h⟩ := h
                refine V_iald 102 rfl (wsh hW rfl) hin ?_
                refine V_ineg 103 rfl ?_
                refine V_pc 187 rfl ?_
                obtain ⟨hin, h⟩ := h
                refine V_iast 104 rfl (wsh hW rfl) hin ?_
                refine V_nm (fun σ14 eσ14 => ?_)
                replace h := h σ14 eσ14
                have hW := wire_I eσ14 hW
                refine V_goto 105 (tgt := 369) rfl (by decide) ?_
                refine V_sub [1, 2, 3, 4, 5] (lv' := [(0, .ref 92), (1, .int a0), (3, .int x3), (4, .int x4), (5, .int x5)]) rfl ?_
                exact k_j369 x3 x4 x5 σ14 hW h
            · replace h := h.2 hc
              refine V_pc 108 rfl ?_
              refine V_aload_n 59 1 rfl rfl rfl ?_
              refine V_getR 60 72 rfl clX12 flX12_165 (by decide) (wsh hW rfl) (fun _ => rfl) (wrf hW 145 rfl) ?_
              refine V_iload 61 4 rfl rfl ?_
              refine V_aload_n 62 1 rfl rfl rfl ?_
              refine V_getR 63 67 rfl clX12 flX12_150 (by decide) (wsh hW rfl) (fun _ => rfl) (wrf hW 140 rfl) ?_
              refine V_aload_n 64 1 rfl rfl rfl ?_
              refine V_pc 119 rfl ?_
              refine V_iload_n 65 2 rfl rfl rfl ?_
              refine V_aload_n 66 1 rfl rfl rfl ?_
              refine V_getR 67 23 rfl clX12 flX12_57 (by decide) (wsh hW rfl) (fun _ => rfl) (wrf hW 109 rfl) ?_
              refine V_iload 68 5 rfl rfl ?_
              obtain ⟨hin, h⟩ := h
              refine V_iald 69 rfl (wsh hW rfl) hin ?_
              refine V_callV 70 2 (as := [.int a0, .int (σ.2.1 108 x5.toNatClampNeg)]) (rest := [.ref 139, .int x4, .ref 144]) rfl mlX12_527 yvX12_valueAt rfl rfl clX12 (wsh hW rfl) (by decide) (by decide) (Nat.le_of_ble_eq_true rfl) (by decide) (by decide) (fun B9 => ceX12_valueAt hl B9 hW h) (fun X9 τ9 h9 => VX_out rfl h9) ?_
              rintro v9 σ15 ⟨hW, u16, rfl, h⟩
              obtain ⟨hin, h⟩ := h
              refine V_iald 71 rfl (wsh hW rfl) hin ?_
              obtain ⟨hin, h⟩ := h
              refine V_iast 72 rfl (wsh hW rfl) hin ?_
              refine V_nm (fun σ17 eσ17 => ?_)
              replace h := h σ17 eσ17
              have hW := wire_I eσ17 hW
              refine V_aload_n 73 1 rfl rfl rfl ?_
              refine V_getR 74 73 rfl clX12 flX12_168 (by decide) (wsh hW rfl) (fun _ => rfl) (wrf hW 146 rfl) ?_
              refine V_iload 75 4 rfl rfl ?_
              refine V_pc 138 rfl ?_
              refine V_aload_n 76 1 rfl rfl rfl ?_
              refine V_getR 77 69 rfl clX12 flX12_156 (by decide) (wsh hW rfl) (fun _ => rfl) (wrf hW 142 rfl) ?_
              refine V_aload_n 78 1 rfl rfl rfl ?_
              refine V_iload_n 79 2 rfl rfl rfl ?_
              refine V_aload_n 80 1 rfl rfl rfl ?_
              refine V_getR 81 23 rfl clX12 flX12_57 (by decide) (wsh hW rfl) (fun _ => rfl) (wrf hW 109 rfl) ?_
              refine V_pc 148 rfl ?_
              refine V_iload 82 5 rfl rfl ?_
              obtain ⟨hin, h⟩ := h
              refine V_iald 83 rfl (wsh hW rfl) hin ?_
              refine V_callV 84 2 (as := [.int a0, .int (σ17.2.1 108 x5.toNatClampNeg)]) (rest := [.ref 141, .int x4, .ref 145]) rfl mlX12_527 yvX12_valueAt rfl rfl clX12 (wsh hW rfl) (by decide) (by decide) (Nat.le_of_ble_eq_true rfl) (by decide) (by decide) (fun B9 => ceX12_valueAt hl B9 hW h) (fun X9 τ9 h9 => VX_out rfl h9) ?_
              rintro v9 σ18 ⟨hW, u19, rfl, h⟩
              obtain ⟨hin, h⟩ := h
              refine V_zald 85 rfl (wsh hW rfl) hin ?_
              obtain ⟨hin, h⟩ := h
              refine V_zast 86 rfl (wsh hW rfl) hin ?_
              refine V_nm (fun σ20 eσ20 => ?_)
              replace h := h σ20 eσ20
              have hW := wire_I eσ20 hW
              obtain ⟨v21, ev21⟩ : ∃ z : Int32, z = (x4 + 1) := ⟨_, rfl⟩
              replace h := h v21 ev21
              refine V_iinc 87 4 (v := v21) (lv' := [(4, .int v21), (6, .int v11), (0, .ref 92), (1, .int a0), (3, .int x3), (5, .int x5)]) rfl rfl ((in_1 _).trans ev21.symm) (by decide) rfl ?_
              refine V_goto 88 (tgt := 369) rfl (by decide) ?_
              refine V_sub [2, 3, 4, 0, 5] (lv' := [(0, .ref 92), (1, .int a0), (3, .int x3), (4, .int v21), (5, .int x5)]) rfl ?_
              exact k_j369 x3 v21 x5 σ20 hW h
          · replace h := h.2 hc
            refine V_pc 57 rfl ?_
            refine V_sub [1, 2, 3, 4, 5, 0] (lv' := [(0, .ref 92), (1, .int a0), (3, .int x3), (4, .int x4), (5, .int x5), (6, .int v11)]) rfl ?_
            exact k_j57 x3 x4 x5 v11 σ hW h
    intro n
    induction n with
    | zero => intro x3 x4 x5  σ hW h; exact absurd h id
    | succ n ih => exact step  _ ih
  intro σ hW h
  refine V_bipush 0 (v := (32 : Int32)) rfl (by decide) ?_
  refine V_aload_n 1 0 rfl rfl rfl ?_
  refine V_getR 2 54 rfl clX12 flX12_117 (by decide) (wsh hW rfl) (fun _ => rfl) (wrf hW 129 rfl) ?_
  refine V_iload_n 3 1 rfl rfl rfl ?_
  obtain ⟨hin, h⟩ := h
  refine V_iald 4 rfl (wsh hW rfl) hin ?_
  refine V_imul 5 rfl ?_
  refine V_pc 9 rfl ?_
  refine V_iload_n 6 2 rfl rfl rfl ?_
  refine V_iadd 7 rfl ?_
  refine V_topi (fun v22 ev22 => ?_)
  replace h := h v22 ev22
  refine V_istore_n 8 (lv' := [(3, .int v22), (0, .ref 92), (1, .int a0), (2, .int a1)]) rfl rfl (by decide) rfl ?_
  refine V_iconst 9 (v := (0 : Int32)) rfl (by decide) ?_
  refine V_istore 10 (lv' := [(4, .int (0 : Int32)), (3, .int v22), (0, .ref 92), (1, .int a0), (2, .int a1)]) rfl (by decide) rfl ?_
  refine V_aload_n 11 2 rfl rfl rfl ?_
  refine V_pc 16 rfl ?_
  refine V_getR 12 19 rfl clX12 flX12_48 (by decide) (wsh hW rfl) (fun _ => rfl) (wrf hW 106 rfl) ?_
  refine V_iload_n 13 1 rfl rfl rfl ?_
  obtain ⟨hin, h⟩ := h
  refine V_iald 14 rfl (wsh hW rfl) hin ?_
  refine V_topi (fun v23 ev23 => ?_)
  replace h := h v23 ev23
  refine V_istore 15 (lv' := [(5, .int v23), (4, .int (0 : Int32)), (3, .int v22), (0, .ref 92), (1, .int a0), (2, .int a1)]) rfl (by decide) rfl ?_
  refine V_sub [3, 4, 2, 1, 0] (lv' := [(0, .ref 92), (1, .int a0), (3, .int v22), (4, .int (0 : Int32)), (5, .int v23)]) rfl ?_
  obtain ⟨n, h⟩ := h
  exact k_l23 n v22 (0 : Int32) v23 σ hW h

def wX12_tryNode_j168 (a0 : Int32) (Q : Int32 → ab_S → Prop) (E : String → ab_S → Prop) (Bk : Int32 → Int32 → Int32 → ab_S → Prop) (x2 : Int32) (x3 : Int32) (x4 : Int32) (σ : ab_S) : Prop := ∀ v1 : Int32, v1 = (x4 + 1) → Bk x2 x3 v1 σ
def wX12_tryNode_j162 (a0 : Int32) (Q : Int32 → ab_S → Prop) (E : String → ab_S → Prop) (K168 : Int32 → Int32 → Int32 → ab_S → Prop) (Bk : Int32 → Int32 → Int32 → Int32 → ab_S → Prop) (x2 : Int32) (x3 : Int32) (x4 : Int32) (x5 : Int32) (σ : ab_S) : Prop := ∀ v2 : Int32, v2 = (x5 + 1) → Bk x2 x3 x4 v2 σ
def wX12_tryNode_j138 (a0 : Int32) (Q : Int32 → ab_S → Prop) (E : String → ab_S → Prop) (K168 : Int32 → Int32 → Int32 → ab_S → Prop) (Bk : Int32 → Int32 → Int32 → Int32 → ab_S → Prop) (x3 : Int32) (x4 : Int32) (x5 : Int32) (x6 : Int32) (y0 : Int32) (y1 : Int32) (σ : ab_S) : Prop := vp_in y1 2000 ∧ (∀ σ3 : ab_S, σ3 = ab_I σ 139 y1.toNatClampNeg y0 → vp_in (0 : Int32) 64 ∧ (vp_in x6 2000 ∧ (∀ σ4 : ab_S, σ4 = ab_I σ3 141 x6.toNatClampNeg (vp_nar .boolean (σ3.2.1 145 (0 : Int32).toNatClampNeg)) → vp_in x6 2000 ∧ (∀ σ5 : ab_S, σ5 = ab_I σ4 140 x6.toNatClampNeg (vp_nar .boolean (1 : Int32)) → wX12_tryNode_j162 a0 Q E K168 Bk (1 : Int32) x3 x4 x5 σ5))))
def wX12_tryNode_l26_b (a0 : Int32) (Q : Int32 → ab_S → Prop) (E : String → ab_S → Prop) (K168 : Int32 → Int32 → Int32 → ab_S → Prop) (Bk : Int32 → Int32 → Int32 → Int32 → ab_S → Prop) (x2 : Int32) (x3 : Int32) (x4 : Int32) (x5 : Int32) (σ : ab_S) : Prop := vp_in (((4 : Int32) * x3) + x4) 124 ∧ (vp_in (σ.2.1 104 (((4 : Int32) * x3) + x4).toNatClampNeg) 13 ∧ ((((σ.2.1 99 (σ.2.1 104 (((4 : Int32) * x3) + x4).toNatClampNeg).toNatClampNeg) ≤ x5) → K168 x2 x3 x4 σ) ∧ (¬ ((σ.2.1 99 (σ.2.1 104 (((4 : Int32) * x3) + x4).toNatClampNeg).toNatClampNeg) ≤ x5) → wX12_valueAt a0 (((8 : Int32) * x4) + x5) (fun u7 σ6 => wX12_isDefined x3 x4 x5 (fun u9 σ8 => ((u9 = 0) → wX12_tryNode_j162 a0 Q E K168 Bk x2 x3 x4 x5 σ8) ∧ (¬ (u9 = 0) → vp_in u7 2000 ∧ (((¬ (σ8.2.1 140 u7.toNatClampNeg) = 0) → wX12_tryNode_j162 a0 Q E K168 Bk x2 x3 x4 x5 σ8) ∧ (¬ (¬ (σ8.2.1 140 u7.toNatClampNeg) = 0) → wX12_isReady a0 (((8 : Int32) * x4) + x5) (fun u11 σ10 => ((u11 = 0) → wX12_tryNode_j162 a0 Q E K168 Bk x2 x3 x4 x5 σ10) ∧ (¬ (u11 = 0) → wX12_workOut a0 (((8 : Int32) * x4) + x5) (fun σ12 => vp_in (0 : Int32) 64 ∧ ((((σ12.2.1 145 (0 : Int32).toNatClampNeg) = 0) → vp_in (0 : Int32) 64 ∧ (wX12_tryNode_j138 a0 Q E K168 Bk x3 x4 x5 u7 (σ12.2.1 144 (0 : Int32).toNatClampNeg) u7 σ12)) ∧ (¬ ((σ12.2.1 145 (0 : Int32).toNatClampNeg) = 0) → wX12_tryNode_j138 a0 Q E K168 Bk x3 x4 x5 u7 (0 : Int32) u7 σ12))) E σ10)) E σ8)))) E σ6) E σ)))
def wX12_tryNode_l26 (a0 : Int32) (Q : Int32 → ab_S → Prop) (E : String → ab_S → Prop) (K168 : Int32 → Int32 → Int32 → ab_S → Prop) : Nat → Int32 → Int32 → Int32 → Int32 → ab_S → Prop
  | 0, _, _, _, _, _ => False
  | n + 1, x2, x3, x4, x5, σ => wX12_tryNode_l26_b a0 Q E K168 (wX12_tryNode_l26 a0 Q E K168 n) x2 x3 x4 x5 σ
def wX12_tryNode_l12_b (a0 : Int32) (Q : Int32 → ab_S → Prop) (E : String → ab_S → Prop) (Bk : Int32 → Int32 → Int32 → ab_S → Prop) (x2 : Int32) (x3 : Int32) (x4 : Int32) (σ : ab_S) : Prop := vp_in x3 31 ∧ ((((σ.2.1 103 x3.toNatClampNeg) < x4) → (x2 = 0 ∨ x2 = 1) ∧ Q x2 σ) ∧ (¬ ((σ.2.1 103 x3.toNatClampNeg) < x4) → ∃ n, wX12_tryNode_l26 a0 Q E (wX12_tryNode_j168 a0 Q E Bk) n x2 x3 x4 (0 : Int32) σ))
def wX12_tryNode_l12 (a0 : Int32) (Q : Int32 → ab_S → Prop) (E : String → ab_S → Prop) : Nat → Int32 → Int32 → Int32 → ab_S → Prop
  | 0, _, _, _, _ => False
  | n + 1, x2, x3, x4, σ => wX12_tryNode_l12_b a0 Q E (wX12_tryNode_l12 a0 Q E n) x2 x3 x4 σ
def wX12_tryNode (a0 : Int32) (Q : Int32 → ab_S → Prop) (E : String → ab_S → Prop) (σ : ab_S) : Prop := vp_in a0 251 ∧ (∀ v13 : Int32, v13 = (σ.2.1 128 a0.toNatClampNeg) → ∃ n, wX12_tryNode_l12 a0 Q E n (0 : Int32) v13 (0 : Int32) σ)
set_option maxHeartbeats 4000000 in
set_option maxRecDepth 100000 in
theorem ceX12_tryNode {l : Launch} (hl : l.stackTraces = false) (B : Nat) {a0 : Int32}  {Q : Int32 → ab_S → Prop} {E : String → ab_S → Prop} {σ : ab_S} (hW : Wire σ) (h : wX12_tryNode a0 Q E σ) : ab_Mt l yX12_tryNode mdX12_tryNode B 2 50 0 0 [.ref 92, .int a0] σ (fun v σ' => Wire σ' ∧ ∃ r : Int32, v = some (.int r) ∧ Q r σ') (fun X σ' => Wire σ' ∧ E X σ') := by
  refine V_met hl ⟨rfl, rfl, by decide⟩ rfl dkX12_tryNode (Nat.le_of_ble_eq_true rfl) ?_
  show V l mdX12_tryNode B 2 50 0 0 (ab_End _ _) 0 [(0, .ref 92), (1, .int a0)] [] σ
  revert h hW
  revert σ
  have k_l12 : ∀ (n : Nat) (x2 : Int32) (x3 : Int32) (x4 : Int32)  (σ : ab_S), Wire σ → wX12_tryNode_l12 a0 Q E n x2 x3 x4 σ → V l mdX12_tryNode B 2 50 0 0 (ab_End (fun v σ' => Wire σ' ∧ ∃ r : Int32, v = some (.int r) ∧ Q r σ') (fun X σ' => Wire σ' ∧ E X σ')) 12 [(0, .ref 92), (1, .int a0), (2, .int x2), (3, .int x3), (4, .int x4)] [] σ := by
    have step : ∀ (Bk : Int32 → Int32 → Int32 → ab_S → Prop) (k_Bk : ∀ (x2 : Int32) (x3 : Int32) (x4 : Int32)  (σ : ab_S), Wire σ → Bk x2 x3 x4 σ → V l mdX12_tryNode B 2 50 0 0 (ab_End (fun v σ' => Wire σ' ∧ ∃ r : Int32, v = some (.int r) ∧ Q r σ') (fun X σ' => Wire σ' ∧ E X σ')) 12 [(0, .ref 92), (1, .int a0), (2, .int x2), (3, .int x3), (4, .int x4)] [] σ), ∀ (x2 : Int32) (x3 : Int32) (x4 : Int32)  (σ : ab_S), Wire σ → wX12_tryNode_l12_b a0 Q E Bk x2 x3 x4 σ → V l mdX12_tryNode B 2 50 0 0 (ab_End (fun v σ' => Wire σ' ∧ ∃ r : Int32, v = some (.int r) ∧ Q r σ') (fun X σ' => Wire σ' ∧ E X σ')) 12 [(0, .ref 92), (1, .int a0), (2, .int x2), (3, .int x3), (4, .int x4)] [] σ := by
      intro Bk k_Bk
      have k_j168 : ∀ (x2 : Int32) (x3 : Int32) (x4 : Int32)  (σ : ab_S), Wire σ → wX12_tryNode_j168 a0 Q E Bk x2 x3 x4 σ → V l mdX12_tryNode B 2 50 0 0 (ab_End (fun v σ' => Wire σ' ∧ ∃ r : Int32, v = some (.int r) ∧ Q r σ') (fun X σ' => Wire σ' ∧ E X σ')) 168 [(0, .ref 92), (1, .int a0), (2, .int x2), (3, .int x3), (4, .int x4)] [] σ := by
        intro x2 x3 x4  σ hW h
        obtain ⟨v1, ev1⟩ : ∃ z : Int32, z = (x4 + 1) := ⟨_, rfl⟩
        replace h := h v1 ev1
        refine V_iinc 99 4 (v := v1) (lv' := [(4, .int v1), (0, .ref 92), (1, .int a0), (2, .int x2), (3, .int x3)]) rfl rfl ((in_1 _).trans ev1.symm) (by decide) rfl ?_
        refine V_goto 100 (tgt := 12) rfl (by decide) ?_
        refine V_sub [1, 2, 3, 4, 0] (lv' := [(0, .ref 92), (1, .int a0), (2, .int x2), (3, .int x3), (4, .int v1)]) rfl ?_
        exact k_Bk x2 x3 v1  σ hW h
      have k_l26 : ∀ (n : Nat) (x2 : Int32) (x3 : Int32) (x4 : Int32) (x5 : Int32)  (σ : ab_S), Wire σ → wX12_tryNode_l26 a0 Q E (wX12_tryNode_j168 a0 Q E Bk) n x2 x3 x4 x5 σ → V l mdX12_tryNode B 2 50 0 0 (ab_End (fun v σ' => Wire σ' ∧ ∃ r : Int32, v = some (.int r) ∧ Q r σ') (fun X σ' => Wire σ' ∧ E X σ')) 26 [(0, .ref 92), (1, .int a0), (2, .int x2), (3, .int x3), (4, .int x4), (5, .int x5)] [] σ := by
        have step : ∀ (K168 : Int32 → Int32 → Int32 → ab_S → Prop) (k_K168 : ∀ (x2 : Int32) (x3 : Int32) (x4 : Int32)  (σ : ab_S), Wire σ → K168 x2 x3 x4 σ → V l mdX12_tryNode B 2 50 0 0 (ab_End (fun v σ' => Wire σ' ∧ ∃ r : Int32, v = some (.int r) ∧ Q r σ') (fun X σ' => Wire σ' ∧ E X σ')) 168 [(0, .ref 92), (1, .int a0), (2, .int x2), (3, .int x3), (4, .int x4)] [] σ), ∀ (Bk : Int32 → Int32 → Int32 → Int32 → ab_S → Prop) (k_Bk : ∀ (x2 : Int32) (x3 : Int32) (x4 : Int32) (x5 : Int32)  (σ : ab_S), Wire σ → Bk x2 x3 x4 x5 σ → V l mdX12_tryNode B 2 50 0 0 (ab_End (fun v σ' => Wire σ' ∧ ∃ r : Int32, v = some (.int r) ∧ Q r σ') (fun X σ' => Wire σ' ∧ E X σ')) 26 [(0, .ref 92), (1, .int a0), (2, .int x2), (3, .int x3), (4, .int x4), (5, .int x5)] [] σ), ∀ (x2 : Int32) (x3 : Int32) (x4 : Int32) (x5 : Int32)  (σ : ab_S), Wire σ → wX12_tryNode_l26_b a0 Q E K168 Bk x2 x3 x4 x5 σ → V l mdX12_tryNode B 2 50 0 0 (ab_End (fun v σ' => Wire σ' ∧ ∃ r : Int32, v = some (.int r) ∧ Q r σ') (fun X σ' => Wire σ' ∧ E X σ')) 26 [(0, .ref 92), (1, .int a0), (2, .int x2), (3, .int x3), (4, .int x4), (5, .int x5)] [] σ := by
          intro K168 k_K168 Bk k_Bk
          have k_j162 : ∀ (x2 : Int32) (x3 : Int32) (x4 : Int32) (x5 : Int32)  (σ : ab_S), Wire σ → wX12_tryNode_j162 a0 Q E K168 Bk x2 x3 x4 x5 σ → V l mdX12_tryNode B 2 50 0 0 (ab_End (fun v σ' => Wire σ' ∧ ∃ r : Int32, v = some (.int r) ∧ Q r σ') (fun X σ' => Wire σ' ∧ E X σ')) 162 [(0, .ref 92), (1, .int a0), (2, .int x2), (3, .int x3), (4, .int x4), (5, .int x5)] [] σ := by
            intro x2 x3 x4 x5  σ hW h
            obtain ⟨v2, ev2⟩ : ∃ z : Int32, z = (x5 + 1) := ⟨_, rfl⟩
            replace h := h v2 ev2
            refine V_iinc 97 5 (v := v2) (lv' := [(5, .int v2), (0, .ref 92), (1, .int a0), (2, .int x2), (3, .int x3), (4, .int x4)]) rfl rfl ((in_1 _).trans ev2.symm) (by decide) rfl ?_
            refine V_goto 98 (tgt := 26) rfl (by decide) ?_
            refine V_sub [1, 2, 3, 4, 5, 0] (lv' := [(0, .ref 92), (1, .int a0), (2, .int x2), (3, .int x3), (4, .int x4), (5, .int v2)]) rfl ?_
            exact k_Bk x2 x3 x4 v2  σ hW h
          have k_j138 : ∀ (x3 : Int32) (x4 : Int32) (x5 : Int32) (x6 : Int32) (y0 : Int32) (y1 : Int32)  (σ : ab_S), Wire σ → wX12_tryNode_j138 a0 Q E K168 Bk x3 x4 x5 x6 y0 y1 σ → V l mdX12_tryNode B 2 50 0 0 (ab_End (fun v σ' => Wire σ' ∧ ∃ r : Int32, v = some (.int r) ∧ Q r σ') (fun X σ' => Wire σ' ∧ E X σ')) 138 [(0, .ref 92), (1, .int a0), (3, .int x3), (4, .int x4), (5, .int x5), (6, .int x6)] [.int y0, .int y1, .ref 139] σ := by
            intro x3 x4 x5 x6 y0 y1  σ hW h
            obtain ⟨hin, h⟩ := h
            refine V_iast 81 rfl (wsh hW rfl) hin ?_
            refine V_nm (fun σ3 eσ3 => ?_)
            replace h := h σ3 eσ3
            have hW := wire_I eσ3 hW
            refine V_aload_n 82 0 rfl rfl rfl ?_
            refine V_getR 83 69 rfl clX12 flX12_156 (by decide) (wsh hW rfl) (fun _ => rfl) (wrf hW 142 rfl) ?_
            refine V_iload 84 5 rfl rfl ?_
            refine V_aload_n 85 0 rfl rfl rfl ?_
            refine V_getR 86 73 rfl clX12 flX12_168 (by decide) (wsh hW rfl) (fun _ => rfl) (wrf hW 146 rfl) ?_
            refine V_pc 149 rfl ?_
            refine V_iconst 87 (v := (0 : Int32)) rfl (by decide) ?_
            obtain ⟨hin, h⟩ := h
            refine V_zald 88 rfl (wsh hW rfl) hin ?_
            obtain ⟨hin, h⟩ := h
            refine V_zast 89 rfl (wsh hW rfl) hin ?_
            refine V_nm (fun σ4 eσ4 => ?_)
            replace h := h σ4 eσ4
            have hW := wire_I eσ4 hW
            refine V_aload_n 90 0 rfl rfl rfl ?_
            refine V_getR 91 68 rfl clX12 flX12_153 (by decide) (wsh hW rfl) (fun _ => rfl) (wrf hW 141 rfl) ?_
            refine V_iload 92 5 rfl rfl ?_
            refine V_pc 158 rfl ?_
            refine V_iconst 93 (v := (1 : Int32)) rfl (by decide) ?_
            obtain ⟨hin, h⟩ := h
            refine V_zast 94 rfl (wsh hW rfl) hin ?_
            refine V_nm (fun σ5 eσ5 => ?_)
            replace h := h σ5 eσ5
            have hW := wire_I eσ5 hW
            refine V_iconst 95 (v := (1 : Int32)) rfl (by decide) ?_
            refine V_istore_n 96 (lv' := [(2, .int (1 : Int32)), (0, .ref 92), (1, .int a0), (3, .int x3), (4, .int x4), (5, .int x5), (6, .int x6)]) rfl rfl (by decide) rfl ?_
            refine V_sub [1, 2, 0, 3, 4, 5] (lv' := [(0, .ref 92), (1, .int a0), (2, .int (1 : Int32)), (3, .int x3), (4, .int x4), (5, .int x5)]) rfl ?_
            exact k_j162 (1 : Int32) x3 x4 x5 σ5 hW h
          intro x2 x3 x4 x5  σ hW h
          refine V_iload 17 5 rfl rfl ?_
          refine V_aload_n 18 0 rfl rfl rfl ?_
          refine V_getR 19 12 rfl clX12 flX12_29 (by decide) (wsh hW rfl) (fun _ => rfl) (wrf hW 100 rfl) ?_
          refine V_aload_n 20 0 rfl rfl rfl ?_
          refine V_getR 21 18 rfl clX12 flX12_45 (by decide) (wsh hW rfl) (fun _ => rfl) (wrf hW 105 rfl) ?_
          refine V_iconst 22 (v := (4 : Int32)) rfl (by decide) ?_
          refine V_pc 37 rfl ?_
          refine V_iload_n 23 3 rfl rfl rfl ?_
          refine V_imul 24 rfl ?_
          refine V_iload 25 4 rfl rfl ?_
          refine V_iadd 26 rfl ?_
          obtain ⟨hin, h⟩ := h
          refine V_iald 27 rfl (wsh hW rfl) hin ?_
          obtain ⟨hin, h⟩ := h
          refine V_iald 28 rfl (wsh hW rfl) hin ?_
          refine V_pc 44 rfl ?_
          refine V_icmp_ge 29 (tgt := 168) rfl (by decide) (fun hc => ?_) (fun hc => ?_)
          · replace h := h.1 hc
            refine V_sub [0, 1, 2, 3, 4] (lv' := [(0, .ref 92), (1, .int a0), (2, .int x2), (3, .int x3), (4, .int x4)]) rfl ?_
            exact k_K168 x2 x3 x4  σ hW h
          · replace h := h.2 hc
            refine V_pc 47 rfl ?_
            refine V_aload_n 30 0 rfl rfl rfl ?_
            refine V_iload_n 31 1 rfl rfl rfl ?_
            refine V_bipush 32 (v := (8 : Int32)) rfl (by decide) ?_
            refine V_iload 33 4 rfl rfl ?_
            refine V_imul 34 rfl ?_
            refine V_iload 35 5 rfl rfl ?_
            refine V_pc 56 rfl ?_
            refine V_iadd 36 rfl ?_
            refine V_callV 37 2 (as := [.int a0, .int (((8 : Int32) * x4) + x5)]) (rest := []) rfl mlX12_527 yvX12_valueAt rfl rfl clX12 (wsh hW rfl) (by decide) (by decide) (Nat.le_of_ble_eq_true rfl) (by decide) (by decide) (fun B9 => ceX12_valueAt hl B9 hW h) (fun X9 τ9 h9 => VX_out rfl h9) ?_
            rintro v9 σ6 ⟨hW, u7, rfl, h⟩
            refine V_istore 38 (lv' := [(6, .int u7), (0, .ref 92), (1, .int a0), (2, .int x2), (3, .int x3), (4, .int x4), (5, .int x5)]) rfl (by decide) rfl ?_
            refine V_aload_n 39 1 rfl rfl rfl ?_
            refine V_iload_n 40 4 rfl rfl rfl ?_
            refine V_iload 41 5 rfl rfl ?_
            refine V_iload 42 6 rfl rfl ?_
            refine V_pc 68 rfl ?_
            refine V_callV 43 3 (as := [.int x3, .int x4, .int x5]) (rest := []) rfl mlX12_328 yvX12_isDefined rfl rfl clX12 (wsh hW rfl) (by decide) (by decide) (Nat.le_of_ble_eq_true rfl) (by decide) (by decide) (fun B9 => ceX12_isDefined hl B9 hW h) (fun X9 τ9 h9 => VX_out rfl h9) ?_
            rintro v9 σ8 ⟨hW, u9, rfl, h⟩
            refine V_if_eq 44 (tgt := 162) rfl (by decide) (fun hc => ?_) (fun hc => ?_)
            · replace h := h.1 hc
              refine V_sub [1, 2, 3, 4, 5, 6] (lv' := [(0, .ref 92), (1, .int a0), (2, .int x2), (3, .int x3), (4, .int x4), (5, .int x5)]) rfl ?_
              exact k_j162 x2 x3 x4 x5 σ8 hW h
            · replace h := h.2 hc
              refine V_pc 74 rfl ?_
              refine V_aload_n 45 1 rfl rfl rfl ?_
              refine V_getR 46 68 rfl clX12 flX12_153 (by decide) (wsh hW rfl) (fun _ => rfl) (wrf hW 141 rfl) ?_
              refine V_iload 47 0 rfl rfl ?_
              obtain ⟨hin, h⟩ := h
              refine V_zald 48 rfl (wsh hW rfl) hin ?_
              refine V_if_ne 49 (tgt := 162) rfl (by decide) (fun hc => ?_) (fun hc => ?_)
              · replace h := h.1 hc
                refine V_sub [1, 2, 3, 4, 5, 6] (lv' := [(0, .ref 92), (1, .int a0), (2, .int x2), (3, .int x3), (4, .int x4), (5, .int x5)]) rfl ?_
                exact k_j162 x2 x3 x4 x5 σ8 hW h
              · replace h := h.2 hc
                refine V_pc 84 rfl ?_
                refine V_aload_n 50 1 rfl rfl rfl ?_
                refine V_iload_n 51 2 rfl rfl rfl ?_
                refine V_bipush 52 (v := (8 : Int32)) rfl (by decide) ?_
                refine V_iload 53 5 rfl rfl ?_
                refine V_imul 54 rfl ?_
                refine V_iload 55 6 rfl rfl ?_
                refine V_pc 93 rfl ?_
                refine V_iadd 56 rfl ?_
                refine V_callV 57 2 (as := [.int a0, .int (((8 : Int32) * x4) + x5)]) (rest := []) rfl mlX12_533 yvX12_isReady rfl rfl clX12 (wsh hW rfl) (by decide) (by decide) (Nat.le_of_ble_eq_true rfl) (by decide) (by decide) (fun B9 => ceX12_isReady hl B9 hW h) (fun X9 τ9 h9 => VX_out rfl h9) ?_
                rintro v9 σ10 ⟨hW, u11, rfl, h⟩
                refine V_if_eq 58 (tgt := 162) rfl (by decide) (fun hc => ?_) (fun hc => ?_)
                · replace h := h.1 hc
                  refine V_sub [1, 2, 3, 4, 5, 6] (lv' := [(0, .ref 92), (1, .int a0), (2, .int x2), (3, .int x3), (4, .int x4), (5, .int x5)]) rfl ?_
                  exact k_j162 x2 x3 x4 x5 σ10 hW h
                · replace h := h.2 hc
                  refine V_pc 100 rfl ?_
                  refine V_aload_n 59 1 rfl rfl rfl ?_
                  refine V_iload_n 60 2 rfl rfl rfl ?_
                  refine V_bipush 61 (v := (8 : Int32)) rfl (by decide) ?_
                  refine V_iload 62 5 rfl rfl ?_
                  refine V_imul 63 rfl ?_
                  refine V_iload 64 6 rfl rfl ?_
                  refine V_pc 109 rfl ?_
                  refine V_iadd 65 rfl ?_
                  refine V_callV 66 2 (as := [.int a0, .int (((8 : Int32) * x4) + x5)]) (rest := []) rfl mlX12_536 yvX12_workOut rfl rfl clX12 (wsh hW rfl) (by decide) (by decide) (Nat.le_of_ble_eq_true rfl) (by decide) (by decide) (fun B9 => ceX12_workOut hl B9 hW h) (fun X9 τ9 h9 => VX_out rfl h9) ?_
                  rintro v9 σ12 ⟨hW, rfl, h⟩
                  refine V_aload_n 67 1 rfl rfl rfl ?_
                  refine V_getR 68 67 rfl clX12 flX12_150 (by decide) (wsh hW rfl) (fun _ => rfl) (wrf hW 140 rfl) ?_
                  refine V_iload 69 0 rfl rfl ?_
                  refine V_aload_n 70 1 rfl rfl rfl ?_
                  refine V_getR 71 73 rfl clX12 flX12_168 (by decide) (wsh hW rfl) (fun _ => rfl) (wrf hW 146 rfl) ?_
                  refine V_pc 123 rfl ?_
                  refine V_iconst 72 (v := (0 : Int32)) rfl (by decide) ?_
                  obtain ⟨hin, h⟩ := h
                  refine V_zald 73 rfl (wsh hW rfl) hin ?_
                  refine V_if_eq 74 (tgt := 132) rfl (by decide) (fun hc => ?_) (fun hc => ?_)
                  · replace h := h.1 hc
                    refine V_aload_n 77 1 rfl rfl rfl ?_
                    refine V_getR 78 72 rfl clX12 flX12_165 (by decide) (wsh hW rfl) (fun _ => rfl) (wrf hW 145 rfl) ?_
                    refine V_iconst 79 (v := (0 : Int32)) rfl (by decide) ?_
                    obtain ⟨hin, h⟩ := h
                    refine V_iald 80 rfl (wsh hW rfl) hin ?_
                    refine V_sub [1, 2, 4, 5, 6, 0] (lv' := [(0, .ref 92), (1, .int a0), (3, .int x3), (4, .int x4), (5, .int x5), (6, .int u7)]) rfl ?_
                    exact k_j138 x3 x4 x5 u7 (σ12.2.1 144 (0 : Int32).toNatClampNeg) u7 σ12 hW h
                  · replace h := h.2 hc
                    refine V_pc 128 rfl ?_
                    refine V_iconst 75 (v := (0 : Int32)) rfl (by decide) ?_
                    refine V_goto 76 (tgt := 138) rfl (by decide) ?_
                    refine V_sub [1, 2, 4, 5, 6, 0] (lv' := [(0, .ref 92), (1, .int a0), (3, .int x3), (4, .int x4), (5, .int x5), (6, .int u7)]) rfl ?_
                    exact k_j138 x3 x4 x5 u7 (0 : Int32) u7 σ12 hW h
        intro n
        induction n with
        | zero => intro x2 x3 x4 x5  σ hW h; exact absurd h id
        | succ n ih => exact step _ k_j168 _ ih
      intro x2 x3 x4  σ hW h
      refine V_iload 9 4 rfl rfl ?_
      refine V_aload_n 10 0 rfl rfl rfl ?_
      refine V_getR 11 17 rfl clX12 flX12_42 (by decide) (wsh hW rfl) (fun _ => rfl) (wrf hW 104 rfl) ?_
      refine V_iload_n 12 3 rfl rfl rfl ?_
      obtain ⟨hin, h⟩ := h
      refine V_iald 13 rfl (wsh hW rfl) hin ?_
      refine V_icmp_gt 14 (tgt := 174) rfl (by decide) (fun hc => ?_) (fun hc => ?_)
      · replace h := h.1 hc
        refine V_iload_n 101 2 rfl rfl rfl ?_
        exact V_zret 102 rfl rfl (nb1 h.1) ⟨hW, _, rfl, h.2⟩
      · replace h := h.2 hc
        refine V_pc 23 rfl ?_
        refine V_iconst 15 (v := (0 : Int32)) rfl (by decide) ?_
        refine V_istore 16 (lv' := [(5, .int (0 : Int32)), (0, .ref 92), (1, .int a0), (2, .int x2), (3, .int x3), (4, .int x4)]) rfl (by decide) rfl ?_
        refine V_sub [1, 2, 3, 4, 5, 0] (lv' := [(0, .ref 92), (1, .int a0), (2, .int x2), (3, .int x3), (4, .int x4), (5, .int (0 : Int32))]) rfl ?_
        obtain ⟨n, h⟩ := h
        exact k_l26 n x2 x3 x4 (0 : Int32) σ hW h
    intro n
    induction n with
    | zero => intro x2 x3 x4  σ hW h; exact absurd h id
    | succ n ih => exact step  _ ih
  intro σ hW h
  refine V_iconst 0 (v := (0 : Int32)) rfl (by decide) ?_
  refine V_istore_n 1 (lv' := [(2, .int (0 : Int32)), (0, .ref 92), (1, .int a0)]) rfl rfl (by decide) rfl ?_
  refine V_aload_n 2 1 rfl rfl rfl ?_
  refine V_getR 3 54 rfl clX12 flX12_117 (by decide) (wsh hW rfl) (fun _ => rfl) (wrf hW 129 rfl) ?_
  refine V_iload_n 4 2 rfl rfl rfl ?_
  obtain ⟨hin, h⟩ := h
  refine V_iald 5 rfl (wsh hW rfl) hin ?_
  refine V_pc 8 rfl ?_
  refine V_topi (fun v13 ev13 => ?_)
  replace h := h v13 ev13
  refine V_istore_n 6 (lv' := [(3, .int v13), (2, .int (0 : Int32)), (0, .ref 92), (1, .int a0)]) rfl rfl (by decide) rfl ?_
  refine V_iconst 7 (v := (0 : Int32)) rfl (by decide) ?_
  refine V_istore 8 (lv' := [(4, .int (0 : Int32)), (3, .int v13), (2, .int (0 : Int32)), (0, .ref 92), (1, .int a0)]) rfl (by decide) rfl ?_
  refine V_sub [3, 4, 2, 1, 0] (lv' := [(0, .ref 92), (1, .int a0), (2, .int (0 : Int32)), (3, .int v13), (4, .int (0 : Int32))]) rfl ?_
  obtain ⟨n, h⟩ := h
  exact k_l12 n (0 : Int32) v13 (0 : Int32) σ hW h

def wX12_evaluate_j79 (Q : ab_S → Prop) (E : String → ab_S → Prop) (Bk : Int32 → ab_S → Prop) (x1 : Int32) (σ : ab_S) : Prop := Bk x1 σ
def wX12_evaluate_j72 (Q : ab_S → Prop) (E : String → ab_S → Prop) (K79 : Int32 → ab_S → Prop) (Bk : Int32 → Int32 → ab_S → Prop) (x2 : Int32) (y0 : Int32) (σ : ab_S) : Prop := ∀ v1 : Int32, v1 = (x2 - 1) → Bk y0 v1 σ
def wX12_evaluate_j67 (Q : ab_S → Prop) (E : String → ab_S → Prop) (K79 : Int32 → ab_S → Prop) (Bk : Int32 → Int32 → ab_S → Prop) (x2 : Int32) (σ : ab_S) : Prop := wX12_evaluate_j72 Q E K79 Bk x2 (1 : Int32) σ
def wX12_evaluate_l51_b (Q : ab_S → Prop) (E : String → ab_S → Prop) (K79 : Int32 → ab_S → Prop) (Bk : Int32 → Int32 → ab_S → Prop) (x1 : Int32) (x2 : Int32) (σ : ab_S) : Prop := ((x2 < 0) → K79 x1 σ) ∧ (¬ (x2 < 0) → wX12_tryNode x2 (fun u3 σ2 => ((¬ u3 = 0) → wX12_evaluate_j67 Q E K79 Bk x2 σ2) ∧ (¬ (¬ u3 = 0) → ((x1 = 0) → wX12_evaluate_j72 Q E K79 Bk x2 (0 : Int32) σ2) ∧ (¬ (x1 = 0) → wX12_evaluate_j67 Q E K79 Bk x2 σ2))) E σ)
def wX12_evaluate_l51 (Q : ab_S → Prop) (E : String → ab_S → Prop) (K79 : Int32 → ab_S → Prop) : Nat → Int32 → Int32 → ab_S → Prop
  | 0, _, _, _ => False
  | n + 1, x1, x2, σ => wX12_evaluate_l51_b Q E K79 (wX12_evaluate_l51 Q E K79 n) x1 x2 σ
def wX12_evaluate_l38_b (Q : ab_S → Prop) (E : String → ab_S → Prop) (Bk : Int32 → ab_S → Prop) (x1 : Int32) (σ : ab_S) : Prop := ((x1 = 0) → Q σ) ∧ (¬ (x1 = 0) → ∀ v4 : Int32, v4 = ((σ.2.1 92 53) - (1 : Int32)) → ∃ n, wX12_evaluate_l51 Q E (wX12_evaluate_j79 Q E Bk) n (0 : Int32) v4 σ)
def wX12_evaluate_l38 (Q : ab_S → Prop) (E : String → ab_S → Prop) : Nat → Int32 → ab_S → Prop
  | 0, _, _ => False
  | n + 1, x1, σ => wX12_evaluate_l38_b Q E (wX12_evaluate_l38 Q E n) x1 σ
def wX12_evaluate_j36 (Q : ab_S → Prop) (E : String → ab_S → Prop)  (σ : ab_S) : Prop := ∃ n, wX12_evaluate_l38 Q E n (1 : Int32) σ
def wX12_evaluate_l2_b (Q : ab_S → Prop) (E : String → ab_S → Prop) (K36 : ab_S → Prop) (Bk : Int32 → ab_S → Prop) (x1 : Int32) (σ : ab_S) : Prop := (((2000 : Int32) ≤ x1) → K36 σ) ∧ (¬ ((2000 : Int32) ≤ x1) → vp_in x1 2000 ∧ (∀ σ5 : ab_S, σ5 = ab_I σ 140 x1.toNatClampNeg (vp_nar .boolean (0 : Int32)) → vp_in x1 2000 ∧ (∀ σ6 : ab_S, σ6 = ab_I σ5 141 x1.toNatClampNeg (vp_nar .boolean (0 : Int32)) → vp_in x1 2000 ∧ (∀ σ7 : ab_S, σ7 = ab_I σ6 139 x1.toNatClampNeg (0 : Int32) → ∀ v8 : Int32, v8 = (x1 + 1) → Bk v8 σ7))))
def wX12_evaluate_l2 (Q : ab_S → Prop) (E : String → ab_S → Prop) (K36 : ab_S → Prop) : Nat → Int32 → ab_S → Prop
  | 0, _, _ => False
  | n + 1, x1, σ => wX12_evaluate_l2_b Q E K36 (wX12_evaluate_l2 Q E K36 n) x1 σ
def wX12_evaluate  (Q : ab_S → Prop) (E : String → ab_S → Prop) (σ : ab_S) : Prop := ∃ n, wX12_evaluate_l2 Q E (wX12_evaluate_j36 Q E) n (0 : Int32) σ
set_option maxHeartbeats 4000000 in
set_option maxRecDepth 100000 in
theorem ceX12_evaluate {l : Launch} (hl : l.stackTraces = false) (B : Nat)   {Q : ab_S → Prop} {E : String → ab_S → Prop} {σ : ab_S} (hW : Wire σ) (h : wX12_evaluate  Q E σ) : ab_Mt l yX12_evaluate mdX12_evaluate B 3 76 0 0 [.ref 92] σ (fun v σ' => Wire σ' ∧ v = none ∧ Q σ') (fun X σ' => Wire σ' ∧ E X σ') := by
  refine V_met hl ⟨rfl, rfl, by decide⟩ rfl dkX12_evaluate (Nat.le_of_ble_eq_true rfl) ?_
  show V l mdX12_evaluate B 3 76 0 0 (ab_End _ _) 0 [(0, .ref 92)] [] σ
  revert h hW
  revert σ
  have k_l38 : ∀ (n : Nat) (x1 : Int32)  (σ : ab_S), Wire σ → wX12_evaluate_l38 Q E n x1 σ → V l mdX12_evaluate B 3 76 0 0 (ab_End (fun v σ' => Wire σ' ∧ v = none ∧ Q σ') (fun X σ' => Wire σ' ∧ E X σ')) 38 [(0, .ref 92), (1, .int x1)] [] σ := by
    have step : ∀ (Bk : Int32 → ab_S → Prop) (k_Bk : ∀ (x1 : Int32)  (σ : ab_S), Wire σ → Bk x1 σ → V l mdX12_evaluate B 3 76 0 0 (ab_End (fun v σ' => Wire σ' ∧ v = none ∧ Q σ') (fun X σ' => Wire σ' ∧ E X σ')) 38 [(0, .ref 92), (1, .int x1)] [] σ), ∀ (x1 : Int32)  (σ : ab_S), Wire σ → wX12_evaluate_l38_b Q E Bk x1 σ → V l mdX12_evaluate B 3 76 0 0 (ab_End (fun v σ' => Wire σ' ∧ v = none ∧ Q σ') (fun X σ' => Wire σ' ∧ E X σ')) 38 [(0, .ref 92), (1, .int x1)] [] σ := by
      intro Bk k_Bk
      have k_j79 : ∀ (x1 : Int32)  (σ : ab_S), Wire σ → wX12_evaluate_j79 Q E Bk x1 σ → V l mdX12_evaluate B 3 76 0 0 (ab_End (fun v σ' => Wire σ' ∧ v = none ∧ Q σ') (fun X σ' => Wire σ' ∧ E X σ')) 79 [(0, .ref 92), (1, .int x1)] [] σ := by
        intro x1  σ hW h
        refine V_goto 47 (tgt := 38) rfl (by decide) ?_
        exact k_Bk x1  σ hW h
      have k_l51 : ∀ (n : Nat) (x1 : Int32) (x2 : Int32)  (σ : ab_S), Wire σ → wX12_evaluate_l51 Q E (wX12_evaluate_j79 Q E Bk) n x1 x2 σ → V l mdX12_evaluate B 3 76 0 0 (ab_End (fun v σ' => Wire σ' ∧ v = none ∧ Q σ') (fun X σ' => Wire σ' ∧ E X σ')) 51 [(0, .ref 92), (1, .int x1), (2, .int x2)] [] σ := by
        have step : ∀ (K79 : Int32 → ab_S → Prop) (k_K79 : ∀ (x1 : Int32)  (σ : ab_S), Wire σ → K79 x1 σ → V l mdX12_evaluate B 3 76 0 0 (ab_End (fun v σ' => Wire σ' ∧ v = none ∧ Q σ') (fun X σ' => Wire σ' ∧ E X σ')) 79 [(0, .ref 92), (1, .int x1)] [] σ), ∀ (Bk : Int32 → Int32 → ab_S → Prop) (k_Bk : ∀ (x1 : Int32) (x2 : Int32)  (σ : ab_S), Wire σ → Bk x1 x2 σ → V l mdX12_evaluate B 3 76 0 0 (ab_End (fun v σ' => Wire σ' ∧ v = none ∧ Q σ') (fun X σ' => Wire σ' ∧ E X σ')) 51 [(0, .ref 92), (1, .int x1), (2, .int x2)] [] σ), ∀ (x1 : Int32) (x2 : Int32)  (σ : ab_S), Wire σ → wX12_evaluate_l51_b Q E K79 Bk x1 x2 σ → V l mdX12_evaluate B 3 76 0 0 (ab_End (fun v σ' => Wire σ' ∧ v = none ∧ Q σ') (fun X σ' => Wire σ' ∧ E X σ')) 51 [(0, .ref 92), (1, .int x1), (2, .int x2)] [] σ := by
          intro K79 k_K79 Bk k_Bk
          have k_j72 : ∀ (x2 : Int32) (y0 : Int32)  (σ : ab_S), Wire σ → wX12_evaluate_j72 Q E K79 Bk x2 y0 σ → V l mdX12_evaluate B 3 76 0 0 (ab_End (fun v σ' => Wire σ' ∧ v = none ∧ Q σ') (fun X σ' => Wire σ' ∧ E X σ')) 72 [(0, .ref 92), (2, .int x2)] [.int y0] σ := by
            intro x2 y0  σ hW h
            refine V_istore_n 44 (lv' := [(1, .int y0), (0, .ref 92), (2, .int x2)]) rfl rfl (by decide) rfl ?_
            obtain ⟨v1, ev1⟩ : ∃ z : Int32, z = (x2 - 1) := ⟨_, rfl⟩
            replace h := h v1 ev1
            refine V_iinc 45 2 (v := v1) (lv' := [(2, .int v1), (1, .int y0), (0, .ref 92)]) rfl rfl ((in_m1 _).trans ev1.symm) (by decide) rfl ?_
            refine V_goto 46 (tgt := 51) rfl (by decide) ?_
            refine V_sub [2, 1, 0] (lv' := [(0, .ref 92), (1, .int y0), (2, .int v1)]) rfl ?_
            exact k_Bk y0 v1  σ hW h
          have k_j67 : ∀ (x2 : Int32)  (σ : ab_S), Wire σ → wX12_evaluate_j67 Q E K79 Bk x2 σ → V l mdX12_evaluate B 3 76 0 0 (ab_End (fun v σ' => Wire σ' ∧ v = none ∧ Q σ') (fun X σ' => Wire σ' ∧ E X σ')) 67 [(0, .ref 92), (2, .int x2)] [] σ := by
            intro x2  σ hW h
            refine V_iconst 41 (v := (1 : Int32)) rfl (by decide) ?_
            refine V_goto 42 (tgt := 72) rfl (by decide) ?_
            exact k_j72 x2 (1 : Int32) σ hW h
          intro x1 x2  σ hW h
          refine V_iload_n 33 2 rfl rfl rfl ?_
          refine V_if_lt 34 (tgt := 79) rfl (by decide) (fun hc => ?_) (fun hc => ?_)
          · replace h := h.1 hc
            refine V_sub [0, 1] (lv' := [(0, .ref 92), (1, .int x1)]) rfl ?_
            exact k_K79 x1  σ hW h
          · replace h := h.2 hc
            refine V_pc 55 rfl ?_
            refine V_aload_n 35 0 rfl rfl rfl ?_
            refine V_iload_n 36 2 rfl rfl rfl ?_
            refine V_callV 37 1 (as := [.int x2]) (rest := []) rfl mlX12_539 yvX12_tryNode rfl rfl clX12 (wsh hW rfl) (by decide) (by decide) (Nat.le_of_ble_eq_true rfl) (by decide) (by decide) (fun B9 => ceX12_tryNode hl B9 hW h) (fun X9 τ9 h9 => VX_out rfl h9) ?_
            rintro v9 σ2 ⟨hW, u3, rfl, h⟩
            refine V_if_ne 38 (tgt := 67) rfl (by decide) (fun hc => ?_) (fun hc => ?_)
            · replace h := h.1 hc
              refine V_sub [0, 2] (lv' := [(0, .ref 92), (2, .int x2)]) rfl ?_
              exact k_j67 x2 σ2 hW h
            · replace h := h.2 hc
              refine V_pc 63 rfl ?_
              refine V_iload_n 39 1 rfl rfl rfl ?_
              refine V_if_eq 40 (tgt := 71) rfl (by decide) (fun hc => ?_) (fun hc => ?_)
              · replace h := h.1 hc
                refine V_iconst 43 (v := (0 : Int32)) rfl (by decide) ?_
                refine V_sub [0, 2] (lv' := [(0, .ref 92), (2, .int x2)]) rfl ?_
                exact k_j72 x2 (0 : Int32) σ2 hW h
              · replace h := h.2 hc
                refine V_pc 67 rfl ?_
                refine V_sub [0, 2] (lv' := [(0, .ref 92), (2, .int x2)]) rfl ?_
                exact k_j67 x2 σ2 hW h
        intro n
        induction n with
        | zero => intro x1 x2  σ hW h; exact absurd h id
        | succ n ih => exact step _ k_j79 _ ih
      intro x1  σ hW h
      refine V_iload_n 24 1 rfl rfl rfl ?_
      refine V_if_eq 25 (tgt := 82) rfl (by decide) (fun hc => ?_) (fun hc => ?_)
      · replace h := h.1 hc
        exact V_vret 48 rfl rfl ⟨hW, rfl, h⟩
      · replace h := h.2 hc
        refine V_pc 42 rfl ?_
        refine V_iconst 26 (v := (0 : Int32)) rfl (by decide) ?_
        refine V_istore_n 27 (lv' := [(1, .int (0 : Int32)), (0, .ref 92)]) rfl rfl (by decide) rfl ?_
        refine V_aload_n 28 1 rfl rfl rfl ?_
        refine V_get (v := .int (σ.2.1 92 53)) 29 53 rfl clX12 flX12_521 (by decide) (wsh hW rfl) (fun _ => rfl) ?_
        refine V_iconst 30 (v := (1 : Int32)) rfl (by decide) ?_
        refine V_isub 31 rfl ?_
        refine V_pc 50 rfl ?_
        refine V_topi (fun v4 ev4 => ?_)
        replace h := h v4 ev4
        refine V_istore_n 32 (lv' := [(2, .int v4), (1, .int (0 : Int32)), (0, .ref 92)]) rfl rfl (by decide) rfl ?_
        refine V_sub [2, 1, 0] (lv' := [(0, .ref 92), (1, .int (0 : Int32)), (2, .int v4)]) rfl ?_
        obtain ⟨n, h⟩ := h
        exact k_l51 n (0 : Int32) v4 σ hW h
    intro n
    induction n with
    | zero => intro x1  σ hW h; exact absurd h id
    | succ n ih => exact step  _ ih
  have k_j36 : ∀   (σ : ab_S), Wire σ → wX12_evaluate_j36 Q E  σ → V l mdX12_evaluate B 3 76 0 0 (ab_End (fun v σ' => Wire σ' ∧ v = none ∧ Q σ') (fun X σ' => Wire σ' ∧ E X σ')) 36 [(0, .ref 92)] [] σ := by
    intro   σ hW h
    refine V_iconst 22 (v := (1 : Int32)) rfl (by decide) ?_
    refine V_istore_n 23 (lv' := [(1, .int (1 : Int32)), (0, .ref 92)]) rfl rfl (by decide) rfl ?_
    refine V_sub [1, 0] (lv' := [(0, .ref 92), (1, .int (1 : Int32))]) rfl ?_
    obtain ⟨n, h⟩ := h
    exact k_l38 n (1 : Int32) σ hW h
  have k_l2 : ∀ (n : Nat) (x1 : Int32)  (σ : ab_S), Wire σ → wX12_evaluate_l2 Q E (wX12_evaluate_j36 Q E) n x1 σ → V l mdX12_evaluate B 3 76 0 0 (ab_End (fun v σ' => Wire σ' ∧ v = none ∧ Q σ') (fun X σ' => Wire σ' ∧ E X σ')) 2 [(0, .ref 92), (1, .int x1)] [] σ := by
    have step : ∀ (K36 : ab_S → Prop) (k_K36 : ∀   (σ : ab_S), Wire σ → K36  σ → V l mdX12_evaluate B 3 76 0 0 (ab_End (fun v σ' => Wire σ' ∧ v = none ∧ Q σ') (fun X σ' => Wire σ' ∧ E X σ')) 36 [(0, .ref 92)] [] σ), ∀ (Bk : Int32 → ab_S → Prop) (k_Bk : ∀ (x1 : Int32)  (σ : ab_S), Wire σ → Bk x1 σ → V l mdX12_evaluate B 3 76 0 0 (ab_End (fun v σ' => Wire σ' ∧ v = none ∧ Q σ') (fun X σ' => Wire σ' ∧ E X σ')) 2 [(0, .ref 92), (1, .int x1)] [] σ), ∀ (x1 : Int32)  (σ : ab_S), Wire σ → wX12_evaluate_l2_b Q E K36 Bk x1 σ → V l mdX12_evaluate B 3 76 0 0 (ab_End (fun v σ' => Wire σ' ∧ v = none ∧ Q σ') (fun X σ' => Wire σ' ∧ E X σ')) 2 [(0, .ref 92), (1, .int x1)] [] σ := by
      intro K36 k_K36 Bk k_Bk
      intro x1  σ hW h
      refine V_iload_n 2 1 rfl rfl rfl ?_
      refine V_sipush 3 (v := (2000 : Int32)) rfl (by decide) ?_
      refine V_icmp_ge 4 (tgt := 36) rfl (by decide) (fun hc => ?_) (fun hc => ?_)
      · replace h := h.1 hc
        refine V_sub [0] (lv' := [(0, .ref 92)]) rfl ?_
        exact k_K36  σ hW h
      · replace h := h.2 hc
        refine V_pc 9 rfl ?_
        refine V_aload_n 5 0 rfl rfl rfl ?_
        refine V_getR 6 68 rfl clX12 flX12_153 (by decide) (wsh hW rfl) (fun _ => rfl) (wrf hW 141 rfl) ?_
        refine V_iload_n 7 1 rfl rfl rfl ?_
        refine V_iconst 8 (v := (0 : Int32)) rfl (by decide) ?_
        obtain ⟨hin, h⟩ := h
        refine V_zast 9 rfl (wsh hW rfl) hin ?_
        refine V_nm (fun σ5 eσ5 => ?_)
        replace h := h σ5 eσ5
        have hW := wire_I eσ5 hW
        refine V_aload_n 10 0 rfl rfl rfl ?_
        refine V_pc 17 rfl ?_
        refine V_getR 11 69 rfl clX12 flX12_156 (by decide) (wsh hW rfl) (fun _ => rfl) (wrf hW 142 rfl) ?_
        refine V_iload_n 12 1 rfl rfl rfl ?_
        refine V_iconst 13 (v := (0 : Int32)) rfl (by decide) ?_
        obtain ⟨hin, h⟩ := h
        refine V_zast 14 rfl (wsh hW rfl) hin ?_
        refine V_nm (fun σ6 eσ6 => ?_)
        replace h := h σ6 eσ6
        have hW := wire_I eσ6 hW
        refine V_aload_n 15 0 rfl rfl rfl ?_
        refine V_getR 16 67 rfl clX12 flX12_150 (by decide) (wsh hW rfl) (fun _ => rfl) (wrf hW 140 rfl) ?_
        refine V_pc 27 rfl ?_
        refine V_iload_n 17 1 rfl rfl rfl ?_
        refine V_iconst 18 (v := (0 : Int32)) rfl (by decide) ?_
        obtain ⟨hin, h⟩ := h
        refine V_iast 19 rfl (wsh hW rfl) hin ?_
        refine V_nm (fun σ7 eσ7 => ?_)
        replace h := h σ7 eσ7
        have hW := wire_I eσ7 hW
        obtain ⟨v8, ev8⟩ : ∃ z : Int32, z = (x1 + 1) := ⟨_, rfl⟩
        replace h := h v8 ev8
        refine V_iinc 20 1 (v := v8) (lv' := [(1, .int v8), (0, .ref 92)]) rfl rfl ((in_1 _).trans ev8.symm) (by decide) rfl ?_
        refine V_goto 21 (tgt := 2) rfl (by decide) ?_
        refine V_sub [1, 0] (lv' := [(0, .ref 92), (1, .int v8)]) rfl ?_
        exact k_Bk v8  σ7 hW h
    intro n
    induction n with
    | zero => intro x1  σ hW h; exact absurd h id
    | succ n ih => exact step _ k_j36 _ ih
  intro σ hW h
  refine V_iconst 0 (v := (0 : Int32)) rfl (by decide) ?_
  refine V_istore_n 1 (lv' := [(1, .int (0 : Int32)), (0, .ref 92)]) rfl rfl (by decide) rfl ?_
  refine V_sub [1, 0] (lv' := [(0, .ref 92), (1, .int (0 : Int32))]) rfl ?_
  obtain ⟨n, h⟩ := h
  exact k_l2 n (0 : Int32) σ hW h

def wX12_tree_j148 (Q : Int32 → ab_S → Prop) (E : String → ab_S → Prop)  (σ : ab_S) : Prop := (∀ σ1 : ab_S, σ1 = ab_I σ 92 52 (1 : Int32) → (∀ σ2 : ab_S, σ2 = ab_I σ1 92 83 (0 : Int32) → wX12_evaluate (fun σ3 => Q (-1 : Int32) σ3) E σ2))
def wX12_tree_j142 (Q : Int32 → ab_S → Prop) (E : String → ab_S → Prop) (K148 : ab_S → Prop) (Bk : Int32 → ab_S → Prop) (x1 : Int32) (σ : ab_S) : Prop := ∀ v4 : Int32, v4 = (x1 + 1) → Bk v4 σ
def wX12_tree_l54_b (Q : Int32 → ab_S → Prop) (E : String → ab_S → Prop) (K148 : ab_S → Prop) (Bk : Int32 → ab_S → Prop) (x1 : Int32) (σ : ab_S) : Prop := (((σ.2.1 92 53) ≤ x1) → K148 σ) ∧ (¬ ((σ.2.1 92 53) ≤ x1) → vp_in x1 251 ∧ (vp_in x1 251 ∧ (∀ σ5 : ab_S, σ5 = ab_I σ 128 x1.toNatClampNeg (σ.2.1 133 x1.toNatClampNeg) → vp_in x1 251 ∧ (vp_in x1 251 ∧ (∀ σ6 : ab_S, σ6 = ab_I σ5 129 x1.toNatClampNeg (σ5.2.1 134 x1.toNatClampNeg) → vp_in x1 251 ∧ (vp_in x1 251 ∧ (∀ σ7 : ab_S, σ7 = ab_I σ6 130 x1.toNatClampNeg (σ6.2.1 135 x1.toNatClampNeg) → vp_in x1 251 ∧ (vp_in x1 251 ∧ (∀ σ8 : ab_S, σ8 = ab_I σ7 131 x1.toNatClampNeg (σ7.2.1 136 x1.toNatClampNeg) → vp_in x1 251 ∧ ((((σ8.2.1 129 x1.toNatClampNeg) < 0) → wX12_tree_j142 Q E K148 Bk x1 σ8) ∧ (¬ ((σ8.2.1 129 x1.toNatClampNeg) < 0) → vp_in x1 251 ∧ (vp_in x1 251 ∧ (vp_in ((((3 : Int32) * (σ8.2.1 129 x1.toNatClampNeg)) + (σ8.2.1 130 x1.toNatClampNeg)) - (1 : Int32)) 753 ∧ (∀ σ9 : ab_S, σ9 = ab_I σ8 132 ((((3 : Int32) * (σ8.2.1 129 x1.toNatClampNeg)) + (σ8.2.1 130 x1.toNatClampNeg)) - (1 : Int32)).toNatClampNeg x1 → wX12_tree_j142 Q E K148 Bk x1 σ9))))))))))))))
def wX12_tree_l54 (Q : Int32 → ab_S → Prop) (E : String → ab_S → Prop) (K148 : ab_S → Prop) : Nat → Int32 → ab_S → Prop
  | 0, _, _ => False
  | n + 1, x1, σ => wX12_tree_l54_b Q E K148 (wX12_tree_l54 Q E K148 n) x1 σ
def wX12_tree_j13 (Q : Int32 → ab_S → Prop) (E : String → ab_S → Prop) (y0 : Int32) (σ : ab_S) : Prop := wX12_refuse y0 (0 : Int32) (0 : Int32) (fun u11 σ10 => ((u11 = 0) → wX12_takeText (0 : Int32) (fun σ12 => wX12_readTree (fun σ13 => wX12_good (fun u15 σ14 => ((¬ u15 = 0) → (∀ σ16 : ab_S, σ16 = ab_I σ14 92 53 (σ14.2.1 92 59) → ∃ n, wX12_tree_l54 Q E (wX12_tree_j148 Q E) n (0 : Int32) σ16)) ∧ (¬ (¬ u15 = 0) → Q (σ14.2.1 92 44) σ14)) E σ13) E σ12) E σ10) ∧ (¬ (u11 = 0) → Q (0 : Int32) σ10)) E σ
def wX12_tree  (Q : Int32 → ab_S → Prop) (E : String → ab_S → Prop) (σ : ab_S) : Prop := ((¬ (σ.2.1 92 4) = 0) → wX12_tree_j13 Q E (0 : Int32) σ) ∧ (¬ (¬ (σ.2.1 92 4) = 0) → wX12_tree_j13 Q E (1 : Int32) σ)
set_option maxHeartbeats 4000000 in
set_option maxRecDepth 100000 in
theorem ceX12_tree {l : Launch} (hl : l.stackTraces = false) (B : Nat)   {Q : Int32 → ab_S → Prop} {E : String → ab_S → Prop} {σ : ab_S} (hW : Wire σ) (h : wX12_tree  Q E σ) : ab_Mt l yX12_tree mdX12_tree B 6 135 0 0 [.ref 92] σ (fun v σ' => Wire σ' ∧ ∃ r : Int32, v = some (.int r) ∧ Q r σ') (fun X σ' => Wire σ' ∧ E X σ') := by
  refine V_met hl ⟨rfl, rfl, by decide⟩ rfl dkX12_tree (Nat.le_of_ble_eq_true rfl) ?_
  show V l mdX12_tree B 6 135 0 0 (ab_End _ _) 0 [(0, .ref 92)] [] σ
  revert h hW
  revert σ
  have k_j148 : ∀   (σ : ab_S), Wire σ → wX12_tree_j148 Q E  σ → V l mdX12_tree B 6 135 0 0 (ab_End (fun v σ' => Wire σ' ∧ ∃ r : Int32, v = some (.int r) ∧ Q r σ') (fun X σ' => Wire σ' ∧ E X σ')) 148 [(0, .ref 92)] [] σ := by
    intro   σ hW h
    refine V_aload_n 90 0 rfl rfl rfl ?_
    refine V_iconst 91 (v := (1 : Int32)) rfl (by decide) ?_
    refine V_putI 92 52 rfl clX12 flX12_502 (by decide) (wsh hW rfl) rfl (fun _ _ => rfl) rfl rfl ?_
    refine V_nm (fun σ1 eσ1 => ?_)
    replace h := h σ1 eσ1
    have hW := wire_I eσ1 hW
    refine V_aload_n 93 0 rfl rfl rfl ?_
    refine V_iconst 94 (v := (0 : Int32)) rfl (by decide) ?_
    refine V_putI 95 83 rfl clX12 flX12_505 (by decide) (wsh hW rfl) rfl (fun _ _ => rfl) rfl rfl ?_
    refine V_nm (fun σ2 eσ2 => ?_)
    replace h := h σ2 eσ2
    have hW := wire_I eσ2 hW
    refine V_aload_n 96 0 rfl rfl rfl ?_
    refine V_callV 97 0 (as := []) (rest := []) rfl mlX12_524 yvX12_evaluate rfl rfl clX12 (wsh hW rfl) (by decide) (by decide) (Nat.le_of_ble_eq_true rfl) (by decide) (by decide) (fun B9 => ceX12_evaluate hl B9 hW h) (fun X9 τ9 h9 => VX_out rfl h9) ?_
    rintro v9 σ3 ⟨hW, rfl, h⟩
    refine V_iconst 98 (v := (-1 : Int32)) rfl (by decide) ?_
    exact V_iret 99 rfl rfl ⟨hW, _, rfl, h⟩
  have k_l54 : ∀ (n : Nat) (x1 : Int32)  (σ : ab_S), Wire σ → wX12_tree_l54 Q E (wX12_tree_j148 Q E) n x1 σ → V l mdX12_tree B 6 135 0 0 (ab_End (fun v σ' => Wire σ' ∧ ∃ r : Int32, v = some (.int r) ∧ Q r σ') (fun X σ' => Wire σ' ∧ E X σ')) 54 [(0, .ref 92), (1, .int x1)] [] σ := by
    have step : ∀ (K148 : ab_S → Prop) (k_K148 : ∀   (σ : ab_S), Wire σ → K148  σ → V l mdX12_tree B 6 135 0 0 (ab_End (fun v σ' => Wire σ' ∧ ∃ r : Int32, v = some (.int r) ∧ Q r σ') (fun X σ' => Wire σ' ∧ E X σ')) 148 [(0, .ref 92)] [] σ), ∀ (Bk : Int32 → ab_S → Prop) (k_Bk : ∀ (x1 : Int32)  (σ : ab_S), Wire σ → Bk x1 σ → V l mdX12_tree B 6 135 0 0 (ab_End (fun v σ' => Wire σ' ∧ ∃ r : Int32, v = some (.int r) ∧ Q r σ') (fun X σ' => Wire σ' ∧ E X σ')) 54 [(0, .ref 92), (1, .int x1)] [] σ), ∀ (x1 : Int32)  (σ : ab_S), Wire σ → wX12_tree_l54_b Q E K148 Bk x1 σ → V l mdX12_tree B 6 135 0 0 (ab_End (fun v σ' => Wire σ' ∧ ∃ r : Int32, v = some (.int r) ∧ Q r σ') (fun X σ' => Wire σ' ∧ E X σ')) 54 [(0, .ref 92), (1, .int x1)] [] σ := by
      intro K148 k_K148 Bk k_Bk
      have k_j142 : ∀ (x1 : Int32)  (σ : ab_S), Wire σ → wX12_tree_j142 Q E K148 Bk x1 σ → V l mdX12_tree B 6 135 0 0 (ab_End (fun v σ' => Wire σ' ∧ ∃ r : Int32, v = some (.int r) ∧ Q r σ') (fun X σ' => Wire σ' ∧ E X σ')) 142 [(0, .ref 92), (1, .int x1)] [] σ := by
        intro x1  σ hW h
        obtain ⟨v4, ev4⟩ : ∃ z : Int32, z = (x1 + 1) := ⟨_, rfl⟩
        replace h := h v4 ev4
        refine V_iinc 88 1 (v := v4) (lv' := [(1, .int v4), (0, .ref 92)]) rfl rfl ((in_1 _).trans ev4.symm) (by decide) rfl ?_
        refine V_goto 89 (tgt := 54) rfl (by decide) ?_
        refine V_sub [1, 0] (lv' := [(0, .ref 92), (1, .int v4)]) rfl ?_
        exact k_Bk v4  σ hW h
      intro x1  σ hW h
      refine V_iload_n 30 1 rfl rfl rfl ?_
      refine V_aload_n 31 0 rfl rfl rfl ?_
      refine V_get (v := .int (σ.2.1 92 53)) 32 53 rfl clX12 flX12_521 (by decide) (wsh hW rfl) (fun _ => rfl) ?_
      refine V_icmp_ge 33 (tgt := 148) rfl (by decide) (fun hc => ?_) (fun hc => ?_)
      · replace h := h.1 hc
        refine V_sub [0] (lv' := [(0, .ref 92)]) rfl ?_
        exact k_K148  σ hW h
      · replace h := h.2 hc
        refine V_pc 62 rfl ?_
        refine V_aload_n 34 0 rfl rfl rfl ?_
        refine V_getR 35 54 rfl clX12 flX12_117 (by decide) (wsh hW rfl) (fun _ => rfl) (wrf hW 129 rfl) ?_
        refine V_iload_n 36 1 rfl rfl rfl ?_
        refine V_aload_n 37 0 rfl rfl rfl ?_
        refine V_getR 38 60 rfl clX12 flX12_132 (by decide) (wsh hW rfl) (fun _ => rfl) (wrf hW 134 rfl) ?_
        refine V_iload_n 39 1 rfl rfl rfl ?_
        refine V_pc 72 rfl ?_
        obtain ⟨hin, h⟩ := h
        refine V_iald 40 rfl (wsh hW rfl) hin ?_
        obtain ⟨hin, h⟩ := h
        refine V_iast 41 rfl (wsh hW rfl) hin ?_
        refine V_nm (fun σ5 eσ5 => ?_)
        replace h := h σ5 eσ5
        have hW := wire_I eσ5 hW
        refine V_aload_n 42 0 rfl rfl rfl ?_
        refine V_getR 43 55 rfl clX12 flX12_120 (by decide) (wsh hW rfl) (fun _ => rfl) (wrf hW 130 rfl) ?_
        refine V_iload_n 44 1 rfl rfl rfl ?_
        refine V_aload_n 45 0 rfl rfl rfl ?_
        refine V_pc 80 rfl ?_
        refine V_getR 46 61 rfl clX12 flX12_135 (by decide) (wsh hW rfl) (fun _ => rfl) (wrf hW 135 rfl) ?_
        refine V_iload_n 47 1 rfl rfl rfl ?_
        obtain ⟨hin, h⟩ := h
        refine V_iald 48 rfl (wsh hW rfl) hin ?_
        obtain ⟨hin, h⟩ := h
        refine V_iast 49 rfl (wsh hW rfl) hin ?_
        refine V_nm (fun σ6 eσ6 => ?_)
        replace h := h σ6 eσ6
        have hW := wire_I eσ6 hW
        refine V_aload_n 50 0 rfl rfl rfl ?_
        refine V_getR 51 56 rfl clX12 flX12_123 (by decide) (wsh hW rfl) (fun _ => rfl) (wrf hW 131 rfl) ?_
        refine V_pc 90 rfl ?_
        refine V_iload_n 52 1 rfl rfl rfl ?_
        refine V_aload_n 53 0 rfl rfl rfl ?_
        refine V_getR 54 62 rfl clX12 flX12_138 (by decide) (wsh hW rfl) (fun _ => rfl) (wrf hW 136 rfl) ?_
        refine V_iload_n 55 1 rfl rfl rfl ?_
        obtain ⟨hin, h⟩ := h
        refine V_iald 56 rfl (wsh hW rfl) hin ?_
        obtain ⟨hin, h⟩ := h
        refine V_iast 57 rfl (wsh hW rfl) hin ?_
        refine V_nm (fun σ7 eσ7 => ?_)
        replace h := h σ7 eσ7
        have hW := wire_I eσ7 hW
        refine V_pc 98 rfl ?_
        refine V_aload_n 58 0 rfl rfl rfl ?_
        refine V_getR 59 57 rfl clX12 flX12_126 (by decide) (wsh hW rfl) (fun _ => rfl) (wrf hW 132 rfl) ?_
        refine V_iload_n 60 1 rfl rfl rfl ?_
        refine V_aload_n 61 0 rfl rfl rfl ?_
        refine V_getR 62 63 rfl clX12 flX12_141 (by decide) (wsh hW rfl) (fun _ => rfl) (wrf hW 137 rfl) ?_
        refine V_iload_n 63 1 rfl rfl rfl ?_
        refine V_pc 108 rfl ?_
        obtain ⟨hin, h⟩ := h
        refine V_iald 64 rfl (wsh hW rfl) hin ?_
        obtain ⟨hin, h⟩ := h
        refine V_iast 65 rfl (wsh hW rfl) hin ?_
        refine V_nm (fun σ8 eσ8 => ?_)
        replace h := h σ8 eσ8
        have hW := wire_I eσ8 hW
        refine V_aload_n 66 0 rfl rfl rfl ?_
        refine V_getR 67 55 rfl clX12 flX12_120 (by decide) (wsh hW rfl) (fun _ => rfl) (wrf hW 130 rfl) ?_
        refine V_iload_n 68 1 rfl rfl rfl ?_
        obtain ⟨hin, h⟩ := h
        refine V_iald 69 rfl (wsh hW rfl) hin ?_
        refine V_pc 116 rfl ?_
        refine V_if_lt 70 (tgt := 142) rfl (by decide) (fun hc => ?_) (fun hc => ?_)
        · replace h := h.1 hc
          exact k_j142 x1 σ8 hW h
        · replace h := h.2 hc
          refine V_pc 119 rfl ?_
          refine V_aload_n 71 0 rfl rfl rfl ?_
          refine V_getR 72 58 rfl clX12 flX12_129 (by decide) (wsh hW rfl) (fun _ => rfl) (wrf hW 133 rfl) ?_
          refine V_iconst 73 (v := (3 : Int32)) rfl (by decide) ?_
          refine V_aload_n 74 0 rfl rfl rfl ?_
          refine V_getR 75 55 rfl clX12 flX12_120 (by decide) (wsh hW rfl) (fun _ => rfl) (wrf hW 130 rfl) ?_
          refine V_iload_n 76 1 rfl rfl rfl ?_
          refine V_pc 129 rfl ?_
          obtain ⟨hin, h⟩ := h
          refine V_iald 77 rfl (wsh hW rfl) hin ?_
          refine V_imul 78 rfl ?_
          refine V_aload_n 79 0 rfl rfl rfl ?_
          refine V_getR 80 56 rfl clX12 flX12_123 (by decide) (wsh hW rfl) (fun _ => rfl) (wrf hW 131 rfl) ?_
          refine V_iload_n 81 1 rfl rfl rfl ?_
          obtain ⟨hin, h⟩ := h
          refine V_iald 82 rfl (wsh hW rfl) hin ?_
          refine V_pc 137 rfl ?_
          refine V_iadd 83 rfl ?_
          refine V_iconst 84 (v := (1 : Int32)) rfl (by decide) ?_
          refine V_isub 85 rfl ?_
          refine V_iload_n 86 1 rfl rfl rfl ?_
          obtain ⟨hin, h⟩ := h
          refine V_iast 87 rfl (wsh hW rfl) hin ?_
          refine V_nm (fun σ9 eσ9 => ?_)
          replace h := h σ9 eσ9
          have hW := wire_I eσ9 hW
          exact k_j142 x1 σ9 hW h
    intro n
    induction n with
    | zero => intro x1  σ hW h; exact absurd h id
    | succ n ih => exact step _ k_j148 _ ih
  have k_j13 : ∀ (y0 : Int32)  (σ : ab_S), Wire σ → wX12_tree_j13 Q E y0 σ → V l mdX12_tree B 6 135 0 0 (ab_End (fun v σ' => Wire σ' ∧ ∃ r : Int32, v = some (.int r) ∧ Q r σ') (fun X σ' => Wire σ' ∧ E X σ')) 13 [(0, .ref 92)] [.int y0, .ref 92] σ := by
    intro y0  σ hW h
    refine V_iconst 7 (v := (0 : Int32)) rfl (by decide) ?_
    refine V_iconst 8 (v := (0 : Int32)) rfl (by decide) ?_
    refine V_callV 9 3 (as := [.int y0, .int (0 : Int32), .int (0 : Int32)]) (rest := []) rfl mlX12_245 yvX12_refuse rfl rfl clX12 (wsh hW rfl) (by decide) (by decide) (Nat.le_of_ble_eq_true rfl) (by decide) (by decide) (fun B9 => ceX12_refuse hl B9 hW h) (fun X9 τ9 h9 => VX_out rfl h9) ?_
    rintro v9 σ10 ⟨hW, u11, rfl, h⟩
    refine V_if_eq 10 (tgt := 23) rfl (by decide) (fun hc => ?_) (fun hc => ?_)
    · replace h := h.1 hc
      refine V_aload_n 13 0 rfl rfl rfl ?_
      refine V_iconst 14 (v := (0 : Int32)) rfl (by decide) ?_
      refine V_callV 15 1 (as := [.int (0 : Int32)]) (rest := []) rfl mlX12_492 yvX12_takeText rfl rfl clX12 (wsh hW rfl) (by decide) (by decide) (Nat.le_of_ble_eq_true rfl) (by decide) (by decide) (fun B9 => ceX12_takeText hl B9 hW h) (fun X9 τ9 h9 => VX_out rfl h9) ?_
      rintro v9 σ12 ⟨hW, rfl, h⟩
      refine V_aload_n 16 0 rfl rfl rfl ?_
      refine V_callV 17 0 (as := []) (rest := []) rfl mlX12_518 yvX12_readTree rfl rfl clX12 (wsh hW rfl) (by decide) (by decide) (Nat.le_of_ble_eq_true rfl) (by decide) (by decide) (fun B9 => ceX12_readTree hl B9 hW h) (fun X9 τ9 h9 => VX_out rfl h9) ?_
      rintro v9 σ13 ⟨hW, rfl, h⟩
      refine V_aload_n 18 0 rfl rfl rfl ?_
      refine V_callV 19 0 (as := []) (rest := []) rfl mlX12_291 yvX12_good rfl rfl clX12 (wsh hW rfl) (by decide) (by decide) (Nat.le_of_ble_eq_true rfl) (by decide) (by decide) (fun B9 => ceX12_good hl B9 hW h) (fun X9 τ9 h9 => VX_out rfl h9) ?_
      rintro v9 σ14 ⟨hW, u15, rfl, h⟩
      refine V_if_ne 20 (tgt := 44) rfl (by decide) (fun hc => ?_) (fun hc => ?_)
      · replace h := h.1 hc
        refine V_aload_n 24 0 rfl rfl rfl ?_
        refine V_aload_n 25 0 rfl rfl rfl ?_
        refine V_get (v := .int (σ14.2.1 92 59)) 26 59 rfl clX12 flX12_508 (by decide) (wsh hW rfl) (fun _ => rfl) ?_
        refine V_putI 27 53 rfl clX12 flX12_521 (by decide) (wsh hW rfl) rfl (fun _ _ => rfl) rfl rfl ?_
        refine V_nm (fun σ16 eσ16 => ?_)
        replace h := h σ16 eσ16
        have hW := wire_I eσ16 hW
        refine V_iconst 28 (v := (0 : Int32)) rfl (by decide) ?_
        refine V_istore_n 29 (lv' := [(1, .int (0 : Int32)), (0, .ref 92)]) rfl rfl (by decide) rfl ?_
        refine V_sub [1, 0] (lv' := [(0, .ref 92), (1, .int (0 : Int32))]) rfl ?_
        obtain ⟨n, h⟩ := h
        exact k_l54 n (0 : Int32) σ16 hW h
      · replace h := h.2 hc
        refine V_pc 39 rfl ?_
        refine V_aload_n 21 0 rfl rfl rfl ?_
        refine V_get (v := .int (σ14.2.1 92 44)) 22 44 rfl clX12 flX12_284 (by decide) (wsh hW rfl) (fun _ => rfl) ?_
        exact V_iret 23 rfl rfl ⟨hW, _, rfl, h⟩
    · replace h := h.2 hc
      refine V_pc 21 rfl ?_
      refine V_iconst 11 (v := (0 : Int32)) rfl (by decide) ?_
      exact V_iret 12 rfl rfl ⟨hW, _, rfl, h⟩
  intro σ hW h
  refine V_aload_n 0 0 rfl rfl rfl ?_
  refine V_aload_n 1 0 rfl rfl rfl ?_
  refine V_get (v := .int (σ.2.1 92 4)) 2 4 rfl clX12 flX12_452 (by decide) (wsh hW rfl) (fun _ => rfl) ?_
  refine V_if_ne 3 (tgt := 12) rfl (by decide) (fun hc => ?_) (fun hc => ?_)
  · replace h := h.1 hc
    refine V_iconst 6 (v := (0 : Int32)) rfl (by decide) ?_
    exact k_j13 (0 : Int32) σ hW h
  · replace h := h.2 hc
    refine V_pc 8 rfl ?_
    refine V_iconst 4 (v := (1 : Int32)) rfl (by decide) ?_
    refine V_goto 5 (tgt := 13) rfl (by decide) ?_
    exact k_j13 (1 : Int32) σ hW h

def wX12_symbolOf (a0 : Int32) (Q : Int32 → ab_S → Prop) (E : String → ab_S → Prop) (σ : ab_S) : Prop := vp_in a0 251 ∧ (vp_in ((4 : Int32) * (σ.2.1 128 a0.toNatClampNeg)) 124 ∧ (Q (σ.2.1 104 ((4 : Int32) * (σ.2.1 128 a0.toNatClampNeg)).toNatClampNeg) σ))
set_option maxHeartbeats 4000000 in
set_option maxRecDepth 100000 in
theorem ceX12_symbolOf {l : Launch} (hl : l.stackTraces = false) (B : Nat) {a0 : Int32}  {Q : Int32 → ab_S → Prop} {E : String → ab_S → Prop} {σ : ab_S} (hW : Wire σ) (h : wX12_symbolOf a0 Q E σ) : ab_Mt l yX12_symbolOf mdX12_symbolOf B 0 0 0 0 [.ref 92, .int a0] σ (fun v σ' => Wire σ' ∧ ∃ r : Int32, v = some (.int r) ∧ Q r σ') (fun X σ' => Wire σ' ∧ E X σ') := by
  refine V_met hl ⟨rfl, rfl, by decide⟩ rfl dkX12_symbolOf (Nat.le_of_ble_eq_true rfl) ?_
  show V l mdX12_symbolOf B 0 0 0 0 (ab_End _ _) 0 [(0, .ref 92), (1, .int a0)] [] σ
  refine V_aload_n 0 0 rfl rfl rfl ?_
  refine V_getR 1 18 rfl clX12 flX12_45 (by decide) (wsh hW rfl) (fun _ => rfl) (wrf hW 105 rfl) ?_
  refine V_iconst 2 (v := (4 : Int32)) rfl (by decide) ?_
  refine V_aload_n 3 0 rfl rfl rfl ?_
  refine V_getR 4 54 rfl clX12 flX12_117 (by decide) (wsh hW rfl) (fun _ => rfl) (wrf hW 129 rfl) ?_
  refine V_iload_n 5 1 rfl rfl rfl ?_
  refine V_pc 10 rfl ?_
  obtain ⟨hin, h⟩ := h
  refine V_iald 6 rfl (wsh hW rfl) hin ?_
  refine V_imul 7 rfl ?_
  obtain ⟨hin, h⟩ := h
  refine V_iald 8 rfl (wsh hW rfl) hin ?_
  exact V_iret 9 rfl rfl ⟨hW, _, rfl, h⟩

def wX12_count_j303 (a0 : Int32) (Q : Int32 → ab_S → Prop) (E : String → ab_S → Prop) (Bk : Int32 → Int32 → ab_S → Prop) (x3 : Int32) (y0 : Int32) (σ : ab_S) : Prop := ∀ v1 : Int32, v1 = (x3 + 1) → Bk y0 v1 σ
def wX12_count_j289 (a0 : Int32) (Q : Int32 → ab_S → Prop) (E : String → ab_S → Prop) (Bk : Int32 → Int32 → ab_S → Prop) (x2 : Int32) (x3 : Int32) (y0 : Int32) (σ : ab_S) : Prop := ((y0 ≤ x2) → wX12_count_j303 a0 Q E Bk x3 x2 σ) ∧ (¬ (y0 ≤ x2) → wX12_count_j303 a0 Q E Bk x3 y0 σ)
def wX12_count_j275 (a0 : Int32) (Q : Int32 → ab_S → Prop) (E : String → ab_S → Prop) (Bk : Int32 → Int32 → ab_S → Prop) (x2 : Int32) (x3 : Int32) (σ : ab_S) : Prop := ((¬ a0 = (5 : Int32)) → wX12_count_j289 a0 Q E Bk x2 x3 (0 : Int32) σ) ∧ (¬ (¬ a0 = (5 : Int32)) → wX12_framesAbove x3 (fun u3 σ2 => wX12_count_j289 a0 Q E Bk x2 x3 u3 σ2) E σ)
def wX12_count_j268 (a0 : Int32) (Q : Int32 → ab_S → Prop) (E : String → ab_S → Prop) (K275 : Int32 → Int32 → ab_S → Prop) (Bk : Int32 → Int32 → Int32 → ab_S → Prop) (x3 : Int32) (x4 : Int32) (y0 : Int32) (σ : ab_S) : Prop := ∀ v4 : Int32, v4 = (x4 + 1) → Bk y0 x3 v4 σ
def wX12_count_l221_b (a0 : Int32) (Q : Int32 → ab_S → Prop) (E : String → ab_S → Prop) (K275 : Int32 → Int32 → ab_S → Prop) (Bk : Int32 → Int32 → Int32 → ab_S → Prop) (x2 : Int32) (x3 : Int32) (x4 : Int32) (σ : ab_S) : Prop := wX12_symbolOf x3 (fun u6 σ5 => vp_in u6 13 ∧ ((((σ5.2.1 99 u6.toNatClampNeg) ≤ x4) → K275 x2 x3 σ5) ∧ (¬ ((σ5.2.1 99 u6.toNatClampNeg) ≤ x4) → ((¬ a0 = (4 : Int32)) → K275 x2 x3 σ5) ∧ (¬ (¬ a0 = (4 : Int32)) → wX12_symbolOf x3 (fun u8 σ7 => vp_in (((8 : Int32) * u8) + x4) 104 ∧ (((¬ (σ7.2.1 123 (((8 : Int32) * u8) + x4).toNatClampNeg) = (2 : Int32)) → wX12_count_j268 a0 Q E K275 Bk x3 x4 x2 σ7) ∧ (¬ (¬ (σ7.2.1 123 (((8 : Int32) * u8) + x4).toNatClampNeg) = (2 : Int32)) → wX12_count_j268 a0 Q E K275 Bk x3 x4 (x2 + (1 : Int32)) σ7))) E σ5)))) E σ
def wX12_count_l221 (a0 : Int32) (Q : Int32 → ab_S → Prop) (E : String → ab_S → Prop) (K275 : Int32 → Int32 → ab_S → Prop) : Nat → Int32 → Int32 → Int32 → ab_S → Prop
  | 0, _, _, _, _ => False
  | n + 1, x2, x3, x4, σ => wX12_count_l221_b a0 Q E K275 (wX12_count_l221 a0 Q E K275 n) x2 x3 x4 σ
def wX12_count_j218 (a0 : Int32) (Q : Int32 → ab_S → Prop) (E : String → ab_S → Prop) (Bk : Int32 → Int32 → ab_S → Prop) (x2 : Int32) (x3 : Int32) (σ : ab_S) : Prop := ∃ n, wX12_count_l221 a0 Q E (wX12_count_j275 a0 Q E Bk) n x2 x3 (0 : Int32) σ
def wX12_count_j211 (a0 : Int32) (Q : Int32 → ab_S → Prop) (E : String → ab_S → Prop) (K218 : Int32 → Int32 → ab_S → Prop) (Bk : Int32 → Int32 → Int32 → ab_S → Prop) (x3 : Int32) (x4 : Int32) (y0 : Int32) (σ : ab_S) : Prop := ∀ v9 : Int32, v9 = (x4 + 1) → Bk y0 x3 v9 σ
def wX12_count_l169_b (a0 : Int32) (Q : Int32 → ab_S → Prop) (E : String → ab_S → Prop) (K218 : Int32 → Int32 → ab_S → Prop) (Bk : Int32 → Int32 → Int32 → ab_S → Prop) (x2 : Int32) (x3 : Int32) (x4 : Int32) (σ : ab_S) : Prop := wX12_symbolOf x3 (fun u11 σ10 => vp_in u11 13 ∧ ((((σ10.2.1 99 u11.toNatClampNeg) ≤ x4) → K218 x2 x3 σ10) ∧ (¬ ((σ10.2.1 99 u11.toNatClampNeg) ≤ x4) → ((¬ a0 = (3 : Int32)) → K218 x2 x3 σ10) ∧ (¬ (¬ a0 = (3 : Int32)) → vp_in (((8 : Int32) * x3) + x4) 2000 ∧ ((((σ10.2.1 141 (((8 : Int32) * x3) + x4).toNatClampNeg) = 0) → wX12_count_j211 a0 Q E K218 Bk x3 x4 x2 σ10) ∧ (¬ ((σ10.2.1 141 (((8 : Int32) * x3) + x4).toNatClampNeg) = 0) → wX12_count_j211 a0 Q E K218 Bk x3 x4 (x2 + (1 : Int32)) σ10)))))) E σ
def wX12_count_l169 (a0 : Int32) (Q : Int32 → ab_S → Prop) (E : String → ab_S → Prop) (K218 : Int32 → Int32 → ab_S → Prop) : Nat → Int32 → Int32 → Int32 → ab_S → Prop
  | 0, _, _, _, _ => False
  | n + 1, x2, x3, x4, σ => wX12_count_l169_b a0 Q E K218 (wX12_count_l169 a0 Q E K218 n) x2 x3 x4 σ
def wX12_count_j165 (a0 : Int32) (Q : Int32 → ab_S → Prop) (E : String → ab_S → Prop) (Bk : Int32 → Int32 → ab_S → Prop) (x3 : Int32) (y0 : Int32) (σ : ab_S) : Prop := ∃ n, wX12_count_l169 a0 Q E (wX12_count_j218 a0 Q E Bk) n y0 x3 (0 : Int32) σ
def wX12_count_l106_b (a0 : Int32) (Q : Int32 → ab_S → Prop) (E : String → ab_S → Prop) (Bk : Int32 → Int32 → ab_S → Prop) (x2 : Int32) (x3 : Int32) (σ : ab_S) : Prop := (((σ.2.1 92 53) ≤ x3) → Q x2 σ) ∧ (¬ ((σ.2.1 92 53) ≤ x3) → ((¬ a0 = 0) → ((¬ a0 = (1 : Int32)) → ((¬ a0 = (2 : Int32)) → wX12_count_j165 a0 Q E Bk x3 x2 σ) ∧ (¬ (¬ a0 = (2 : Int32)) → wX12_symbolOf x3 (fun u13 σ12 => vp_in u13 13 ∧ (wX12_count_j165 a0 Q E Bk x3 (x2 + (σ12.2.1 112 u13.toNatClampNeg)) σ12)) E σ)) ∧ (¬ (¬ a0 = (1 : Int32)) → wX12_symbolOf x3 (fun u15 σ14 => vp_in u15 13 ∧ (wX12_count_j165 a0 Q E Bk x3 (x2 + (σ14.2.1 99 u15.toNatClampNeg)) σ14)) E σ)) ∧ (¬ (¬ a0 = 0) → wX12_count_j165 a0 Q E Bk x3 (x2 + (1 : Int32)) σ))
def wX12_count_l106 (a0 : Int32) (Q : Int32 → ab_S → Prop) (E : String → ab_S → Prop) : Nat → Int32 → Int32 → ab_S → Prop
  | 0, _, _, _ => False
  | n + 1, x2, x3, σ => wX12_count_l106_b a0 Q E (wX12_count_l106 a0 Q E n) x2 x3 σ
def wX12_count_j104 (a0 : Int32) (Q : Int32 → ab_S → Prop) (E : String → ab_S → Prop) (x2 : Int32) (σ : ab_S) : Prop := ∃ n, wX12_count_l106 a0 Q E n x2 (0 : Int32) σ
def wX12_count_j97 (a0 : Int32) (Q : Int32 → ab_S → Prop) (E : String → ab_S → Prop) (K104 : Int32 → ab_S → Prop) (Bk : Int32 → Int32 → ab_S → Prop) (x3 : Int32) (y0 : Int32) (σ : ab_S) : Prop := ∀ v16 : Int32, v16 = (x3 + 1) → Bk y0 v16 σ
def wX12_count_j96 (a0 : Int32) (Q : Int32 → ab_S → Prop) (E : String → ab_S → Prop) (K104 : Int32 → ab_S → Prop) (Bk : Int32 → Int32 → ab_S → Prop) (x2 : Int32) (x3 : Int32) (σ : ab_S) : Prop := wX12_count_j97 a0 Q E K104 Bk x3 x2 σ
def wX12_count_l48_b (a0 : Int32) (Q : Int32 → ab_S → Prop) (E : String → ab_S → Prop) (K104 : Int32 → ab_S → Prop) (Bk : Int32 → Int32 → ab_S → Prop) (x2 : Int32) (x3 : Int32) (σ : ab_S) : Prop := ((((8 : Int32) * (σ.2.1 92 9)) ≤ x3) → K104 x2 σ) ∧ (¬ (((8 : Int32) * (σ.2.1 92 9)) ≤ x3) → ((¬ a0 = (6 : Int32)) → K104 x2 σ) ∧ (¬ (¬ a0 = (6 : Int32)) → vp_in (x3 / (8 : Int32)) 13 ∧ ((((σ.2.1 99 (x3 / (8 : Int32)).toNatClampNeg) ≤ (x3 - x3 / (8 : Int32) * (8 : Int32))) → wX12_count_j96 a0 Q E K104 Bk x2 x3 σ) ∧ (¬ ((σ.2.1 99 (x3 / (8 : Int32)).toNatClampNeg) ≤ (x3 - x3 / (8 : Int32) * (8 : Int32))) → vp_in x3 104 ∧ (((¬ (σ.2.1 123 x3.toNatClampNeg) = 0) → wX12_count_j96 a0 Q E K104 Bk x2 x3 σ) ∧ (¬ (¬ (σ.2.1 123 x3.toNatClampNeg) = 0) → wX12_count_j97 a0 Q E K104 Bk x3 (x2 + (1 : Int32)) σ))))))
def wX12_count_l48 (a0 : Int32) (Q : Int32 → ab_S → Prop) (E : String → ab_S → Prop) (K104 : Int32 → ab_S → Prop) : Nat → Int32 → Int32 → ab_S → Prop
  | 0, _, _, _ => False
  | n + 1, x2, x3, σ => wX12_count_l48_b a0 Q E K104 (wX12_count_l48 a0 Q E K104 n) x2 x3 σ
def wX12_count_j35 (a0 : Int32) (Q : Int32 → ab_S → Prop) (E : String → ab_S → Prop) (y0 : Int32) (y1 : Int32) (σ : ab_S) : Prop := wX12_refuse y1 y0 (0 : Int32) (fun u18 σ17 => ((u18 = 0) → ∃ n, wX12_count_l48 a0 Q E (wX12_count_j104 a0 Q E) n (0 : Int32) (0 : Int32) σ17) ∧ (¬ (u18 = 0) → Q (0 : Int32) σ17)) E σ
def wX12_count_j34 (a0 : Int32) (Q : Int32 → ab_S → Prop) (E : String → ab_S → Prop) (y0 : Int32) (σ : ab_S) : Prop := wX12_count_j35 a0 Q E (0 : Int32) y0 σ
def wX12_count_j13 (a0 : Int32) (Q : Int32 → ab_S → Prop) (E : String → ab_S → Prop) (y0 : Int32) (σ : ab_S) : Prop := (((σ.2.1 92 52) = 0) → wX12_count_j34 a0 Q E y0 σ) ∧ (¬ ((σ.2.1 92 52) = 0) → wX12_in a0 (0 : Int32) (6 : Int32) (fun u20 σ19 => ((¬ u20 = 0) → wX12_count_j34 a0 Q E y0 σ19) ∧ (¬ (¬ u20 = 0) → wX12_count_j35 a0 Q E (1 : Int32) y0 σ19)) E σ)
def wX12_count (a0 : Int32) (Q : Int32 → ab_S → Prop) (E : String → ab_S → Prop) (σ : ab_S) : Prop := ((¬ (σ.2.1 92 52) = 0) → wX12_count_j13 a0 Q E (0 : Int32) σ) ∧ (¬ (¬ (σ.2.1 92 52) = 0) → wX12_count_j13 a0 Q E (1 : Int32) σ)
set_option maxHeartbeats 4000000 in
set_option maxRecDepth 100000 in
theorem ceX12_count {l : Launch} (hl : l.stackTraces = false) (B : Nat) {a0 : Int32}  {Q : Int32 → ab_S → Prop} {E : String → ab_S → Prop} {σ : ab_S} (hW : Wire σ) (h : wX12_count a0 Q E σ) : ab_Mt l yX12_count mdX12_count B 2 48 0 0 [.ref 92, .int a0] σ (fun v σ' => Wire σ' ∧ ∃ r : Int32, v = some (.int r) ∧ Q r σ') (fun X σ' => Wire σ' ∧ E X σ') := by
  refine V_met hl ⟨rfl, rfl, by decide⟩ rfl dkX12_count (Nat.le_of_ble_eq_true rfl) ?_
  show V l mdX12_count B 2 48 0 0 (ab_End _ _) 0 [(0, .ref 92), (1, .int a0)] [] σ
  revert h hW
  revert σ
  have k_l106 : ∀ (n : Nat) (x2 : Int32) (x3 : Int32)  (σ : ab_S), Wire σ → wX12_count_l106 a0 Q E n x2 x3 σ → V l mdX12_count B 2 48 0 0 (ab_End (fun v σ' => Wire σ' ∧ ∃ r : Int32, v = some (.int r) ∧ Q r σ') (fun X σ' => Wire σ' ∧ E X σ')) 106 [(0, .ref 92), (1, .int a0), (2, .int x2), (3, .int x3)] [] σ := by
    have step : ∀ (Bk : Int32 → Int32 → ab_S → Prop) (k_Bk : ∀ (x2 : Int32) (x3 : Int32)  (σ : ab_S), Wire σ → Bk x2 x3 σ → V l mdX12_count B 2 48 0 0 (ab_End (fun v σ' => Wire σ' ∧ ∃ r : Int32, v = some (.int r) ∧ Q r σ') (fun X σ' => Wire σ' ∧ E X σ')) 106 [(0, .ref 92), (1, .int a0), (2, .int x2), (3, .int x3)] [] σ), ∀ (x2 : Int32) (x3 : Int32)  (σ : ab_S), Wire σ → wX12_count_l106_b a0 Q E Bk x2 x3 σ → V l mdX12_count B 2 48 0 0 (ab_End (fun v σ' => Wire σ' ∧ ∃ r : Int32, v = some (.int r) ∧ Q r σ') (fun X σ' => Wire σ' ∧ E X σ')) 106 [(0, .ref 92), (1, .int a0), (2, .int x2), (3, .int x3)] [] σ := by
      intro Bk k_Bk
      have k_j303 : ∀ (x3 : Int32) (y0 : Int32)  (σ : ab_S), Wire σ → wX12_count_j303 a0 Q E Bk x3 y0 σ → V l mdX12_count B 2 48 0 0 (ab_End (fun v σ' => Wire σ' ∧ ∃ r : Int32, v = some (.int r) ∧ Q r σ') (fun X σ' => Wire σ' ∧ E X σ')) 303 [(0, .ref 92), (1, .int a0), (3, .int x3)] [.int y0] σ := by
        intro x3 y0  σ hW h
        refine V_istore_n 175 (lv' := [(2, .int y0), (0, .ref 92), (1, .int a0), (3, .int x3)]) rfl rfl (by decide) rfl ?_
        obtain ⟨v1, ev1⟩ : ∃ z : Int32, z = (x3 + 1) := ⟨_, rfl⟩
        replace h := h v1 ev1
        refine V_iinc 176 3 (v := v1) (lv' := [(3, .int v1), (2, .int y0), (0, .ref 92), (1, .int a0)]) rfl rfl ((in_1 _).trans ev1.symm) (by decide) rfl ?_
        refine V_goto 177 (tgt := 106) rfl (by decide) ?_
        refine V_sub [2, 3, 1, 0] (lv' := [(0, .ref 92), (1, .int a0), (2, .int y0), (3, .int v1)]) rfl ?_
        exact k_Bk y0 v1  σ hW h
      have k_j289 : ∀ (x2 : Int32) (x3 : Int32) (y0 : Int32)  (σ : ab_S), Wire σ → wX12_count_j289 a0 Q E Bk x2 x3 y0 σ → V l mdX12_count B 2 48 0 0 (ab_End (fun v σ' => Wire σ' ∧ ∃ r : Int32, v = some (.int r) ∧ Q r σ') (fun X σ' => Wire σ' ∧ E X σ')) 289 [(0, .ref 92), (1, .int a0), (2, .int x2), (3, .int x3)] [.int y0] σ := by
        intro x2 x3 y0  σ hW h
        refine V_istore 168 (lv' := [(4, .int y0), (0, .ref 92), (1, .int a0), (2, .int x2), (3, .int x3)]) rfl (by decide) rfl ?_
        refine V_iload 169 0 rfl rfl ?_
        refine V_iload_n 170 3 rfl rfl rfl ?_
        refine V_icmp_le 171 (tgt := 302) rfl (by decide) (fun hc => ?_) (fun hc => ?_)
        · replace h := h.1 hc
          refine V_iload_n 174 3 rfl rfl rfl ?_
          refine V_sub [1, 2, 4] (lv' := [(0, .ref 92), (1, .int a0), (3, .int x3)]) rfl ?_
          exact k_j303 x3 x2 σ hW h
        · replace h := h.2 hc
          refine V_pc 297 rfl ?_
          refine V_iload 172 0 rfl rfl ?_
          refine V_goto 173 (tgt := 303) rfl (by decide) ?_
          refine V_sub [1, 2, 4] (lv' := [(0, .ref 92), (1, .int a0), (3, .int x3)]) rfl ?_
          exact k_j303 x3 y0 σ hW h
      have k_j275 : ∀ (x2 : Int32) (x3 : Int32)  (σ : ab_S), Wire σ → wX12_count_j275 a0 Q E Bk x2 x3 σ → V l mdX12_count B 2 48 0 0 (ab_End (fun v σ' => Wire σ' ∧ ∃ r : Int32, v = some (.int r) ∧ Q r σ') (fun X σ' => Wire σ' ∧ E X σ')) 275 [(0, .ref 92), (1, .int a0), (2, .int x2), (3, .int x3)] [] σ := by
        intro x2 x3  σ hW h
        refine V_iload_n 160 1 rfl rfl rfl ?_
        refine V_iconst 161 (v := (5 : Int32)) rfl (by decide) ?_
        refine V_icmp_ne 162 (tgt := 288) rfl (by decide) (fun hc => ?_) (fun hc => ?_)
        · replace h := h.1 hc
          refine V_iconst 167 (v := (0 : Int32)) rfl (by decide) ?_
          exact k_j289 x2 x3 (0 : Int32) σ hW h
        · replace h := h.2 hc
          refine V_pc 280 rfl ?_
          refine V_aload_n 163 0 rfl rfl rfl ?_
          refine V_iload_n 164 3 rfl rfl rfl ?_
          refine V_callV 165 1 (as := [.int x3]) (rest := []) rfl mlX12_545 yvX12_framesAbove rfl rfl clX12 (wsh hW rfl) (by decide) (by decide) (Nat.le_of_ble_eq_true rfl) (by decide) (by decide) (fun B9 => ceX12_framesAbove hl B9 hW h) (fun X9 τ9 h9 => VX_out rfl h9) ?_
          rintro v9 σ2 ⟨hW, u3, rfl, h⟩
          refine V_goto 166 (tgt := 289) rfl (by decide) ?_
          exact k_j289 x2 x3 u3 σ2 hW h
      have k_l221 : ∀ (n : Nat) (x2 : Int32) (x3 : Int32) (x4 : Int32)  (σ : ab_S), Wire σ → wX12_count_l221 a0 Q E (wX12_count_j275 a0 Q E Bk) n x2 x3 x4 σ → V l mdX12_count B 2 48 0 0 (ab_End (fun v σ' => Wire σ' ∧ ∃ r : Int32, v = some (.int r) ∧ Q r σ') (fun X σ' => Wire σ' ∧ E X σ')) 221 [(0, .ref 92), (1, .int a0), (2, .int x2), (3, .int x3), (4, .int x4)] [] σ := by
        have step : ∀ (K275 : Int32 → Int32 → ab_S → Prop) (k_K275 : ∀ (x2 : Int32) (x3 : Int32)  (σ : ab_S), Wire σ → K275 x2 x3 σ → V l mdX12_count B 2 48 0 0 (ab_End (fun v σ' => Wire σ' ∧ ∃ r : Int32, v = some (.int r) ∧ Q r σ') (fun X σ' => Wire σ' ∧ E X σ')) 275 [(0, .ref 92), (1, .int a0), (2, .int x2), (3, .int x3)] [] σ), ∀ (Bk : Int32 → Int32 → Int32 → ab_S → Prop) (k_Bk : ∀ (x2 : Int32) (x3 : Int32) (x4 : Int32)  (σ : ab_S), Wire σ → Bk x2 x3 x4 σ → V l mdX12_count B 2 48 0 0 (ab_End (fun v σ' => Wire σ' ∧ ∃ r : Int32, v = some (.int r) ∧ Q r σ') (fun X σ' => Wire σ' ∧ E X σ')) 221 [(0, .ref 92), (1, .int a0), (2, .int x2), (3, .int x3), (4, .int x4)] [] σ), ∀ (x2 : Int32) (x3 : Int32) (x4 : Int32)  (σ : ab_S), Wire σ → wX12_count_l221_b a0 Q E K275 Bk x2 x3 x4 σ → V l mdX12_count B 2 48 0 0 (ab_End (fun v σ' => Wire σ' ∧ ∃ r : Int32, v = some (.int r) ∧ Q r σ') (fun X σ' => Wire σ' ∧ E X σ')) 221 [(0, .ref 92), (1, .int a0), (2, .int x2), (3, .int x3), (4, .int x4)] [] σ := by
          intro K275 k_K275 Bk k_Bk
          have k_j268 : ∀ (x3 : Int32) (x4 : Int32) (y0 : Int32)  (σ : ab_S), Wire σ → wX12_count_j268 a0 Q E K275 Bk x3 x4 y0 σ → V l mdX12_count B 2 48 0 0 (ab_End (fun v σ' => Wire σ' ∧ ∃ r : Int32, v = some (.int r) ∧ Q r σ') (fun X σ' => Wire σ' ∧ E X σ')) 268 [(0, .ref 92), (1, .int a0), (3, .int x3), (4, .int x4)] [.int y0] σ := by
            intro x3 x4 y0  σ hW h
            refine V_istore_n 157 (lv' := [(2, .int y0), (0, .ref 92), (1, .int a0), (3, .int x3), (4, .int x4)]) rfl rfl (by decide) rfl ?_
            obtain ⟨v4, ev4⟩ : ∃ z : Int32, z = (x4 + 1) := ⟨_, rfl⟩
            replace h := h v4 ev4
            refine V_iinc 158 4 (v := v4) (lv' := [(4, .int v4), (2, .int y0), (0, .ref 92), (1, .int a0), (3, .int x3)]) rfl rfl ((in_1 _).trans ev4.symm) (by decide) rfl ?_
            refine V_goto 159 (tgt := 221) rfl (by decide) ?_
            refine V_sub [2, 3, 1, 4, 0] (lv' := [(0, .ref 92), (1, .int a0), (2, .int y0), (3, .int x3), (4, .int v4)]) rfl ?_
            exact k_Bk y0 x3 v4  σ hW h
          intro x2 x3 x4  σ hW h
          refine V_iload 129 4 rfl rfl ?_
          refine V_aload_n 130 0 rfl rfl rfl ?_
          refine V_getR 131 12 rfl clX12 flX12_29 (by decide) (wsh hW rfl) (fun _ => rfl) (wrf hW 100 rfl) ?_
          refine V_aload_n 132 0 rfl rfl rfl ?_
          refine V_iload_n 133 3 rfl rfl rfl ?_
          refine V_callV 134 1 (as := [.int x3]) (rest := [.ref 99, .int x4]) rfl mlX12_542 yvX12_symbolOf rfl rfl clX12 (wsh hW rfl) (by decide) (by decide) (Nat.le_of_ble_eq_true rfl) (by decide) (by decide) (fun B9 => ceX12_symbolOf hl B9 hW h) (fun X9 τ9 h9 => VX_out rfl h9) ?_
          rintro v9 σ5 ⟨hW, u6, rfl, h⟩
          obtain ⟨hin, h⟩ := h
          refine V_iald 135 rfl (wsh hW rfl) hin ?_
          refine V_icmp_ge 136 (tgt := 275) rfl (by decide) (fun hc => ?_) (fun hc => ?_)
          · replace h := h.1 hc
            refine V_sub [0, 1, 2, 3] (lv' := [(0, .ref 92), (1, .int a0), (2, .int x2), (3, .int x3)]) rfl ?_
            exact k_K275 x2 x3  σ5 hW h
          · replace h := h.2 hc
            refine V_pc 236 rfl ?_
            refine V_iload_n 137 1 rfl rfl rfl ?_
            refine V_iconst 138 (v := (4 : Int32)) rfl (by decide) ?_
            refine V_icmp_ne 139 (tgt := 275) rfl (by decide) (fun hc => ?_) (fun hc => ?_)
            · replace h := h.1 hc
              refine V_sub [0, 1, 2, 3] (lv' := [(0, .ref 92), (1, .int a0), (2, .int x2), (3, .int x3)]) rfl ?_
              exact k_K275 x2 x3  σ5 hW h
            · replace h := h.2 hc
              refine V_pc 241 rfl ?_
              refine V_aload_n 140 0 rfl rfl rfl ?_
              refine V_getR 141 39 rfl clX12 flX12_102 (by decide) (wsh hW rfl) (fun _ => rfl) (wrf hW 124 rfl) ?_
              refine V_bipush 142 (v := (8 : Int32)) rfl (by decide) ?_
              refine V_aload_n 143 0 rfl rfl rfl ?_
              refine V_iload_n 144 3 rfl rfl rfl ?_
              refine V_callV 145 1 (as := [.int x3]) (rest := [.int (8 : Int32), .ref 123]) rfl mlX12_542 yvX12_symbolOf rfl rfl clX12 (wsh hW rfl) (by decide) (by decide) (Nat.le_of_ble_eq_true rfl) (by decide) (by decide) (fun B9 => ceX12_symbolOf hl B9 hW h) (fun X9 τ9 h9 => VX_out rfl h9) ?_
              rintro v9 σ7 ⟨hW, u8, rfl, h⟩
              refine V_imul 146 rfl ?_
              refine V_iload 147 4 rfl rfl ?_
              refine V_iadd 148 rfl ?_
              obtain ⟨hin, h⟩ := h
              refine V_iald 149 rfl (wsh hW rfl) hin ?_
              refine V_iconst 150 (v := (2 : Int32)) rfl (by decide) ?_
              refine V_pc 258 rfl ?_
              refine V_icmp_ne 151 (tgt := 267) rfl (by decide) (fun hc => ?_) (fun hc => ?_)
              · replace h := h.1 hc
                refine V_iload_n 156 2 rfl rfl rfl ?_
                refine V_sub [0, 1, 3, 4] (lv' := [(0, .ref 92), (1, .int a0), (3, .int x3), (4, .int x4)]) rfl ?_
                exact k_j268 x3 x4 x2 σ7 hW h
              · replace h := h.2 hc
                refine V_pc 261 rfl ?_
                refine V_iload_n 152 2 rfl rfl rfl ?_
                refine V_iconst 153 (v := (1 : Int32)) rfl (by decide) ?_
                refine V_iadd 154 rfl ?_
                refine V_goto 155 (tgt := 268) rfl (by decide) ?_
                refine V_sub [0, 1, 3, 4] (lv' := [(0, .ref 92), (1, .int a0), (3, .int x3), (4, .int x4)]) rfl ?_
                exact k_j268 x3 x4 (x2 + (1 : Int32)) σ7 hW h
        intro n
        induction n with
        | zero => intro x2 x3 x4  σ hW h; exact absurd h id
        | succ n ih => exact step _ k_j275 _ ih
      have k_j218 : ∀ (x2 : Int32) (x3 : Int32)  (σ : ab_S), Wire σ → wX12_count_j218 a0 Q E Bk x2 x3 σ → V l mdX12_count B 2 48 0 0 (ab_End (fun v σ' => Wire σ' ∧ ∃ r : Int32, v = some (.int r) ∧ Q r σ') (fun X σ' => Wire σ' ∧ E X σ')) 218 [(0, .ref 92), (1, .int a0), (2, .int x2), (3, .int x3)] [] σ := by
        intro x2 x3  σ hW h
        refine V_iconst 127 (v := (0 : Int32)) rfl (by decide) ?_
        refine V_istore 128 (lv' := [(4, .int (0 : Int32)), (0, .ref 92), (1, .int a0), (2, .int x2), (3, .int x3)]) rfl (by decide) rfl ?_
        refine V_sub [1, 2, 3, 4, 0] (lv' := [(0, .ref 92), (1, .int a0), (2, .int x2), (3, .int x3), (4, .int (0 : Int32))]) rfl ?_
        obtain ⟨n, h⟩ := h
        exact k_l221 n x2 x3 (0 : Int32) σ hW h
      have k_l169 : ∀ (n : Nat) (x2 : Int32) (x3 : Int32) (x4 : Int32)  (σ : ab_S), Wire σ → wX12_count_l169 a0 Q E (wX12_count_j218 a0 Q E Bk) n x2 x3 x4 σ → V l mdX12_count B 2 48 0 0 (ab_End (fun v σ' => Wire σ' ∧ ∃ r : Int32, v = some (.int r) ∧ Q r σ') (fun X σ' => Wire σ' ∧ E X σ')) 169 [(0, .ref 92), (1, .int a0), (2, .int x2), (3, .int x3), (4, .int x4)] [] σ := by
        have step : ∀ (K218 : Int32 → Int32 → ab_S → Prop) (k_K218 : ∀ (x2 : Int32) (x3 : Int32)  (σ : ab_S), Wire σ → K218 x2 x3 σ → V l mdX12_count B 2 48 0 0 (ab_End (fun v σ' => Wire σ' ∧ ∃ r : Int32, v = some (.int r) ∧ Q r σ') (fun X σ' => Wire σ' ∧ E X σ')) 218 [(0, .ref 92), (1, .int a0), (2, .int x2), (3, .int x3)] [] σ), ∀ (Bk : Int32 → Int32 → Int32 → ab_S → Prop) (k_Bk : ∀ (x2 : Int32) (x3 : Int32) (x4 : Int32)  (σ : ab_S), Wire σ → Bk x2 x3 x4 σ → V l mdX12_count B 2 48 0 0 (ab_End (fun v σ' => Wire σ' ∧ ∃ r : Int32, v = some (.int r) ∧ Q r σ') (fun X σ' => Wire σ' ∧ E X σ')) 169 [(0, .ref 92), (1, .int a0), (2, .int x2), (3, .int x3), (4, .int x4)] [] σ), ∀ (x2 : Int32) (x3 : Int32) (x4 : Int32)  (σ : ab_S), Wire σ → wX12_count_l169_b a0 Q E K218 Bk x2 x3 x4 σ → V l mdX12_count B 2 48 0 0 (ab_End (fun v σ' => Wire σ' ∧ ∃ r : Int32, v = some (.int r) ∧ Q r σ') (fun X σ' => Wire σ' ∧ E X σ')) 169 [(0, .ref 92), (1, .int a0), (2, .int x2), (3, .int x3), (4, .int x4)] [] σ := by
          intro K218 k_K218 Bk k_Bk
          have k_j211 : ∀ (x3 : Int32) (x4 : Int32) (y0 : Int32)  (σ : ab_S), Wire σ → wX12_count_j211 a0 Q E K218 Bk x3 x4 y0 σ → V l mdX12_count B 2 48 0 0 (ab_End (fun v σ' => Wire σ' ∧ ∃ r : Int32, v = some (.int r) ∧ Q r σ') (fun X σ' => Wire σ' ∧ E X σ')) 211 [(0, .ref 92), (1, .int a0), (3, .int x3), (4, .int x4)] [.int y0] σ := by
            intro x3 x4 y0  σ hW h
            refine V_istore_n 124 (lv' := [(2, .int y0), (0, .ref 92), (1, .int a0), (3, .int x3), (4, .int x4)]) rfl rfl (by decide) rfl ?_
            obtain ⟨v9, ev9⟩ : ∃ z : Int32, z = (x4 + 1) := ⟨_, rfl⟩
            replace h := h v9 ev9
            refine V_iinc 125 4 (v := v9) (lv' := [(4, .int v9), (2, .int y0), (0, .ref 92), (1, .int a0), (3, .int x3)]) rfl rfl ((in_1 _).trans ev9.symm) (by decide) rfl ?_
            refine V_goto 126 (tgt := 169) rfl (by decide) ?_
            refine V_sub [2, 3, 1, 4, 0] (lv' := [(0, .ref 92), (1, .int a0), (2, .int y0), (3, .int x3), (4, .int v9)]) rfl ?_
            exact k_Bk y0 x3 v9  σ hW h
          intro x2 x3 x4  σ hW h
          refine V_iload 99 4 rfl rfl ?_
          refine V_aload_n 100 0 rfl rfl rfl ?_
          refine V_getR 101 12 rfl clX12 flX12_29 (by decide) (wsh hW rfl) (fun _ => rfl) (wrf hW 100 rfl) ?_
          refine V_aload_n 102 0 rfl rfl rfl ?_
          refine V_iload_n 103 3 rfl rfl rfl ?_
          refine V_callV 104 1 (as := [.int x3]) (rest := [.ref 99, .int x4]) rfl mlX12_542 yvX12_symbolOf rfl rfl clX12 (wsh hW rfl) (by decide) (by decide) (Nat.le_of_ble_eq_true rfl) (by decide) (by decide) (fun B9 => ceX12_symbolOf hl B9 hW h) (fun X9 τ9 h9 => VX_out rfl h9) ?_
          rintro v9 σ10 ⟨hW, u11, rfl, h⟩
          obtain ⟨hin, h⟩ := h
          refine V_iald 105 rfl (wsh hW rfl) hin ?_
          refine V_icmp_ge 106 (tgt := 218) rfl (by decide) (fun hc => ?_) (fun hc => ?_)
          · replace h := h.1 hc
            refine V_sub [0, 1, 2, 3] (lv' := [(0, .ref 92), (1, .int a0), (2, .int x2), (3, .int x3)]) rfl ?_
            exact k_K218 x2 x3  σ10 hW h
          · replace h := h.2 hc
            refine V_pc 184 rfl ?_
            refine V_iload_n 107 1 rfl rfl rfl ?_
            refine V_iconst 108 (v := (3 : Int32)) rfl (by decide) ?_
            refine V_icmp_ne 109 (tgt := 218) rfl (by decide) (fun hc => ?_) (fun hc => ?_)
            · replace h := h.1 hc
              refine V_sub [0, 1, 2, 3] (lv' := [(0, .ref 92), (1, .int a0), (2, .int x2), (3, .int x3)]) rfl ?_
              exact k_K218 x2 x3  σ10 hW h
            · replace h := h.2 hc
              refine V_pc 189 rfl ?_
              refine V_aload_n 110 0 rfl rfl rfl ?_
              refine V_getR 111 69 rfl clX12 flX12_156 (by decide) (wsh hW rfl) (fun _ => rfl) (wrf hW 142 rfl) ?_
              refine V_bipush 112 (v := (8 : Int32)) rfl (by decide) ?_
              refine V_iload_n 113 3 rfl rfl rfl ?_
              refine V_imul 114 rfl ?_
              refine V_iload 115 4 rfl rfl ?_
              refine V_pc 199 rfl ?_
              refine V_iadd 116 rfl ?_
              obtain ⟨hin, h⟩ := h
              refine V_zald 117 rfl (wsh hW rfl) hin ?_
              refine V_if_eq 118 (tgt := 210) rfl (by decide) (fun hc => ?_) (fun hc => ?_)
              · replace h := h.1 hc
                refine V_iload_n 123 2 rfl rfl rfl ?_
                refine V_sub [0, 1, 3, 4] (lv' := [(0, .ref 92), (1, .int a0), (3, .int x3), (4, .int x4)]) rfl ?_
                exact k_j211 x3 x4 x2 σ10 hW h
              · replace h := h.2 hc
                refine V_pc 204 rfl ?_
                refine V_iload_n 119 2 rfl rfl rfl ?_
                refine V_iconst 120 (v := (1 : Int32)) rfl (by decide) ?_
                refine V_iadd 121 rfl ?_
                refine V_goto 122 (tgt := 211) rfl (by decide) ?_
                refine V_sub [0, 1, 3, 4] (lv' := [(0, .ref 92), (1, .int a0), (3, .int x3), (4, .int x4)]) rfl ?_
                exact k_j211 x3 x4 (x2 + (1 : Int32)) σ10 hW h
        intro n
        induction n with
        | zero => intro x2 x3 x4  σ hW h; exact absurd h id
        | succ n ih => exact step _ k_j218 _ ih
      have k_j165 : ∀ (x3 : Int32) (y0 : Int32)  (σ : ab_S), Wire σ → wX12_count_j165 a0 Q E Bk x3 y0 σ → V l mdX12_count B 2 48 0 0 (ab_End (fun v σ' => Wire σ' ∧ ∃ r : Int32, v = some (.int r) ∧ Q r σ') (fun X σ' => Wire σ' ∧ E X σ')) 165 [(0, .ref 92), (1, .int a0), (3, .int x3)] [.int y0] σ := by
        intro x3 y0  σ hW h
        refine V_istore_n 96 (lv' := [(2, .int y0), (0, .ref 92), (1, .int a0), (3, .int x3)]) rfl rfl (by decide) rfl ?_
        refine V_iconst 97 (v := (0 : Int32)) rfl (by decide) ?_
        refine V_istore 98 (lv' := [(4, .int (0 : Int32)), (2, .int y0), (0, .ref 92), (1, .int a0), (3, .int x3)]) rfl (by decide) rfl ?_
        refine V_sub [2, 3, 1, 4, 0] (lv' := [(0, .ref 92), (1, .int a0), (2, .int y0), (3, .int x3), (4, .int (0 : Int32))]) rfl ?_
        obtain ⟨n, h⟩ := h
        exact k_l169 n y0 x3 (0 : Int32) σ hW h
      intro x2 x3  σ hW h
      refine V_iload_n 61 3 rfl rfl rfl ?_
      refine V_aload_n 62 0 rfl rfl rfl ?_
      refine V_get (v := .int (σ.2.1 92 53)) 63 53 rfl clX12 flX12_521 (by decide) (wsh hW rfl) (fun _ => rfl) ?_
      refine V_icmp_ge 64 (tgt := 310) rfl (by decide) (fun hc => ?_) (fun hc => ?_)
      · replace h := h.1 hc
        refine V_iload_n 178 2 rfl rfl rfl ?_
        exact V_iret 179 rfl rfl ⟨hW, _, rfl, h⟩
      · replace h := h.2 hc
        refine V_pc 114 rfl ?_
        refine V_iload_n 65 1 rfl rfl rfl ?_
        refine V_if_ne 66 (tgt := 124) rfl (by decide) (fun hc => ?_) (fun hc => ?_)
        · replace h := h.1 hc
          refine V_iload_n 71 1 rfl rfl rfl ?_
          refine V_iconst 72 (v := (1 : Int32)) rfl (by decide) ?_
          refine V_icmp_ne 73 (tgt := 144) rfl (by decide) (fun hc => ?_) (fun hc => ?_)
          · replace h := h.1 hc
            refine V_iload_n 83 1 rfl rfl rfl ?_
            refine V_iconst 84 (v := (2 : Int32)) rfl (by decide) ?_
            refine V_icmp_ne 85 (tgt := 164) rfl (by decide) (fun hc => ?_) (fun hc => ?_)
            · replace h := h.1 hc
              refine V_iload_n 95 2 rfl rfl rfl ?_
              refine V_sub [0, 1, 3] (lv' := [(0, .ref 92), (1, .int a0), (3, .int x3)]) rfl ?_
              exact k_j165 x3 x2 σ hW h
            · replace h := h.2 hc
              refine V_pc 149 rfl ?_
              refine V_iload_n 86 2 rfl rfl rfl ?_
              refine V_aload_n 87 0 rfl rfl rfl ?_
              refine V_getR 88 27 rfl clX12 flX12_69 (by decide) (wsh hW rfl) (fun _ => rfl) (wrf hW 113 rfl) ?_
              refine V_aload_n 89 0 rfl rfl rfl ?_
              refine V_iload_n 90 3 rfl rfl rfl ?_
              refine V_callV 91 1 (as := [.int x3]) (rest := [.ref 112, .int x2]) rfl mlX12_542 yvX12_symbolOf rfl rfl clX12 (wsh hW rfl) (by decide) (by decide) (Nat.le_of_ble_eq_true rfl) (by decide) (by decide) (fun B9 => ceX12_symbolOf hl B9 hW h) (fun X9 τ9 h9 => VX_out rfl h9) ?_
              rintro v9 σ12 ⟨hW, u13, rfl, h⟩
              obtain ⟨hin, h⟩ := h
              refine V_iald 92 rfl (wsh hW rfl) hin ?_
              refine V_iadd 93 rfl ?_
              refine V_goto 94 (tgt := 165) rfl (by decide) ?_
              refine V_sub [0, 1, 3] (lv' := [(0, .ref 92), (1, .int a0), (3, .int x3)]) rfl ?_
              exact k_j165 x3 (x2 + (σ12.2.1 112 u13.toNatClampNeg)) σ12 hW h
          · replace h := h.2 hc
            refine V_pc 129 rfl ?_
            refine V_iload_n 74 2 rfl rfl rfl ?_
            refine V_aload_n 75 0 rfl rfl rfl ?_
            refine V_getR 76 12 rfl clX12 flX12_29 (by decide) (wsh hW rfl) (fun _ => rfl) (wrf hW 100 rfl) ?_
            refine V_aload_n 77 0 rfl rfl rfl ?_
            refine V_iload_n 78 3 rfl rfl rfl ?_
            refine V_callV 79 1 (as := [.int x3]) (rest := [.ref 99, .int x2]) rfl mlX12_542 yvX12_symbolOf rfl rfl clX12 (wsh hW rfl) (by decide) (by decide) (Nat.le_of_ble_eq_true rfl) (by decide) (by decide) (fun B9 => ceX12_symbolOf hl B9 hW h) (fun X9 τ9 h9 => VX_out rfl h9) ?_
            rintro v9 σ14 ⟨hW, u15, rfl, h⟩
            obtain ⟨hin, h⟩ := h
            refine V_iald 80 rfl (wsh hW rfl) hin ?_
            refine V_iadd 81 rfl ?_
            refine V_goto 82 (tgt := 165) rfl (by decide) ?_
            refine V_sub [0, 1, 3] (lv' := [(0, .ref 92), (1, .int a0), (3, .int x3)]) rfl ?_
            exact k_j165 x3 (x2 + (σ14.2.1 99 u15.toNatClampNeg)) σ14 hW h
        · replace h := h.2 hc
          refine V_pc 118 rfl ?_
          refine V_iload_n 67 2 rfl rfl rfl ?_
          refine V_iconst 68 (v := (1 : Int32)) rfl (by decide) ?_
          refine V_iadd 69 rfl ?_
          refine V_goto 70 (tgt := 165) rfl (by decide) ?_
          refine V_sub [0, 1, 3] (lv' := [(0, .ref 92), (1, .int a0), (3, .int x3)]) rfl ?_
          exact k_j165 x3 (x2 + (1 : Int32)) σ hW h
    intro n
    induction n with
    | zero => intro x2 x3  σ hW h; exact absurd h id
    | succ n ih => exact step  _ ih
  have k_j104 : ∀ (x2 : Int32)  (σ : ab_S), Wire σ → wX12_count_j104 a0 Q E x2 σ → V l mdX12_count B 2 48 0 0 (ab_End (fun v σ' => Wire σ' ∧ ∃ r : Int32, v = some (.int r) ∧ Q r σ') (fun X σ' => Wire σ' ∧ E X σ')) 104 [(0, .ref 92), (1, .int a0), (2, .int x2)] [] σ := by
    intro x2  σ hW h
    refine V_iconst 59 (v := (0 : Int32)) rfl (by decide) ?_
    refine V_istore_n 60 (lv' := [(3, .int (0 : Int32)), (0, .ref 92), (1, .int a0), (2, .int x2)]) rfl rfl (by decide) rfl ?_
    refine V_sub [1, 2, 3, 0] (lv' := [(0, .ref 92), (1, .int a0), (2, .int x2), (3, .int (0 : Int32))]) rfl ?_
    obtain ⟨n, h⟩ := h
    exact k_l106 n x2 (0 : Int32) σ hW h
  have k_l48 : ∀ (n : Nat) (x2 : Int32) (x3 : Int32)  (σ : ab_S), Wire σ → wX12_count_l48 a0 Q E (wX12_count_j104 a0 Q E) n x2 x3 σ → V l mdX12_count B 2 48 0 0 (ab_End (fun v σ' => Wire σ' ∧ ∃ r : Int32, v = some (.int r) ∧ Q r σ') (fun X σ' => Wire σ' ∧ E X σ')) 48 [(0, .ref 92), (1, .int a0), (2, .int x2), (3, .int x3)] [] σ := by
    have step : ∀ (K104 : Int32 → ab_S → Prop) (k_K104 : ∀ (x2 : Int32)  (σ : ab_S), Wire σ → K104 x2 σ → V l mdX12_count B 2 48 0 0 (ab_End (fun v σ' => Wire σ' ∧ ∃ r : Int32, v = some (.int r) ∧ Q r σ') (fun X σ' => Wire σ' ∧ E X σ')) 104 [(0, .ref 92), (1, .int a0), (2, .int x2)] [] σ), ∀ (Bk : Int32 → Int32 → ab_S → Prop) (k_Bk : ∀ (x2 : Int32) (x3 : Int32)  (σ : ab_S), Wire σ → Bk x2 x3 σ → V l mdX12_count B 2 48 0 0 (ab_End (fun v σ' => Wire σ' ∧ ∃ r : Int32, v = some (.int r) ∧ Q r σ') (fun X σ' => Wire σ' ∧ E X σ')) 48 [(0, .ref 92), (1, .int a0), (2, .int x2), (3, .int x3)] [] σ), ∀ (x2 : Int32) (x3 : Int32)  (σ : ab_S), Wire σ → wX12_count_l48_b a0 Q E K104 Bk x2 x3 σ → V l mdX12_count B 2 48 0 0 (ab_End (fun v σ' => Wire σ' ∧ ∃ r : Int32, v = some (.int r) ∧ Q r σ') (fun X σ' => Wire σ' ∧ E X σ')) 48 [(0, .ref 92), (1, .int a0), (2, .int x2), (3, .int x3)] [] σ := by
      intro K104 k_K104 Bk k_Bk
      have k_j97 : ∀ (x3 : Int32) (y0 : Int32)  (σ : ab_S), Wire σ → wX12_count_j97 a0 Q E K104 Bk x3 y0 σ → V l mdX12_count B 2 48 0 0 (ab_End (fun v σ' => Wire σ' ∧ ∃ r : Int32, v = some (.int r) ∧ Q r σ') (fun X σ' => Wire σ' ∧ E X σ')) 97 [(0, .ref 92), (1, .int a0), (3, .int x3)] [.int y0] σ := by
        intro x3 y0  σ hW h
        refine V_istore_n 56 (lv' := [(2, .int y0), (0, .ref 92), (1, .int a0), (3, .int x3)]) rfl rfl (by decide) rfl ?_
        obtain ⟨v16, ev16⟩ : ∃ z : Int32, z = (x3 + 1) := ⟨_, rfl⟩
        replace h := h v16 ev16
        refine V_iinc 57 3 (v := v16) (lv' := [(3, .int v16), (2, .int y0), (0, .ref 92), (1, .int a0)]) rfl rfl ((in_1 _).trans ev16.symm) (by decide) rfl ?_
        refine V_goto 58 (tgt := 48) rfl (by decide) ?_
        refine V_sub [2, 3, 1, 0] (lv' := [(0, .ref 92), (1, .int a0), (2, .int y0), (3, .int v16)]) rfl ?_
        exact k_Bk y0 v16  σ hW h
      have k_j96 : ∀ (x2 : Int32) (x3 : Int32)  (σ : ab_S), Wire σ → wX12_count_j96 a0 Q E K104 Bk x2 x3 σ → V l mdX12_count B 2 48 0 0 (ab_End (fun v σ' => Wire σ' ∧ ∃ r : Int32, v = some (.int r) ∧ Q r σ') (fun X σ' => Wire σ' ∧ E X σ')) 96 [(0, .ref 92), (1, .int a0), (2, .int x2), (3, .int x3)] [] σ := by
        intro x2 x3  σ hW h
        refine V_iload_n 55 2 rfl rfl rfl ?_
        refine V_sub [0, 1, 3] (lv' := [(0, .ref 92), (1, .int a0), (3, .int x3)]) rfl ?_
        exact k_j97 x3 x2 σ hW h
      intro x2 x3  σ hW h
      refine V_iload_n 27 3 rfl rfl rfl ?_
      refine V_bipush 28 (v := (8 : Int32)) rfl (by decide) ?_
      refine V_aload_n 29 0 rfl rfl rfl ?_
      refine V_get (v := .int (σ.2.1 92 9)) 30 9 rfl clX12 flX12_306 (by decide) (wsh hW rfl) (fun _ => rfl) ?_
      refine V_imul 31 rfl ?_
      refine V_icmp_ge 32 (tgt := 104) rfl (by decide) (fun hc => ?_) (fun hc => ?_)
      · replace h := h.1 hc
        refine V_sub [0, 1, 2] (lv' := [(0, .ref 92), (1, .int a0), (2, .int x2)]) rfl ?_
        exact k_K104 x2  σ hW h
      · replace h := h.2 hc
        refine V_pc 59 rfl ?_
        refine V_iload_n 33 1 rfl rfl rfl ?_
        refine V_bipush 34 (v := (6 : Int32)) rfl (by decide) ?_
        refine V_icmp_ne 35 (tgt := 104) rfl (by decide) (fun hc => ?_) (fun hc => ?_)
        · replace h := h.1 hc
          refine V_sub [0, 1, 2] (lv' := [(0, .ref 92), (1, .int a0), (2, .int x2)]) rfl ?_
          exact k_K104 x2  σ hW h
        · replace h := h.2 hc
          refine V_pc 65 rfl ?_
          refine V_iload_n 36 3 rfl rfl rfl ?_
          refine V_bipush 37 (v := (8 : Int32)) rfl (by decide) ?_
          refine V_irem 38 rfl (by decide) ?_
          refine V_aload_n 39 0 rfl rfl rfl ?_
          refine V_getR 40 12 rfl clX12 flX12_29 (by decide) (wsh hW rfl) (fun _ => rfl) (wrf hW 100 rfl) ?_
          refine V_iload_n 41 3 rfl rfl rfl ?_
          refine V_pc 74 rfl ?_
          refine V_bipush 42 (v := (8 : Int32)) rfl (by decide) ?_
          refine V_idiv 43 rfl (by decide) ?_
          obtain ⟨hin, h⟩ := h
          refine V_iald 44 rfl (wsh hW rfl) hin ?_
          refine V_icmp_ge 45 (tgt := 96) rfl (by decide) (fun hc => ?_) (fun hc => ?_)
          · replace h := h.1 hc
            exact k_j96 x2 x3 σ hW h
          · replace h := h.2 hc
            refine V_pc 81 rfl ?_
            refine V_aload_n 46 0 rfl rfl rfl ?_
            refine V_getR 47 39 rfl clX12 flX12_102 (by decide) (wsh hW rfl) (fun _ => rfl) (wrf hW 124 rfl) ?_
            refine V_iload_n 48 3 rfl rfl rfl ?_
            obtain ⟨hin, h⟩ := h
            refine V_iald 49 rfl (wsh hW rfl) hin ?_
            refine V_if_ne 50 (tgt := 96) rfl (by decide) (fun hc => ?_) (fun hc => ?_)
            · replace h := h.1 hc
              exact k_j96 x2 x3 σ hW h
            · replace h := h.2 hc
              refine V_pc 90 rfl ?_
              refine V_iload_n 51 2 rfl rfl rfl ?_
              refine V_iconst 52 (v := (1 : Int32)) rfl (by decide) ?_
              refine V_iadd 53 rfl ?_
              refine V_goto 54 (tgt := 97) rfl (by decide) ?_
              refine V_sub [0, 1, 3] (lv' := [(0, .ref 92), (1, .int a0), (3, .int x3)]) rfl ?_
              exact k_j97 x3 (x2 + (1 : Int32)) σ hW h
    intro n
    induction n with
    | zero => intro x2 x3  σ hW h; exact absurd h id
    | succ n ih => exact step _ k_j104 _ ih
  have k_j35 : ∀ (y0 : Int32) (y1 : Int32)  (σ : ab_S), Wire σ → wX12_count_j35 a0 Q E y0 y1 σ → V l mdX12_count B 2 48 0 0 (ab_End (fun v σ' => Wire σ' ∧ ∃ r : Int32, v = some (.int r) ∧ Q r σ') (fun X σ' => Wire σ' ∧ E X σ')) 35 [(0, .ref 92), (1, .int a0)] [.int y0, .int y1, .ref 92] σ := by
    intro y0 y1  σ hW h
    refine V_iconst 18 (v := (0 : Int32)) rfl (by decide) ?_
    refine V_callV 19 3 (as := [.int y1, .int y0, .int (0 : Int32)]) (rest := []) rfl mlX12_245 yvX12_refuse rfl rfl clX12 (wsh hW rfl) (by decide) (by decide) (Nat.le_of_ble_eq_true rfl) (by decide) (by decide) (fun B9 => ceX12_refuse hl B9 hW h) (fun X9 τ9 h9 => VX_out rfl h9) ?_
    rintro v9 σ17 ⟨hW, u18, rfl, h⟩
    refine V_if_eq 20 (tgt := 44) rfl (by decide) (fun hc => ?_) (fun hc => ?_)
    · replace h := h.1 hc
      refine V_iconst 23 (v := (0 : Int32)) rfl (by decide) ?_
      refine V_istore_n 24 (lv' := [(2, .int (0 : Int32)), (0, .ref 92), (1, .int a0)]) rfl rfl (by decide) rfl ?_
      refine V_iconst 25 (v := (0 : Int32)) rfl (by decide) ?_
      refine V_istore_n 26 (lv' := [(3, .int (0 : Int32)), (2, .int (0 : Int32)), (0, .ref 92), (1, .int a0)]) rfl rfl (by decide) rfl ?_
      refine V_sub [2, 3, 1, 0] (lv' := [(0, .ref 92), (1, .int a0), (2, .int (0 : Int32)), (3, .int (0 : Int32))]) rfl ?_
      obtain ⟨n, h⟩ := h
      exact k_l48 n (0 : Int32) (0 : Int32) σ17 hW h
    · replace h := h.2 hc
      refine V_pc 42 rfl ?_
      refine V_iconst 21 (v := (0 : Int32)) rfl (by decide) ?_
      exact V_iret 22 rfl rfl ⟨hW, _, rfl, h⟩
  have k_j34 : ∀ (y0 : Int32)  (σ : ab_S), Wire σ → wX12_count_j34 a0 Q E y0 σ → V l mdX12_count B 2 48 0 0 (ab_End (fun v σ' => Wire σ' ∧ ∃ r : Int32, v = some (.int r) ∧ Q r σ') (fun X σ' => Wire σ' ∧ E X σ')) 34 [(0, .ref 92), (1, .int a0)] [.int y0, .ref 92] σ := by
    intro y0  σ hW h
    refine V_iconst 17 (v := (0 : Int32)) rfl (by decide) ?_
    exact k_j35 (0 : Int32) y0 σ hW h
  have k_j13 : ∀ (y0 : Int32)  (σ : ab_S), Wire σ → wX12_count_j13 a0 Q E y0 σ → V l mdX12_count B 2 48 0 0 (ab_End (fun v σ' => Wire σ' ∧ ∃ r : Int32, v = some (.int r) ∧ Q r σ') (fun X σ' => Wire σ' ∧ E X σ')) 13 [(0, .ref 92), (1, .int a0)] [.int y0, .ref 92] σ := by
    intro y0  σ hW h
    refine V_aload_n 7 0 rfl rfl rfl ?_
    refine V_get (v := .int (σ.2.1 92 52)) 8 52 rfl clX12 flX12_502 (by decide) (wsh hW rfl) (fun _ => rfl) ?_
    refine V_if_eq 9 (tgt := 34) rfl (by decide) (fun hc => ?_) (fun hc => ?_)
    · replace h := h.1 hc
      exact k_j34 y0 σ hW h
    · replace h := h.2 hc
      refine V_pc 20 rfl ?_
      refine V_iload_n 10 1 rfl rfl rfl ?_
      refine V_iconst 11 (v := (0 : Int32)) rfl (by decide) ?_
      refine V_bipush 12 (v := (6 : Int32)) rfl (by decide) ?_
      refine V_callS 13 3 (as := [.int a0, .int (0 : Int32), .int (6 : Int32)]) (rest := [.int y0, .ref 92]) rfl mlX12_238 yvX12_in rfl rfl (by decide) (by decide) (Nat.le_of_ble_eq_true rfl) (by decide) (by decide) (fun B9 => ceX12_in hl B9 hW h) (fun X9 τ9 h9 => VX_out rfl h9) ?_
      rintro v9 σ19 ⟨hW, u20, rfl, h⟩
      refine V_if_ne 14 (tgt := 34) rfl (by decide) (fun hc => ?_) (fun hc => ?_)
      · replace h := h.1 hc
        exact k_j34 y0 σ19 hW h
      · replace h := h.2 hc
        refine V_pc 30 rfl ?_
        refine V_iconst 15 (v := (1 : Int32)) rfl (by decide) ?_
        refine V_goto 16 (tgt := 35) rfl (by decide) ?_
        exact k_j35 (1 : Int32) y0 σ19 hW h
  intro σ hW h
  refine V_aload_n 0 0 rfl rfl rfl ?_
  refine V_aload_n 1 0 rfl rfl rfl ?_
  refine V_get (v := .int (σ.2.1 92 52)) 2 52 rfl clX12 flX12_502 (by decide) (wsh hW rfl) (fun _ => rfl) ?_
  refine V_if_ne 3 (tgt := 12) rfl (by decide) (fun hc => ?_) (fun hc => ?_)
  · replace h := h.1 hc
    refine V_iconst 6 (v := (0 : Int32)) rfl (by decide) ?_
    exact k_j13 (0 : Int32) σ hW h
  · replace h := h.2 hc
    refine V_pc 8 rfl ?_
    refine V_iconst 4 (v := (1 : Int32)) rfl (by decide) ?_
    refine V_goto 5 (tgt := 13) rfl (by decide) ?_
    exact k_j13 (1 : Int32) σ hW h

def wX12_isNode (a0 : Int32) (Q : Int32 → ab_S → Prop) (E : String → ab_S → Prop) (σ : ab_S) : Prop := wX12_in a0 (0 : Int32) ((σ.2.1 92 53) - (1 : Int32)) (fun u2 σ1 => (u2 = 0 ∨ u2 = 1) ∧ Q u2 σ1) E σ
set_option maxHeartbeats 4000000 in
set_option maxRecDepth 100000 in
theorem ceX12_isNode {l : Launch} (hl : l.stackTraces = false) (B : Nat) {a0 : Int32}  {Q : Int32 → ab_S → Prop} {E : String → ab_S → Prop} {σ : ab_S} (hW : Wire σ) (h : wX12_isNode a0 Q E σ) : ab_Mt l yX12_isNode mdX12_isNode B 1 22 0 0 [.ref 92, .int a0] σ (fun v σ' => Wire σ' ∧ ∃ r : Int32, v = some (.int r) ∧ Q r σ') (fun X σ' => Wire σ' ∧ E X σ') := by
  refine V_met hl ⟨rfl, rfl, by decide⟩ rfl dkX12_isNode (Nat.le_of_ble_eq_true rfl) ?_
  show V l mdX12_isNode B 1 22 0 0 (ab_End _ _) 0 [(0, .ref 92), (1, .int a0)] [] σ
  refine V_iload_n 0 1 rfl rfl rfl ?_
  refine V_iconst 1 (v := (0 : Int32)) rfl (by decide) ?_
  refine V_aload_n 2 0 rfl rfl rfl ?_
  refine V_get (v := .int (σ.2.1 92 53)) 3 53 rfl clX12 flX12_521 (by decide) (wsh hW rfl) (fun _ => rfl) ?_
  refine V_iconst 4 (v := (1 : Int32)) rfl (by decide) ?_
  refine V_isub 5 rfl ?_
  refine V_pc 8 rfl ?_
  refine V_callS 6 3 (as := [.int a0, .int (0 : Int32), .int ((σ.2.1 92 53) - (1 : Int32))]) (rest := []) rfl mlX12_238 yvX12_in rfl rfl (by decide) (by decide) (Nat.le_of_ble_eq_true rfl) (by decide) (by decide) (fun B9 => ceX12_in hl B9 hW h) (fun X9 τ9 h9 => VX_out rfl h9) ?_
  rintro v9 σ1 ⟨hW, u2, rfl, h⟩
  exact V_zret 7 rfl rfl (nb1 h.1) ⟨hW, _, rfl, h.2⟩

def wX12_node_j68 (a0 : Int32) (a1 : Int32) (Q : Int32 → ab_S → Prop) (E : String → ab_S → Prop) (y0 : Int32) (y1 : Int32) (y2 : Int32) (σ : ab_S) : Prop := wX12_refuse y2 y1 y0 (fun u2 σ1 => ((u2 = 0) → ((¬ a1 = 0) → ((¬ a1 = (1 : Int32)) → ((¬ a1 = (2 : Int32)) → wX12_symbolOf a0 (fun u4 σ3 => Q u4 σ3) E σ1) ∧ (¬ (¬ a1 = (2 : Int32)) → vp_in a0 251 ∧ (Q (σ1.2.1 131 a0.toNatClampNeg) σ1))) ∧ (¬ (¬ a1 = (1 : Int32)) → vp_in a0 251 ∧ (Q (σ1.2.1 129 a0.toNatClampNeg) σ1))) ∧ (¬ (¬ a1 = 0) → vp_in a0 251 ∧ (Q (σ1.2.1 128 a0.toNatClampNeg) σ1))) ∧ (¬ (u2 = 0) → Q (0 : Int32) σ1)) E σ
def wX12_node_j67 (a0 : Int32) (a1 : Int32) (Q : Int32 → ab_S → Prop) (E : String → ab_S → Prop) (y0 : Int32) (y1 : Int32) (σ : ab_S) : Prop := wX12_node_j68 a0 a1 Q E (0 : Int32) y0 y1 σ
def wX12_node_j50 (a0 : Int32) (a1 : Int32) (Q : Int32 → ab_S → Prop) (E : String → ab_S → Prop) (x3 : Int32) (y0 : Int32) (y1 : Int32) (σ : ab_S) : Prop := ((x3 = 0) → wX12_node_j67 a0 a1 Q E y0 y1 σ) ∧ (¬ (x3 = 0) → wX12_in a1 (0 : Int32) (3 : Int32) (fun u6 σ5 => ((¬ u6 = 0) → wX12_node_j67 a0 a1 Q E y0 y1 σ5) ∧ (¬ (¬ u6 = 0) → wX12_node_j68 a0 a1 Q E (1 : Int32) y0 y1 σ5)) E σ)
def wX12_node_j49 (a0 : Int32) (a1 : Int32) (Q : Int32 → ab_S → Prop) (E : String → ab_S → Prop) (x3 : Int32) (y0 : Int32) (σ : ab_S) : Prop := wX12_node_j50 a0 a1 Q E x3 (0 : Int32) y0 σ
def wX12_node_j34 (a0 : Int32) (a1 : Int32) (Q : Int32 → ab_S → Prop) (E : String → ab_S → Prop) (x3 : Int32) (y0 : Int32) (σ : ab_S) : Prop := (((σ.2.1 92 52) = 0) → wX12_node_j49 a0 a1 Q E x3 y0 σ) ∧ (¬ ((σ.2.1 92 52) = 0) → ((¬ x3 = 0) → wX12_node_j49 a0 a1 Q E x3 y0 σ) ∧ (¬ (¬ x3 = 0) → wX12_node_j50 a0 a1 Q E x3 (1 : Int32) y0 σ))
def wX12_node_j20 (a0 : Int32) (a1 : Int32) (Q : Int32 → ab_S → Prop) (E : String → ab_S → Prop) (y0 : Int32) (σ : ab_S) : Prop := ((¬ (σ.2.1 92 52) = 0) → wX12_node_j34 a0 a1 Q E y0 (0 : Int32) σ) ∧ (¬ (¬ (σ.2.1 92 52) = 0) → wX12_node_j34 a0 a1 Q E y0 (1 : Int32) σ)
def wX12_node_j19 (a0 : Int32) (a1 : Int32) (Q : Int32 → ab_S → Prop) (E : String → ab_S → Prop)  (σ : ab_S) : Prop := wX12_node_j20 a0 a1 Q E (0 : Int32) σ
def wX12_node (a0 : Int32) (a1 : Int32) (Q : Int32 → ab_S → Prop) (E : String → ab_S → Prop) (σ : ab_S) : Prop := (((σ.2.1 92 52) = 0) → wX12_node_j19 a0 a1 Q E σ) ∧ (¬ ((σ.2.1 92 52) = 0) → wX12_isNode a0 (fun u8 σ7 => ((u8 = 0) → wX12_node_j19 a0 a1 Q E σ7) ∧ (¬ (u8 = 0) → wX12_node_j20 a0 a1 Q E (1 : Int32) σ7)) E σ)
set_option maxHeartbeats 4000000 in
set_option maxRecDepth 100000 in
theorem ceX12_node {l : Launch} (hl : l.stackTraces = false) (B : Nat) {a0 : Int32} {a1 : Int32}  {Q : Int32 → ab_S → Prop} {E : String → ab_S → Prop} {σ : ab_S} (hW : Wire σ) (h : wX12_node a0 a1 Q E σ) : ab_Mt l yX12_node mdX12_node B 2 43 0 0 [.ref 92, .int a0, .int a1] σ (fun v σ' => Wire σ' ∧ ∃ r : Int32, v = some (.int r) ∧ Q r σ') (fun X σ' => Wire σ' ∧ E X σ') := by
  refine V_met hl ⟨rfl, rfl, by decide⟩ rfl dkX12_node (Nat.le_of_ble_eq_true rfl) ?_
  show V l mdX12_node B 2 43 0 0 (ab_End _ _) 0 [(0, .ref 92), (1, .int a0), (2, .int a1)] [] σ
  revert h hW
  revert σ
  have k_j68 : ∀ (y0 : Int32) (y1 : Int32) (y2 : Int32)  (σ : ab_S), Wire σ → wX12_node_j68 a0 a1 Q E y0 y1 y2 σ → V l mdX12_node B 2 43 0 0 (ab_End (fun v σ' => Wire σ' ∧ ∃ r : Int32, v = some (.int r) ∧ Q r σ') (fun X σ' => Wire σ' ∧ E X σ')) 68 [(0, .ref 92), (1, .int a0), (2, .int a1)] [.int y0, .int y1, .int y2, .ref 92] σ := by
    intro y0 y1 y2  σ hW h
    refine V_callV 36 3 (as := [.int y2, .int y1, .int y0]) (rest := []) rfl mlX12_245 yvX12_refuse rfl rfl clX12 (wsh hW rfl) (by decide) (by decide) (Nat.le_of_ble_eq_true rfl) (by decide) (by decide) (fun B9 => ceX12_refuse hl B9 hW h) (fun X9 τ9 h9 => VX_out rfl h9) ?_
    rintro v9 σ1 ⟨hW, u2, rfl, h⟩
    refine V_if_eq 37 (tgt := 76) rfl (by decide) (fun hc => ?_) (fun hc => ?_)
    · replace h := h.1 hc
      refine V_iload_n 40 2 rfl rfl rfl ?_
      refine V_if_ne 41 (tgt := 89) rfl (by decide) (fun hc => ?_) (fun hc => ?_)
      · replace h := h.1 hc
        refine V_iload_n 47 2 rfl rfl rfl ?_
        refine V_iconst 48 (v := (1 : Int32)) rfl (by decide) ?_
        refine V_icmp_ne 49 (tgt := 103) rfl (by decide) (fun hc => ?_) (fun hc => ?_)
        · replace h := h.1 hc
          refine V_iload_n 55 2 rfl rfl rfl ?_
          refine V_iconst 56 (v := (2 : Int32)) rfl (by decide) ?_
          refine V_icmp_ne 57 (tgt := 117) rfl (by decide) (fun hc => ?_) (fun hc => ?_)
          · replace h := h.1 hc
            refine V_aload_n 63 0 rfl rfl rfl ?_
            refine V_iload_n 64 1 rfl rfl rfl ?_
            refine V_callV 65 1 (as := [.int a0]) (rest := []) rfl mlX12_542 yvX12_symbolOf rfl rfl clX12 (wsh hW rfl) (by decide) (by decide) (Nat.le_of_ble_eq_true rfl) (by decide) (by decide) (fun B9 => ceX12_symbolOf hl B9 hW h) (fun X9 τ9 h9 => VX_out rfl h9) ?_
            rintro v9 σ3 ⟨hW, u4, rfl, h⟩
            exact V_iret 66 rfl rfl ⟨hW, _, rfl, h⟩
          · replace h := h.2 hc
            refine V_pc 108 rfl ?_
            refine V_aload_n 58 0 rfl rfl rfl ?_
            refine V_getR 59 57 rfl clX12 flX12_126 (by decide) (wsh hW rfl) (fun _ => rfl) (wrf hW 132 rfl) ?_
            refine V_iload_n 60 1 rfl rfl rfl ?_
            obtain ⟨hin, h⟩ := h
            refine V_iald 61 rfl (wsh hW rfl) hin ?_
            refine V_goto 62 (tgt := 122) rfl (by decide) ?_
            exact V_iret 66 rfl rfl ⟨hW, _, rfl, h⟩
        · replace h := h.2 hc
          refine V_pc 94 rfl ?_
          refine V_aload_n 50 0 rfl rfl rfl ?_
          refine V_getR 51 55 rfl clX12 flX12_120 (by decide) (wsh hW rfl) (fun _ => rfl) (wrf hW 130 rfl) ?_
          refine V_iload_n 52 1 rfl rfl rfl ?_
          obtain ⟨hin, h⟩ := h
          refine V_iald 53 rfl (wsh hW rfl) hin ?_
          refine V_goto 54 (tgt := 122) rfl (by decide) ?_
          exact V_iret 66 rfl rfl ⟨hW, _, rfl, h⟩
      · replace h := h.2 hc
        refine V_pc 80 rfl ?_
        refine V_aload_n 42 0 rfl rfl rfl ?_
        refine V_getR 43 54 rfl clX12 flX12_117 (by decide) (wsh hW rfl) (fun _ => rfl) (wrf hW 129 rfl) ?_
        refine V_iload_n 44 1 rfl rfl rfl ?_
        obtain ⟨hin, h⟩ := h
        refine V_iald 45 rfl (wsh hW rfl) hin ?_
        refine V_goto 46 (tgt := 122) rfl (by decide) ?_
        exact V_iret 66 rfl rfl ⟨hW, _, rfl, h⟩
    · replace h := h.2 hc
      refine V_pc 74 rfl ?_
      refine V_iconst 38 (v := (0 : Int32)) rfl (by decide) ?_
      exact V_iret 39 rfl rfl ⟨hW, _, rfl, h⟩
  have k_j67 : ∀ (y0 : Int32) (y1 : Int32)  (σ : ab_S), Wire σ → wX12_node_j67 a0 a1 Q E y0 y1 σ → V l mdX12_node B 2 43 0 0 (ab_End (fun v σ' => Wire σ' ∧ ∃ r : Int32, v = some (.int r) ∧ Q r σ') (fun X σ' => Wire σ' ∧ E X σ')) 67 [(0, .ref 92), (1, .int a0), (2, .int a1)] [.int y0, .int y1, .ref 92] σ := by
    intro y0 y1  σ hW h
    refine V_iconst 35 (v := (0 : Int32)) rfl (by decide) ?_
    exact k_j68 (0 : Int32) y0 y1 σ hW h
  have k_j50 : ∀ (x3 : Int32) (y0 : Int32) (y1 : Int32)  (σ : ab_S), Wire σ → wX12_node_j50 a0 a1 Q E x3 y0 y1 σ → V l mdX12_node B 2 43 0 0 (ab_End (fun v σ' => Wire σ' ∧ ∃ r : Int32, v = some (.int r) ∧ Q r σ') (fun X σ' => Wire σ' ∧ E X σ')) 50 [(0, .ref 92), (1, .int a0), (2, .int a1), (3, .int x3)] [.int y0, .int y1, .ref 92] σ := by
    intro x3 y0 y1  σ hW h
    refine V_iload_n 26 3 rfl rfl rfl ?_
    refine V_if_eq 27 (tgt := 67) rfl (by decide) (fun hc => ?_) (fun hc => ?_)
    · replace h := h.1 hc
      refine V_sub [0, 1, 2] (lv' := [(0, .ref 92), (1, .int a0), (2, .int a1)]) rfl ?_
      exact k_j67 y0 y1 σ hW h
    · replace h := h.2 hc
      refine V_pc 54 rfl ?_
      refine V_iload_n 28 2 rfl rfl rfl ?_
      refine V_iconst 29 (v := (0 : Int32)) rfl (by decide) ?_
      refine V_iconst 30 (v := (3 : Int32)) rfl (by decide) ?_
      refine V_callS 31 3 (as := [.int a1, .int (0 : Int32), .int (3 : Int32)]) (rest := [.int y0, .int y1, .ref 92]) rfl mlX12_238 yvX12_in rfl rfl (by decide) (by decide) (Nat.le_of_ble_eq_true rfl) (by decide) (by decide) (fun B9 => ceX12_in hl B9 hW h) (fun X9 τ9 h9 => VX_out rfl h9) ?_
      rintro v9 σ5 ⟨hW, u6, rfl, h⟩
      refine V_if_ne 32 (tgt := 67) rfl (by decide) (fun hc => ?_) (fun hc => ?_)
      · replace h := h.1 hc
        refine V_sub [0, 1, 2] (lv' := [(0, .ref 92), (1, .int a0), (2, .int a1)]) rfl ?_
        exact k_j67 y0 y1 σ5 hW h
      · replace h := h.2 hc
        refine V_pc 63 rfl ?_
        refine V_iconst 33 (v := (1 : Int32)) rfl (by decide) ?_
        refine V_goto 34 (tgt := 68) rfl (by decide) ?_
        refine V_sub [0, 1, 2] (lv' := [(0, .ref 92), (1, .int a0), (2, .int a1)]) rfl ?_
        exact k_j68 (1 : Int32) y0 y1 σ5 hW h
  have k_j49 : ∀ (x3 : Int32) (y0 : Int32)  (σ : ab_S), Wire σ → wX12_node_j49 a0 a1 Q E x3 y0 σ → V l mdX12_node B 2 43 0 0 (ab_End (fun v σ' => Wire σ' ∧ ∃ r : Int32, v = some (.int r) ∧ Q r σ') (fun X σ' => Wire σ' ∧ E X σ')) 49 [(0, .ref 92), (1, .int a0), (2, .int a1), (3, .int x3)] [.int y0, .ref 92] σ := by
    intro x3 y0  σ hW h
    refine V_iconst 25 (v := (0 : Int32)) rfl (by decide) ?_
    exact k_j50 x3 (0 : Int32) y0 σ hW h
  have k_j34 : ∀ (x3 : Int32) (y0 : Int32)  (σ : ab_S), Wire σ → wX12_node_j34 a0 a1 Q E x3 y0 σ → V l mdX12_node B 2 43 0 0 (ab_End (fun v σ' => Wire σ' ∧ ∃ r : Int32, v = some (.int r) ∧ Q r σ') (fun X σ' => Wire σ' ∧ E X σ')) 34 [(0, .ref 92), (1, .int a0), (2, .int a1), (3, .int x3)] [.int y0, .ref 92] σ := by
    intro x3 y0  σ hW h
    refine V_aload_n 18 0 rfl rfl rfl ?_
    refine V_get (v := .int (σ.2.1 92 52)) 19 52 rfl clX12 flX12_502 (by decide) (wsh hW rfl) (fun _ => rfl) ?_
    refine V_if_eq 20 (tgt := 49) rfl (by decide) (fun hc => ?_) (fun hc => ?_)
    · replace h := h.1 hc
      exact k_j49 x3 y0 σ hW h
    · replace h := h.2 hc
      refine V_pc 41 rfl ?_
      refine V_iload_n 21 3 rfl rfl rfl ?_
      refine V_if_ne 22 (tgt := 49) rfl (by decide) (fun hc => ?_) (fun hc => ?_)
      · replace h := h.1 hc
        exact k_j49 x3 y0 σ hW h
      · replace h := h.2 hc
        refine V_pc 45 rfl ?_
        refine V_iconst 23 (v := (1 : Int32)) rfl (by decide) ?_
        refine V_goto 24 (tgt := 50) rfl (by decide) ?_
        exact k_j50 x3 (1 : Int32) y0 σ hW h
  have k_j20 : ∀ (y0 : Int32)  (σ : ab_S), Wire σ → wX12_node_j20 a0 a1 Q E y0 σ → V l mdX12_node B 2 43 0 0 (ab_End (fun v σ' => Wire σ' ∧ ∃ r : Int32, v = some (.int r) ∧ Q r σ') (fun X σ' => Wire σ' ∧ E X σ')) 20 [(0, .ref 92), (1, .int a0), (2, .int a1)] [.int y0] σ := by
    intro y0  σ hW h
    refine V_istore_n 10 (lv' := [(3, .int y0), (0, .ref 92), (1, .int a0), (2, .int a1)]) rfl rfl (by decide) rfl ?_
    refine V_aload_n 11 1 rfl rfl rfl ?_
    refine V_aload_n 12 1 rfl rfl rfl ?_
    refine V_get (v := .int (σ.2.1 92 52)) 13 52 rfl clX12 flX12_502 (by decide) (wsh hW rfl) (fun _ => rfl) ?_
    refine V_if_ne 14 (tgt := 33) rfl (by decide) (fun hc => ?_) (fun hc => ?_)
    · replace h := h.1 hc
      refine V_iconst 17 (v := (0 : Int32)) rfl (by decide) ?_
      refine V_sub [1, 2, 3, 0] (lv' := [(0, .ref 92), (1, .int a0), (2, .int a1), (3, .int y0)]) rfl ?_
      exact k_j34 y0 (0 : Int32) σ hW h
    · replace h := h.2 hc
      refine V_pc 29 rfl ?_
      refine V_iconst 15 (v := (1 : Int32)) rfl (by decide) ?_
      refine V_goto 16 (tgt := 34) rfl (by decide) ?_
      refine V_sub [1, 2, 3, 0] (lv' := [(0, .ref 92), (1, .int a0), (2, .int a1), (3, .int y0)]) rfl ?_
      exact k_j34 y0 (1 : Int32) σ hW h
  have k_j19 : ∀   (σ : ab_S), Wire σ → wX12_node_j19 a0 a1 Q E  σ → V l mdX12_node B 2 43 0 0 (ab_End (fun v σ' => Wire σ' ∧ ∃ r : Int32, v = some (.int r) ∧ Q r σ') (fun X σ' => Wire σ' ∧ E X σ')) 19 [(0, .ref 92), (1, .int a0), (2, .int a1)] [] σ := by
    intro   σ hW h
    refine V_iconst 9 (v := (0 : Int32)) rfl (by decide) ?_
    exact k_j20 (0 : Int32) σ hW h
  intro σ hW h
  refine V_aload_n 0 0 rfl rfl rfl ?_
  refine V_get (v := .int (σ.2.1 92 52)) 1 52 rfl clX12 flX12_502 (by decide) (wsh hW rfl) (fun _ => rfl) ?_
  refine V_if_eq 2 (tgt := 19) rfl (by decide) (fun hc => ?_) (fun hc => ?_)
  · replace h := h.1 hc
    exact k_j19 σ hW h
  · replace h := h.2 hc
    refine V_pc 7 rfl ?_
    refine V_aload_n 3 0 rfl rfl rfl ?_
    refine V_iload_n 4 1 rfl rfl rfl ?_
    refine V_callV 5 1 (as := [.int a0]) (rest := []) rfl mlX12_548 yvX12_isNode rfl rfl clX12 (wsh hW rfl) (by decide) (by decide) (Nat.le_of_ble_eq_true rfl) (by decide) (by decide) (fun B9 => ceX12_isNode hl B9 hW h) (fun X9 τ9 h9 => VX_out rfl h9) ?_
    rintro v9 σ7 ⟨hW, u8, rfl, h⟩
    refine V_if_eq 6 (tgt := 19) rfl (by decide) (fun hc => ?_) (fun hc => ?_)
    · replace h := h.1 hc
      exact k_j19 σ7 hW h
    · replace h := h.2 hc
      refine V_pc 15 rfl ?_
      refine V_iconst 7 (v := (1 : Int32)) rfl (by decide) ?_
      refine V_goto 8 (tgt := 20) rfl (by decide) ?_
      exact k_j20 (1 : Int32) σ7 hW h

def wX12_value_j128 (a0 : Int32) (a1 : Int32) (Q : Int32 → ab_S → Prop) (E : String → ab_S → Prop) (y0 : Int32) (y1 : Int32) (y2 : Int32) (σ : ab_S) : Prop := wX12_refuse y2 y1 y0 (fun u2 σ1 => ((u2 = 0) → vp_in (((8 : Int32) * a0) + a1) 2000 ∧ (Q (σ1.2.1 139 (((8 : Int32) * a0) + a1).toNatClampNeg) σ1)) ∧ (¬ (u2 = 0) → Q (0 : Int32) σ1)) E σ
def wX12_value_j127 (a0 : Int32) (a1 : Int32) (Q : Int32 → ab_S → Prop) (E : String → ab_S → Prop) (y0 : Int32) (y1 : Int32) (σ : ab_S) : Prop := wX12_value_j128 a0 a1 Q E (0 : Int32) y0 y1 σ
def wX12_value_j118 (a0 : Int32) (a1 : Int32) (Q : Int32 → ab_S → Prop) (E : String → ab_S → Prop) (y0 : Int32) (y1 : Int32) (y3 : Int32) (y4 : Int32) (σ : ab_S) : Prop := vp_in (y1 + y0) 2000 ∧ ((((σ.2.1 141 (y1 + y0).toNatClampNeg) = 0) → wX12_value_j127 a0 a1 Q E y3 y4 σ) ∧ (¬ ((σ.2.1 141 (y1 + y0).toNatClampNeg) = 0) → wX12_value_j128 a0 a1 Q E (1 : Int32) y3 y4 σ))
def wX12_value_j108 (a0 : Int32) (a1 : Int32) (Q : Int32 → ab_S → Prop) (E : String → ab_S → Prop) (x3 : Int32) (y0 : Int32) (y1 : Int32) (y3 : Int32) (y4 : Int32) (σ : ab_S) : Prop := ((x3 = 0) → wX12_value_j118 a0 a1 Q E (0 : Int32) (y1 * y0) y3 y4 σ) ∧ (¬ (x3 = 0) → wX12_value_j118 a0 a1 Q E a1 (y1 * y0) y3 y4 σ)
def wX12_value_j89 (a0 : Int32) (a1 : Int32) (Q : Int32 → ab_S → Prop) (E : String → ab_S → Prop) (x3 : Int32) (y0 : Int32) (y1 : Int32) (σ : ab_S) : Prop := ((x3 = 0) → wX12_value_j127 a0 a1 Q E y0 y1 σ) ∧ (¬ (x3 = 0) → ((x3 = 0) → wX12_value_j108 a0 a1 Q E x3 (0 : Int32) (8 : Int32) y0 y1 σ) ∧ (¬ (x3 = 0) → wX12_value_j108 a0 a1 Q E x3 a0 (8 : Int32) y0 y1 σ))
def wX12_value_j88 (a0 : Int32) (a1 : Int32) (Q : Int32 → ab_S → Prop) (E : String → ab_S → Prop) (x3 : Int32) (y0 : Int32) (σ : ab_S) : Prop := wX12_value_j89 a0 a1 Q E x3 (0 : Int32) y0 σ
def wX12_value_j73 (a0 : Int32) (a1 : Int32) (Q : Int32 → ab_S → Prop) (E : String → ab_S → Prop) (x3 : Int32) (y0 : Int32) (σ : ab_S) : Prop := (((σ.2.1 92 52) = 0) → wX12_value_j88 a0 a1 Q E x3 y0 σ) ∧ (¬ ((σ.2.1 92 52) = 0) → ((¬ x3 = 0) → wX12_value_j88 a0 a1 Q E x3 y0 σ) ∧ (¬ (¬ x3 = 0) → wX12_value_j89 a0 a1 Q E x3 (1 : Int32) y0 σ))
def wX12_value_j59 (a0 : Int32) (a1 : Int32) (Q : Int32 → ab_S → Prop) (E : String → ab_S → Prop) (y0 : Int32) (σ : ab_S) : Prop := ((¬ (σ.2.1 92 52) = 0) → wX12_value_j73 a0 a1 Q E y0 (0 : Int32) σ) ∧ (¬ (¬ (σ.2.1 92 52) = 0) → wX12_value_j73 a0 a1 Q E y0 (1 : Int32) σ)
def wX12_value_j58 (a0 : Int32) (a1 : Int32) (Q : Int32 → ab_S → Prop) (E : String → ab_S → Prop)  (σ : ab_S) : Prop := wX12_value_j59 a0 a1 Q E (0 : Int32) σ
def wX12_value_j42 (a0 : Int32) (a1 : Int32) (Q : Int32 → ab_S → Prop) (E : String → ab_S → Prop) (y0 : Int32) (y3 : Int32) (σ : ab_S) : Prop := wX12_symbolOf y0 (fun u4 σ3 => vp_in u4 13 ∧ (wX12_in a1 y3 ((σ3.2.1 99 u4.toNatClampNeg) - (1 : Int32)) (fun u6 σ5 => ((u6 = 0) → wX12_value_j58 a0 a1 Q E σ5) ∧ (¬ (u6 = 0) → wX12_value_j59 a0 a1 Q E (1 : Int32) σ5)) E σ3)) E σ
def wX12_value_j41 (a0 : Int32) (a1 : Int32) (Q : Int32 → ab_S → Prop) (E : String → ab_S → Prop) (y2 : Int32) (σ : ab_S) : Prop := wX12_value_j42 a0 a1 Q E (0 : Int32) y2 σ
def wX12_value (a0 : Int32) (a1 : Int32) (Q : Int32 → ab_S → Prop) (E : String → ab_S → Prop) (σ : ab_S) : Prop := (((σ.2.1 92 52) = 0) → wX12_value_j58 a0 a1 Q E σ) ∧ (¬ ((σ.2.1 92 52) = 0) → wX12_isNode a0 (fun u8 σ7 => ((u8 = 0) → wX12_value_j58 a0 a1 Q E σ7) ∧ (¬ (u8 = 0) → (((σ7.2.1 92 52) = 0) → wX12_value_j41 a0 a1 Q E (0 : Int32) σ7) ∧ (¬ ((σ7.2.1 92 52) = 0) → wX12_isNode a0 (fun u10 σ9 => ((u10 = 0) → wX12_value_j41 a0 a1 Q E (0 : Int32) σ9) ∧ (¬ (u10 = 0) → wX12_value_j42 a0 a1 Q E a0 (0 : Int32) σ9)) E σ7))) E σ)
set_option maxHeartbeats 4000000 in
set_option maxRecDepth 100000 in
theorem ceX12_value {l : Launch} (hl : l.stackTraces = false) (B : Nat) {a0 : Int32} {a1 : Int32}  {Q : Int32 → ab_S → Prop} {E : String → ab_S → Prop} {σ : ab_S} (hW : Wire σ) (h : wX12_value a0 a1 Q E σ) : ab_Mt l yX12_value mdX12_value B 2 43 0 0 [.ref 92, .int a0, .int a1] σ (fun v σ' => Wire σ' ∧ ∃ r : Int32, v = some (.int r) ∧ Q r σ') (fun X σ' => Wire σ' ∧ E X σ') := by
  refine V_met hl ⟨rfl, rfl, by decide⟩ rfl dkX12_value (Nat.le_of_ble_eq_true rfl) ?_
  show V l mdX12_value B 2 43 0 0 (ab_End _ _) 0 [(0, .ref 92), (1, .int a0), (2, .int a1)] [] σ
  revert h hW
  revert σ
  have k_j128 : ∀ (y0 : Int32) (y1 : Int32) (y2 : Int32)  (σ : ab_S), Wire σ → wX12_value_j128 a0 a1 Q E y0 y1 y2 σ → V l mdX12_value B 2 43 0 0 (ab_End (fun v σ' => Wire σ' ∧ ∃ r : Int32, v = some (.int r) ∧ Q r σ') (fun X σ' => Wire σ' ∧ E X σ')) 128 [(0, .ref 92), (1, .int a0), (2, .int a1)] [.int y0, .int y1, .int y2, .ref 92] σ := by
    intro y0 y1 y2  σ hW h
    refine V_callV 69 3 (as := [.int y2, .int y1, .int y0]) (rest := []) rfl mlX12_245 yvX12_refuse rfl rfl clX12 (wsh hW rfl) (by decide) (by decide) (Nat.le_of_ble_eq_true rfl) (by decide) (by decide) (fun B9 => ceX12_refuse hl B9 hW h) (fun X9 τ9 h9 => VX_out rfl h9) ?_
    rintro v9 σ1 ⟨hW, u2, rfl, h⟩
    refine V_if_eq 70 (tgt := 136) rfl (by decide) (fun hc => ?_) (fun hc => ?_)
    · replace h := h.1 hc
      refine V_aload_n 73 0 rfl rfl rfl ?_
      refine V_getR 74 67 rfl clX12 flX12_150 (by decide) (wsh hW rfl) (fun _ => rfl) (wrf hW 140 rfl) ?_
      refine V_bipush 75 (v := (8 : Int32)) rfl (by decide) ?_
      refine V_iload_n 76 1 rfl rfl rfl ?_
      refine V_imul 77 rfl ?_
      refine V_iload_n 78 2 rfl rfl rfl ?_
      refine V_pc 145 rfl ?_
      refine V_iadd 79 rfl ?_
      obtain ⟨hin, h⟩ := h
      refine V_iald 80 rfl (wsh hW rfl) hin ?_
      exact V_iret 81 rfl rfl ⟨hW, _, rfl, h⟩
    · replace h := h.2 hc
      refine V_pc 134 rfl ?_
      refine V_iconst 71 (v := (0 : Int32)) rfl (by decide) ?_
      exact V_iret 72 rfl rfl ⟨hW, _, rfl, h⟩
  have k_j127 : ∀ (y0 : Int32) (y1 : Int32)  (σ : ab_S), Wire σ → wX12_value_j127 a0 a1 Q E y0 y1 σ → V l mdX12_value B 2 43 0 0 (ab_End (fun v σ' => Wire σ' ∧ ∃ r : Int32, v = some (.int r) ∧ Q r σ') (fun X σ' => Wire σ' ∧ E X σ')) 127 [(0, .ref 92), (1, .int a0), (2, .int a1)] [.int y0, .int y1, .ref 92] σ := by
    intro y0 y1  σ hW h
    refine V_iconst 68 (v := (0 : Int32)) rfl (by decide) ?_
    exact k_j128 (0 : Int32) y0 y1 σ hW h
  have k_j118 : ∀ (y0 : Int32) (y1 : Int32) (y3 : Int32) (y4 : Int32)  (σ : ab_S), Wire σ → wX12_value_j118 a0 a1 Q E y0 y1 y3 y4 σ → V l mdX12_value B 2 43 0 0 (ab_End (fun v σ' => Wire σ' ∧ ∃ r : Int32, v = some (.int r) ∧ Q r σ') (fun X σ' => Wire σ' ∧ E X σ')) 118 [(0, .ref 92), (1, .int a0), (2, .int a1)] [.int y0, .int y1, .ref 141, .int y3, .int y4, .ref 92] σ := by
    intro y0 y1 y3 y4  σ hW h
    refine V_iadd 63 rfl ?_
    obtain ⟨hin, h⟩ := h
    refine V_zald 64 rfl (wsh hW rfl) hin ?_
    refine V_if_eq 65 (tgt := 127) rfl (by decide) (fun hc => ?_) (fun hc => ?_)
    · replace h := h.1 hc
      exact k_j127 y3 y4 σ hW h
    · replace h := h.2 hc
      refine V_pc 123 rfl ?_
      refine V_iconst 66 (v := (1 : Int32)) rfl (by decide) ?_
      refine V_goto 67 (tgt := 128) rfl (by decide) ?_
      exact k_j128 (1 : Int32) y3 y4 σ hW h
  have k_j108 : ∀ (x3 : Int32) (y0 : Int32) (y1 : Int32) (y3 : Int32) (y4 : Int32)  (σ : ab_S), Wire σ → wX12_value_j108 a0 a1 Q E x3 y0 y1 y3 y4 σ → V l mdX12_value B 2 43 0 0 (ab_End (fun v σ' => Wire σ' ∧ ∃ r : Int32, v = some (.int r) ∧ Q r σ') (fun X σ' => Wire σ' ∧ E X σ')) 108 [(0, .ref 92), (1, .int a0), (2, .int a1), (3, .int x3)] [.int y0, .int y1, .ref 141, .int y3, .int y4, .ref 92] σ := by
    intro x3 y0 y1 y3 y4  σ hW h
    refine V_imul 57 rfl ?_
    refine V_iload_n 58 3 rfl rfl rfl ?_
    refine V_if_eq 59 (tgt := 117) rfl (by decide) (fun hc => ?_) (fun hc => ?_)
    · replace h := h.1 hc
      refine V_iconst 62 (v := (0 : Int32)) rfl (by decide) ?_
      refine V_sub [0, 1, 2] (lv' := [(0, .ref 92), (1, .int a0), (2, .int a1)]) rfl ?_
      exact k_j118 (0 : Int32) (y1 * y0) y3 y4 σ hW h
    · replace h := h.2 hc
      refine V_pc 113 rfl ?_
      refine V_iload_n 60 2 rfl rfl rfl ?_
      refine V_goto 61 (tgt := 118) rfl (by decide) ?_
      refine V_sub [0, 1, 2] (lv' := [(0, .ref 92), (1, .int a0), (2, .int a1)]) rfl ?_
      exact k_j118 a1 (y1 * y0) y3 y4 σ hW h
  have k_j89 : ∀ (x3 : Int32) (y0 : Int32) (y1 : Int32)  (σ : ab_S), Wire σ → wX12_value_j89 a0 a1 Q E x3 y0 y1 σ → V l mdX12_value B 2 43 0 0 (ab_End (fun v σ' => Wire σ' ∧ ∃ r : Int32, v = some (.int r) ∧ Q r σ') (fun X σ' => Wire σ' ∧ E X σ')) 89 [(0, .ref 92), (1, .int a0), (2, .int a1), (3, .int x3)] [.int y0, .int y1, .ref 92] σ := by
    intro x3 y0 y1  σ hW h
    refine V_iload_n 47 3 rfl rfl rfl ?_
    refine V_if_eq 48 (tgt := 127) rfl (by decide) (fun hc => ?_) (fun hc => ?_)
    · replace h := h.1 hc
      refine V_sub [0, 1, 2] (lv' := [(0, .ref 92), (1, .int a0), (2, .int a1)]) rfl ?_
      exact k_j127 y0 y1 σ hW h
    · replace h := h.2 hc
      refine V_pc 93 rfl ?_
      refine V_aload_n 49 0 rfl rfl rfl ?_
      refine V_getR 50 69 rfl clX12 flX12_156 (by decide) (wsh hW rfl) (fun _ => rfl) (wrf hW 142 rfl) ?_
      refine V_bipush 51 (v := (8 : Int32)) rfl (by decide) ?_
      refine V_iload_n 52 3 rfl rfl rfl ?_
      refine V_if_eq 53 (tgt := 107) rfl (by decide) (fun hc => ?_) (fun hc => ?_)
      · replace h := h.1 hc
        refine V_iconst 56 (v := (0 : Int32)) rfl (by decide) ?_
        exact k_j108 x3 (0 : Int32) (8 : Int32) y0 y1 σ hW h
      · replace h := h.2 hc
        refine V_pc 103 rfl ?_
        refine V_iload_n 54 1 rfl rfl rfl ?_
        refine V_goto 55 (tgt := 108) rfl (by decide) ?_
        exact k_j108 x3 a0 (8 : Int32) y0 y1 σ hW h
  have k_j88 : ∀ (x3 : Int32) (y0 : Int32)  (σ : ab_S), Wire σ → wX12_value_j88 a0 a1 Q E x3 y0 σ → V l mdX12_value B 2 43 0 0 (ab_End (fun v σ' => Wire σ' ∧ ∃ r : Int32, v = some (.int r) ∧ Q r σ') (fun X σ' => Wire σ' ∧ E X σ')) 88 [(0, .ref 92), (1, .int a0), (2, .int a1), (3, .int x3)] [.int y0, .ref 92] σ := by
    intro x3 y0  σ hW h
    refine V_iconst 46 (v := (0 : Int32)) rfl (by decide) ?_
    exact k_j89 x3 (0 : Int32) y0 σ hW h
  have k_j73 : ∀ (x3 : Int32) (y0 : Int32)  (σ : ab_S), Wire σ → wX12_value_j73 a0 a1 Q E x3 y0 σ → V l mdX12_value B 2 43 0 0 (ab_End (fun v σ' => Wire σ' ∧ ∃ r : Int32, v = some (.int r) ∧ Q r σ') (fun X σ' => Wire σ' ∧ E X σ')) 73 [(0, .ref 92), (1, .int a0), (2, .int a1), (3, .int x3)] [.int y0, .ref 92] σ := by
    intro x3 y0  σ hW h
    refine V_aload_n 39 0 rfl rfl rfl ?_
    refine V_get (v := .int (σ.2.1 92 52)) 40 52 rfl clX12 flX12_502 (by decide) (wsh hW rfl) (fun _ => rfl) ?_
    refine V_if_eq 41 (tgt := 88) rfl (by decide) (fun hc => ?_) (fun hc => ?_)
    · replace h := h.1 hc
      exact k_j88 x3 y0 σ hW h
    · replace h := h.2 hc
      refine V_pc 80 rfl ?_
      refine V_iload_n 42 3 rfl rfl rfl ?_
      refine V_if_ne 43 (tgt := 88) rfl (by decide) (fun hc => ?_) (fun hc => ?_)
      · replace h := h.1 hc
        exact k_j88 x3 y0 σ hW h
      · replace h := h.2 hc
        refine V_pc 84 rfl ?_
        refine V_iconst 44 (v := (1 : Int32)) rfl (by decide) ?_
        refine V_goto 45 (tgt := 89) rfl (by decide) ?_
        exact k_j89 x3 (1 : Int32) y0 σ hW h
  have k_j59 : ∀ (y0 : Int32)  (σ : ab_S), Wire σ → wX12_value_j59 a0 a1 Q E y0 σ → V l mdX12_value B 2 43 0 0 (ab_End (fun v σ' => Wire σ' ∧ ∃ r : Int32, v = some (.int r) ∧ Q r σ') (fun X σ' => Wire σ' ∧ E X σ')) 59 [(0, .ref 92), (1, .int a0), (2, .int a1)] [.int y0] σ := by
    intro y0  σ hW h
    refine V_istore_n 31 (lv' := [(3, .int y0), (0, .ref 92), (1, .int a0), (2, .int a1)]) rfl rfl (by decide) rfl ?_
    refine V_aload_n 32 1 rfl rfl rfl ?_
    refine V_aload_n 33 1 rfl rfl rfl ?_
    refine V_get (v := .int (σ.2.1 92 52)) 34 52 rfl clX12 flX12_502 (by decide) (wsh hW rfl) (fun _ => rfl) ?_
    refine V_if_ne 35 (tgt := 72) rfl (by decide) (fun hc => ?_) (fun hc => ?_)
    · replace h := h.1 hc
      refine V_iconst 38 (v := (0 : Int32)) rfl (by decide) ?_
      refine V_sub [1, 2, 3, 0] (lv' := [(0, .ref 92), (1, .int a0), (2, .int a1), (3, .int y0)]) rfl ?_
      exact k_j73 y0 (0 : Int32) σ hW h
    · replace h := h.2 hc
      refine V_pc 68 rfl ?_
      refine V_iconst 36 (v := (1 : Int32)) rfl (by decide) ?_
      refine V_goto 37 (tgt := 73) rfl (by decide) ?_
      refine V_sub [1, 2, 3, 0] (lv' := [(0, .ref 92), (1, .int a0), (2, .int a1), (3, .int y0)]) rfl ?_
      exact k_j73 y0 (1 : Int32) σ hW h
  have k_j58 : ∀   (σ : ab_S), Wire σ → wX12_value_j58 a0 a1 Q E  σ → V l mdX12_value B 2 43 0 0 (ab_End (fun v σ' => Wire σ' ∧ ∃ r : Int32, v = some (.int r) ∧ Q r σ') (fun X σ' => Wire σ' ∧ E X σ')) 58 [(0, .ref 92), (1, .int a0), (2, .int a1)] [] σ := by
    intro   σ hW h
    refine V_iconst 30 (v := (0 : Int32)) rfl (by decide) ?_
    exact k_j59 (0 : Int32) σ hW h
  have k_j42 : ∀ (y0 : Int32) (y3 : Int32)  (σ : ab_S), Wire σ → wX12_value_j42 a0 a1 Q E y0 y3 σ → V l mdX12_value B 2 43 0 0 (ab_End (fun v σ' => Wire σ' ∧ ∃ r : Int32, v = some (.int r) ∧ Q r σ') (fun X σ' => Wire σ' ∧ E X σ')) 42 [(0, .ref 92), (1, .int a0), (2, .int a1)] [.int y0, .ref 92, .ref 99, .int y3, .int a1] σ := by
    intro y0 y3  σ hW h
    refine V_callV 22 1 (as := [.int y0]) (rest := [.ref 99, .int y3, .int a1]) rfl mlX12_542 yvX12_symbolOf rfl rfl clX12 (wsh hW rfl) (by decide) (by decide) (Nat.le_of_ble_eq_true rfl) (by decide) (by decide) (fun B9 => ceX12_symbolOf hl B9 hW h) (fun X9 τ9 h9 => VX_out rfl h9) ?_
    rintro v9 σ3 ⟨hW, u4, rfl, h⟩
    obtain ⟨hin, h⟩ := h
    refine V_iald 23 rfl (wsh hW rfl) hin ?_
    refine V_iconst 24 (v := (1 : Int32)) rfl (by decide) ?_
    refine V_isub 25 rfl ?_
    refine V_callS 26 3 (as := [.int a1, .int y3, .int ((σ3.2.1 99 u4.toNatClampNeg) - (1 : Int32))]) (rest := []) rfl mlX12_238 yvX12_in rfl rfl (by decide) (by decide) (Nat.le_of_ble_eq_true rfl) (by decide) (by decide) (fun B9 => ceX12_in hl B9 hW h) (fun X9 τ9 h9 => VX_out rfl h9) ?_
    rintro v9 σ5 ⟨hW, u6, rfl, h⟩
    refine V_if_eq 27 (tgt := 58) rfl (by decide) (fun hc => ?_) (fun hc => ?_)
    · replace h := h.1 hc
      exact k_j58 σ5 hW h
    · replace h := h.2 hc
      refine V_pc 54 rfl ?_
      refine V_iconst 28 (v := (1 : Int32)) rfl (by decide) ?_
      refine V_goto 29 (tgt := 59) rfl (by decide) ?_
      exact k_j59 (1 : Int32) σ5 hW h
  have k_j41 : ∀ (y2 : Int32)  (σ : ab_S), Wire σ → wX12_value_j41 a0 a1 Q E y2 σ → V l mdX12_value B 2 43 0 0 (ab_End (fun v σ' => Wire σ' ∧ ∃ r : Int32, v = some (.int r) ∧ Q r σ') (fun X σ' => Wire σ' ∧ E X σ')) 41 [(0, .ref 92), (1, .int a0), (2, .int a1)] [.ref 92, .ref 99, .int y2, .int a1] σ := by
    intro y2  σ hW h
    refine V_iconst 21 (v := (0 : Int32)) rfl (by decide) ?_
    exact k_j42 (0 : Int32) y2 σ hW h
  intro σ hW h
  refine V_aload_n 0 0 rfl rfl rfl ?_
  refine V_get (v := .int (σ.2.1 92 52)) 1 52 rfl clX12 flX12_502 (by decide) (wsh hW rfl) (fun _ => rfl) ?_
  refine V_if_eq 2 (tgt := 58) rfl (by decide) (fun hc => ?_) (fun hc => ?_)
  · replace h := h.1 hc
    exact k_j58 σ hW h
  · replace h := h.2 hc
    refine V_pc 7 rfl ?_
    refine V_aload_n 3 0 rfl rfl rfl ?_
    refine V_iload_n 4 1 rfl rfl rfl ?_
    refine V_callV 5 1 (as := [.int a0]) (rest := []) rfl mlX12_548 yvX12_isNode rfl rfl clX12 (wsh hW rfl) (by decide) (by decide) (Nat.le_of_ble_eq_true rfl) (by decide) (by decide) (fun B9 => ceX12_isNode hl B9 hW h) (fun X9 τ9 h9 => VX_out rfl h9) ?_
    rintro v9 σ7 ⟨hW, u8, rfl, h⟩
    refine V_if_eq 6 (tgt := 58) rfl (by decide) (fun hc => ?_) (fun hc => ?_)
    · replace h := h.1 hc
      exact k_j58 σ7 hW h
    · replace h := h.2 hc
      refine V_pc 15 rfl ?_
      refine V_iload_n 7 2 rfl rfl rfl ?_
      refine V_iconst 8 (v := (0 : Int32)) rfl (by decide) ?_
      refine V_aload_n 9 0 rfl rfl rfl ?_
      refine V_getR 10 12 rfl clX12 flX12_29 (by decide) (wsh hW rfl) (fun _ => rfl) (wrf hW 100 rfl) ?_
      refine V_aload_n 11 0 rfl rfl rfl ?_
      refine V_aload_n 12 0 rfl rfl rfl ?_
      refine V_pc 23 rfl ?_
      refine V_get (v := .int (σ7.2.1 92 52)) 13 52 rfl clX12 flX12_502 (by decide) (wsh hW rfl) (fun _ => rfl) ?_
      refine V_if_eq 14 (tgt := 41) rfl (by decide) (fun hc => ?_) (fun hc => ?_)
      · replace h := h.1 hc
        exact k_j41 (0 : Int32) σ7 hW h
      · replace h := h.2 hc
        refine V_pc 29 rfl ?_
        refine V_aload_n 15 0 rfl rfl rfl ?_
        refine V_iload_n 16 1 rfl rfl rfl ?_
        refine V_callV 17 1 (as := [.int a0]) (rest := [.ref 92, .ref 99, .int (0 : Int32), .int a1]) rfl mlX12_548 yvX12_isNode rfl rfl clX12 (wsh hW rfl) (by decide) (by decide) (Nat.le_of_ble_eq_true rfl) (by decide) (by decide) (fun B9 => ceX12_isNode hl B9 hW h) (fun X9 τ9 h9 => VX_out rfl h9) ?_
        rintro v9 σ9 ⟨hW, u10, rfl, h⟩
        refine V_if_eq 18 (tgt := 41) rfl (by decide) (fun hc => ?_) (fun hc => ?_)
        · replace h := h.1 hc
          exact k_j41 (0 : Int32) σ9 hW h
        · replace h := h.2 hc
          refine V_pc 37 rfl ?_
          refine V_iload_n 19 1 rfl rfl rfl ?_
          refine V_goto 20 (tgt := 42) rfl (by decide) ?_
          exact k_j42 a0 (0 : Int32) σ9 hW h
