def wX10_readNodes_j79 (Q : Int32 → ab_S → Prop) (E : String → ab_S → Prop)  (σ : ab_S) : Prop := ((¬ (σ.2.1 3 6) = 0) → Q (0 : Int32) σ) ∧ (¬ (¬ (σ.2.1 3 6) = 0) → Q (1 : Int32) σ)
def wX10_readNodes_j109 (Q : Int32 → ab_S → Prop) (E : String → ab_S → Prop) (K79 : ab_S → Prop) (Bk : Int32 → ab_S → Prop) (x1 : Int32) (σ : ab_S) : Prop := ∀ v1 : Int32, v1 = (x1 + 1) → Bk v1 σ
def wX10_readNodes_l7_b (Q : Int32 → ab_S → Prop) (E : String → ab_S → Prop) (K79 : ab_S → Prop) (Bk : Int32 → ab_S → Prop) (x1 : Int32) (σ : ab_S) : Prop := (((250 : Int32) ≤ x1) → Q (0 : Int32) σ) ∧ (¬ ((250 : Int32) ≤ x1) → wX10_readHead (fun u3 σ2 => ((¬ u3 = 0) → ∃ q4, σ2.2.2.2 8 1 = some q4 ∧ isG q4 ∧ (∃ q5, σ2.2.2.2 8 2 = some q5 ∧ isT q5 ∧ (vp_in x1 250 ∧ (vp_in (σ2.2.1 (q5 + 1) x1.toNatClampNeg) 30 ∧ ((((σ2.2.1 (q4 + 6) (σ2.2.1 (q5 + 1) x1.toNatClampNeg).toNatClampNeg) ≤ 0) → wX10_closeFull (fun u7 σ6 => ((¬ u7 = 0) → ((¬ (σ6.2.1 8 3) = (-1 : Int32)) → wX6_take (44 : Int32) (fun u9 σ8 => ((¬ u9 = 0) → wX10_readNodes_j109 Q E K79 Bk x1 σ8) ∧ (¬ (¬ u9 = 0) → Q (0 : Int32) σ8)) E σ6) ∧ (¬ (¬ (σ6.2.1 8 3) = (-1 : Int32)) → K79 σ6)) ∧ (¬ (¬ u7 = 0) → Q (0 : Int32) σ6)) E σ2) ∧ (¬ ((σ2.2.1 (q4 + 6) (σ2.2.1 (q5 + 1) x1.toNatClampNeg).toNatClampNeg) ≤ 0) → (∀ σ10 : ab_S, σ10 = ab_I σ2 8 3 x1 → wX6_take (40 : Int32) (fun u12 σ11 => ((¬ u12 = 0) → wX10_readNodes_j109 Q E K79 Bk x1 σ11) ∧ (¬ (¬ u12 = 0) → Q (0 : Int32) σ11)) E σ10))))))) ∧ (¬ (¬ u3 = 0) → Q (0 : Int32) σ2)) E σ)
def wX10_readNodes_l7 (Q : Int32 → ab_S → Prop) (E : String → ab_S → Prop) (K79 : ab_S → Prop) : Nat → Int32 → ab_S → Prop
  | 0, _, _ => False
  | n + 1, x1, σ => wX10_readNodes_l7_b Q E K79 (wX10_readNodes_l7 Q E K79 n) x1 σ
def wX10_readNodes  (Q : Int32 → ab_S → Prop) (E : String → ab_S → Prop) (σ : ab_S) : Prop := (∀ σ13 : ab_S, σ13 = ab_I σ 8 3 (-1 : Int32) → ∃ n, wX10_readNodes_l7 Q E (wX10_readNodes_j79 Q E) n (0 : Int32) σ13)
set_option maxHeartbeats 4000000 in
set_option maxRecDepth 100000 in
theorem ceX10_readNodes {l : Launch} (hl : l.stackTraces = false) (B : Nat)   {Q : Int32 → ab_S → Prop} {E : String → ab_S → Prop} {σ : ab_S} (hW : Wire σ) (h : wX10_readNodes  Q E σ) : ab_Mt l yX10_readNodes mdX10_readNodes B 4 84 0 0 [.ref 8] σ (fun v σ' => Wire σ' ∧ ∃ r : Int32, v = some (.int r) ∧ Q r σ') (fun X σ' => Wire σ' ∧ E X σ') := by
  refine V_met hl ⟨rfl, rfl, by decide⟩ rfl dkX10_readNodes (Nat.le_of_ble_eq_true rfl) ?_
  show V l mdX10_readNodes B 4 84 0 0 (ab_End _ _) 0 [(0, .ref 8)] [] σ
  revert h hW
  revert σ
  have k_j79 : ∀   (σ : ab_S), Wire σ → wX10_readNodes_j79 Q E  σ → V l mdX10_readNodes B 4 84 0 0 (ab_End (fun v σ' => Wire σ' ∧ ∃ r : Int32, v = some (.int r) ∧ Q r σ') (fun X σ' => Wire σ' ∧ E X σ')) 79 [(0, .ref 8)] [] σ := by
    intro   σ hW h
    refine V_aload_n 42 0 rfl rfl rfl ?_
    refine V_getR 43 0 rfl clX10 flX10_9 (by decide) (wsh hW rfl) (fun _ => rfl) (wrf hW 17 rfl) ?_
    refine V_get (v := .int (σ.2.1 3 6)) 44 6 rfl clX6 flX10_63 (by decide) (wsh hW rfl) (fun _ => rfl) ?_
    refine V_if_ne 45 (tgt := 93) rfl (by decide) (fun hc => ?_) (fun hc => ?_)
    · replace h := h.1 hc
      refine V_iconst 48 (v := (0 : Int32)) rfl (by decide) ?_
      exact V_zret 49 rfl rfl rfl ⟨hW, _, rfl, h⟩
    · replace h := h.2 hc
      refine V_pc 89 rfl ?_
      refine V_iconst 46 (v := (1 : Int32)) rfl (by decide) ?_
      refine V_goto 47 (tgt := 94) rfl (by decide) ?_
      exact V_zret 49 rfl rfl rfl ⟨hW, _, rfl, h⟩
  have k_l7 : ∀ (n : Nat) (x1 : Int32)  (σ : ab_S), Wire σ → wX10_readNodes_l7 Q E (wX10_readNodes_j79 Q E) n x1 σ → V l mdX10_readNodes B 4 84 0 0 (ab_End (fun v σ' => Wire σ' ∧ ∃ r : Int32, v = some (.int r) ∧ Q r σ') (fun X σ' => Wire σ' ∧ E X σ')) 7 [(0, .ref 8), (1, .int x1)] [] σ := by
    have step : ∀ (K79 : ab_S → Prop) (k_K79 : ∀   (σ : ab_S), Wire σ → K79  σ → V l mdX10_readNodes B 4 84 0 0 (ab_End (fun v σ' => Wire σ' ∧ ∃ r : Int32, v = some (.int r) ∧ Q r σ') (fun X σ' => Wire σ' ∧ E X σ')) 79 [(0, .ref 8)] [] σ), ∀ (Bk : Int32 → ab_S → Prop) (k_Bk : ∀ (x1 : Int32)  (σ : ab_S), Wire σ → Bk x1 σ → V l mdX10_readNodes B 4 84 0 0 (ab_End (fun v σ' => Wire σ' ∧ ∃ r : Int32, v = some (.int r) ∧ Q r σ') (fun X σ' => Wire σ' ∧ E X σ')) 7 [(0, .ref 8), (1, .int x1)] [] σ), ∀ (x1 : Int32)  (σ : ab_S), Wire σ → wX10_readNodes_l7_b Q E K79 Bk x1 σ → V l mdX10_readNodes B 4 84 0 0 (ab_End (fun v σ' => Wire σ' ∧ ∃ r : Int32, v = some (.int r) ∧ Q r σ') (fun X σ' => Wire σ' ∧ E X σ')) 7 [(0, .ref 8), (1, .int x1)] [] σ := by
      intro K79 k_K79 Bk k_Bk
      have k_j109 : ∀ (x1 : Int32)  (σ : ab_S), Wire σ → wX10_readNodes_j109 Q E K79 Bk x1 σ → V l mdX10_readNodes B 4 84 0 0 (ab_End (fun v σ' => Wire σ' ∧ ∃ r : Int32, v = some (.int r) ∧ Q r σ') (fun X σ' => Wire σ' ∧ E X σ')) 109 [(0, .ref 8), (1, .int x1)] [] σ := by
        intro x1  σ hW h
        obtain ⟨v1, ev1⟩ : ∃ z : Int32, z = (x1 + 1) := ⟨_, rfl⟩
        replace h := h v1 ev1
        refine V_iinc 57 1 (v := v1) (lv' := [(1, .int v1), (0, .ref 8)]) rfl rfl ((in_1 _).trans ev1.symm) (by decide) rfl ?_
        refine V_goto 58 (tgt := 7) rfl (by decide) ?_
        refine V_sub [1, 0] (lv' := [(0, .ref 8), (1, .int v1)]) rfl ?_
        exact k_Bk v1  σ hW h
      intro x1  σ hW h
      refine V_iload_n 5 1 rfl rfl rfl ?_
      refine V_sipush 6 (v := (250 : Int32)) rfl (by decide) ?_
      refine V_icmp_ge 7 (tgt := 115) rfl (by decide) (fun hc => ?_) (fun hc => ?_)
      · replace h := h.1 hc
        refine V_iconst 59 (v := (0 : Int32)) rfl (by decide) ?_
        exact V_zret 60 rfl rfl rfl ⟨hW, _, rfl, h⟩
      · replace h := h.2 hc
        refine V_pc 14 rfl ?_
        refine V_aload_n 8 0 rfl rfl rfl ?_
        refine V_callV 9 0 (as := []) (rest := []) rfl mlX10_44 yvX10_readHead rfl rfl clX10 (wsh hW rfl) (by decide) (by decide) (Nat.le_of_ble_eq_true rfl) (by decide) (by decide) (fun B9 => ceX10_readHead hl B9 hW h) (fun X9 τ9 h9 => VX_out rfl h9) ?_
        rintro v9 σ2 ⟨hW, u3, rfl, h⟩
        refine V_if_ne 10 (tgt := 23) rfl (by decide) (fun hc => ?_) (fun hc => ?_)
        · replace h := h.1 hc
          refine V_aload_n 13 0 rfl rfl rfl ?_
          obtain ⟨q4, eq4, hq4, h⟩ := h
          refine V_getR 14 1 rfl clX10 flX10_15 (by decide) (wsh hW rfl) (fun _ => rfl) eq4 ?_
          refine V_getR 15 7 rfl clX0 flX10_47 (by decide) (wG hW hq4) (fun _ => rfl) (wG_f7 hW hq4) ?_
          refine V_aload_n 16 0 rfl rfl rfl ?_
          obtain ⟨q5, eq5, hq5, h⟩ := h
          refine V_getR 17 2 rfl clX10 flX10_19 (by decide) (wsh hW rfl) (fun _ => rfl) eq5 ?_
          refine V_getR 18 1 rfl clX9 flX10_53 (by decide) (wT hW hq5) (fun _ => rfl) (wT_f1 hW hq5) ?_
          refine V_pc 37 rfl ?_
          refine V_iload_n 19 1 rfl rfl rfl ?_
          obtain ⟨hin, h⟩ := h
          refine V_iald 20 rfl (wT_a1 hW hq5) hin ?_
          obtain ⟨hin, h⟩ := h
          refine V_iald 21 rfl (wG_a6 hW hq4) hin ?_
          refine V_if_le 22 (tgt := 62) rfl (by decide) (fun hc => ?_) (fun hc => ?_)
          · replace h := h.1 hc
            refine V_aload_n 33 0 rfl rfl rfl ?_
            refine V_callV 34 0 (as := []) (rest := []) rfl mlX10_60 yvX10_closeFull rfl rfl clX10 (wsh hW rfl) (by decide) (by decide) (Nat.le_of_ble_eq_true rfl) (by decide) (by decide) (fun B9 => ceX10_closeFull hl B9 hW h) (fun X9 τ9 h9 => VX_out rfl h9) ?_
            rintro v9 σ6 ⟨hW, u7, rfl, h⟩
            refine V_if_ne 35 (tgt := 71) rfl (by decide) (fun hc => ?_) (fun hc => ?_)
            · replace h := h.1 hc
              refine V_aload_n 38 0 rfl rfl rfl ?_
              refine V_get (v := .int (σ6.2.1 8 3)) 39 3 rfl clX10 flX10_41 (by decide) (wsh hW rfl) (fun _ => rfl) ?_
              refine V_iconst 40 (v := (-1 : Int32)) rfl (by decide) ?_
              refine V_icmp_ne 41 (tgt := 95) rfl (by decide) (fun hc => ?_) (fun hc => ?_)
              · replace h := h.1 hc
                refine V_aload_n 50 0 rfl rfl rfl ?_
                refine V_getR 51 0 rfl clX10 flX10_9 (by decide) (wsh hW rfl) (fun _ => rfl) (wrf hW 17 rfl) ?_
                refine V_bipush 52 (v := (44 : Int32)) rfl (by decide) ?_
                refine V_callV 53 1 (as := [.int (44 : Int32)]) (rest := []) rfl mlX10_56 yvX6_take rfl rfl clX6 (wsh hW rfl) (by decide) (by decide) (Nat.le_of_ble_eq_true rfl) (by decide) (by decide) (fun B9 => ceX6_take hl B9 hW h) (fun X9 τ9 h9 => VX_out rfl h9) ?_
                rintro v9 σ8 ⟨hW, u9, rfl, h⟩
                refine V_if_ne 54 (tgt := 109) rfl (by decide) (fun hc => ?_) (fun hc => ?_)
                · replace h := h.1 hc
                  exact k_j109 x1 σ8 hW h
                · replace h := h.2 hc
                  refine V_pc 107 rfl ?_
                  refine V_iconst 55 (v := (0 : Int32)) rfl (by decide) ?_
                  exact V_zret 56 rfl rfl rfl ⟨hW, _, rfl, h⟩
              · replace h := h.2 hc
                refine V_pc 79 rfl ?_
                refine V_sub [0] (lv' := [(0, .ref 8)]) rfl ?_
                exact k_K79  σ6 hW h
            · replace h := h.2 hc
              refine V_pc 69 rfl ?_
              refine V_iconst 36 (v := (0 : Int32)) rfl (by decide) ?_
              exact V_zret 37 rfl rfl rfl ⟨hW, _, rfl, h⟩
          · replace h := h.2 hc
            refine V_pc 43 rfl ?_
            refine V_aload_n 23 0 rfl rfl rfl ?_
            refine V_iload_n 24 1 rfl rfl rfl ?_
            refine V_putI 25 3 rfl clX10 flX10_41 (by decide) (wsh hW rfl) rfl (fun _ _ => rfl) rfl rfl ?_
            refine V_nm (fun σ10 eσ10 => ?_)
            replace h := h σ10 eσ10
            have hW := wire_I eσ10 hW
            refine V_aload_n 26 0 rfl rfl rfl ?_
            refine V_getR 27 0 rfl clX10 flX10_9 (by decide) (wsh hW rfl) (fun _ => rfl) (wrf hW 17 rfl) ?_
            refine V_bipush 28 (v := (40 : Int32)) rfl (by decide) ?_
            refine V_callV 29 1 (as := [.int (40 : Int32)]) (rest := []) rfl mlX10_56 yvX6_take rfl rfl clX6 (wsh hW rfl) (by decide) (by decide) (Nat.le_of_ble_eq_true rfl) (by decide) (by decide) (fun B9 => ceX6_take hl B9 hW h) (fun X9 τ9 h9 => VX_out rfl h9) ?_
            rintro v9 σ11 ⟨hW, u12, rfl, h⟩
            refine V_if_ne 30 (tgt := 109) rfl (by decide) (fun hc => ?_) (fun hc => ?_)
            · replace h := h.1 hc
              exact k_j109 x1 σ11 hW h
            · replace h := h.2 hc
              refine V_pc 60 rfl ?_
              refine V_iconst 31 (v := (0 : Int32)) rfl (by decide) ?_
              exact V_zret 32 rfl rfl rfl ⟨hW, _, rfl, h⟩
        · replace h := h.2 hc
          refine V_pc 21 rfl ?_
          refine V_iconst 11 (v := (0 : Int32)) rfl (by decide) ?_
          exact V_zret 12 rfl rfl rfl ⟨hW, _, rfl, h⟩
    intro n
    induction n with
    | zero => intro x1  σ hW h; exact absurd h id
    | succ n ih => exact step _ k_j79 _ ih
  intro σ hW h
  refine V_aload_n 0 0 rfl rfl rfl ?_
  refine V_iconst 1 (v := (-1 : Int32)) rfl (by decide) ?_
  refine V_putI 2 3 rfl clX10 flX10_41 (by decide) (wsh hW rfl) rfl (fun _ _ => rfl) rfl rfl ?_
  refine V_nm (fun σ13 eσ13 => ?_)
  replace h := h σ13 eσ13
  have hW := wire_I eσ13 hW
  refine V_iconst 3 (v := (0 : Int32)) rfl (by decide) ?_
  refine V_istore_n 4 (lv' := [(1, .int (0 : Int32)), (0, .ref 8)]) rfl rfl (by decide) rfl ?_
  refine V_sub [1, 0] (lv' := [(0, .ref 8), (1, .int (0 : Int32))]) rfl ?_
  obtain ⟨n, h⟩ := h
  exact k_l7 n (0 : Int32) σ13 hW h

def wX10_read (a0 : Nat) (a1 : Nat) (Q : Int32 → ab_S → Prop) (E : String → ab_S → Prop) (σ : ab_S) : Prop := (∀ σ1 : ab_S, σ1 = ab_R σ 8 1 (some a0) → (∀ σ2 : ab_S, σ2 = ab_R σ1 8 2 (some a1) → (∀ σ3 : ab_S, σ3 = ab_I σ2 a1 0 (0 : Int32) → wX6_open (fun σ4 => wX10_readNodes (fun u6 σ5 => ((u6 = 0) → Q (σ5.2.1 3 7) σ5) ∧ (¬ (u6 = 0) → Q (-1 : Int32) σ5)) E σ4) E σ3)))
set_option maxHeartbeats 4000000 in
set_option maxRecDepth 100000 in
theorem ceX10_read {l : Launch} (hl : l.stackTraces = false) (B : Nat) {a0 : Nat} {a1 : Nat} (ha0 : isG a0) (ha1 : isT a1) {Q : Int32 → ab_S → Prop} {E : String → ab_S → Prop} {σ : ab_S} (hW : Wire σ) (h : wX10_read a0 a1 Q E σ) : ab_Mt l yX10_read mdX10_read B 9 199 0 0 [.ref 8, .ref a0, .ref a1] σ (fun v σ' => Wire σ' ∧ ∃ r : Int32, v = some (.int r) ∧ Q r σ') (fun X σ' => Wire σ' ∧ E X σ') := by
  refine V_met hl ⟨rfl, rfl, by decide⟩ rfl dkX10_read (Nat.le_of_ble_eq_true rfl) ?_
  show V l mdX10_read B 9 199 0 0 (ab_End _ _) 0 [(0, .ref 8), (1, .ref a0), (2, .ref a1)] [] σ
  refine V_aload_n 0 0 rfl rfl rfl ?_
  refine V_aload_n 1 1 rfl rfl rfl ?_
  refine V_putR (x := some a0) 2 1 rfl clX10 flX10_15 (by decide) (wsh hW rfl) rfl (fun _ _ => rfl) (fun v9 h9 => by rcases h9 with rfl | ⟨a9, rfl⟩ <;> exact ⟨rfl, rfl⟩) ?_
  refine V_nm (fun σ1 eσ1 => ?_)
  replace h := h σ1 eσ1
  have hW := wire_R eσ1 (by decide +kernel) hW
  refine V_aload_n 3 0 rfl rfl rfl ?_
  refine V_aload_n 4 2 rfl rfl rfl ?_
  refine V_putR (x := some a1) 5 2 rfl clX10 flX10_19 (by decide) (wsh hW rfl) rfl (fun _ _ => rfl) (fun v9 h9 => by rcases h9 with rfl | ⟨a9, rfl⟩ <;> exact ⟨rfl, rfl⟩) ?_
  refine V_nm (fun σ2 eσ2 => ?_)
  replace h := h σ2 eσ2
  have hW := wire_R eσ2 (by decide +kernel) hW
  refine V_aload_n 6 2 rfl rfl rfl ?_
  refine V_iconst 7 (v := (0 : Int32)) rfl (by decide) ?_
  refine V_putI 8 0 rfl clX9 flX10_23 (by decide) (wT hW ha1) rfl (fun _ _ => rfl) rfl rfl ?_
  refine V_nm (fun σ3 eσ3 => ?_)
  replace h := h σ3 eσ3
  have hW := wire_I eσ3 hW
  refine V_aload_n 9 0 rfl rfl rfl ?_
  refine V_getR 10 0 rfl clX10 flX10_9 (by decide) (wsh hW rfl) (fun _ => rfl) (wrf hW 17 rfl) ?_
  refine V_callV 11 0 (as := []) (rest := []) rfl mlX10_29 yvX6_open rfl rfl clX6 (wsh hW rfl) (by decide) (by decide) (Nat.le_of_ble_eq_true rfl) (by decide) (by decide) (fun B9 => ceX6_open hl B9 hW h) (fun X9 τ9 h9 => VX_out rfl h9) ?_
  rintro v9 σ4 ⟨hW, rfl, h⟩
  refine V_aload_n 12 0 rfl rfl rfl ?_
  refine V_callV 13 0 (as := []) (rest := []) rfl mlX10_34 yvX10_readNodes rfl rfl clX10 (wsh hW rfl) (by decide) (by decide) (Nat.le_of_ble_eq_true rfl) (by decide) (by decide) (fun B9 => ceX10_readNodes hl B9 hW h) (fun X9 τ9 h9 => VX_out rfl h9) ?_
  rintro v9 σ5 ⟨hW, u6, rfl, h⟩
  refine V_if_eq 14 (tgt := 33) rfl (by decide) (fun hc => ?_) (fun hc => ?_)
  · replace h := h.1 hc
    refine V_aload_n 17 0 rfl rfl rfl ?_
    refine V_getR 18 0 rfl clX10 flX10_9 (by decide) (wsh hW rfl) (fun _ => rfl) (wrf hW 17 rfl) ?_
    refine V_get (v := .int (σ5.2.1 3 7)) 19 7 rfl clX6 flX10_38 (by decide) (wsh hW rfl) (fun _ => rfl) ?_
    exact V_iret 20 rfl rfl ⟨hW, _, rfl, h⟩
  · replace h := h.2 hc
    refine V_pc 29 rfl ?_
    refine V_iconst 15 (v := (-1 : Int32)) rfl (by decide) ?_
    refine V_goto 16 (tgt := 40) rfl (by decide) ?_
    exact V_iret 20 rfl rfl ⟨hW, _, rfl, h⟩

def wX11_put_j34 (a0 : Int32) (Q : Int32 → ab_S → Prop) (E : String → ab_S → Prop)  (σ : ab_S) : Prop := E "java/lang/IllegalArgumentException" σ
def wX11_put_j56 (a0 : Int32) (Q : Int32 → ab_S → Prop) (E : String → ab_S → Prop) (x2 : Int32) (σ : ab_S) : Prop := ((((σ.2.1 1 1) + x2) ≤ (2400 : Int32)) → wX8_append a0 (fun σ1 => Q (σ1.2.1 1 1) σ1) E σ) ∧ (¬ (((σ.2.1 1 1) + x2) ≤ (2400 : Int32)) → E "java/lang/UnsupportedOperationException" σ)
def wX11_put_j50 (a0 : Int32) (Q : Int32 → ab_S → Prop) (E : String → ab_S → Prop) (K34 : ab_S → Prop) (K56 : Int32 → ab_S → Prop) (Bk : Int32 → Int32 → ab_S → Prop) (x2 : Int32) (x3 : Int32) (σ : ab_S) : Prop := ∀ v2 : Int32, v2 = (x3 + 1) → Bk x2 v2 σ
def wX11_put_j42 (a0 : Int32) (Q : Int32 → ab_S → Prop) (E : String → ab_S → Prop) (K34 : ab_S → Prop) (K56 : Int32 → ab_S → Prop) (Bk : Int32 → Int32 → ab_S → Prop) (x2 : Int32) (x3 : Int32) (x4 : Int32) (σ : ab_S) : Prop := ((x4 = 0) → wX11_put_j50 a0 Q E K34 K56 Bk x2 x3 σ) ∧ (¬ (x4 = 0) → ∀ v3 : Int32, v3 = (x2 + 1) → wX11_put_j50 a0 Q E K34 K56 Bk v3 x3 σ)
def wX11_put_l4_b (a0 : Int32) (Q : Int32 → ab_S → Prop) (E : String → ab_S → Prop) (K34 : ab_S → Prop) (K56 : Int32 → ab_S → Prop) (Bk : Int32 → Int32 → ab_S → Prop) (x2 : Int32) (x3 : Int32) (σ : ab_S) : Prop := (((4 : Int32) ≤ x3) → K56 x2 σ) ∧ (¬ ((4 : Int32) ≤ x3) → ∀ v4 : Int32, v4 = (((a0.toUInt32 >>> (((8 : Int32) * x3).toUInt32 &&& Int32.toUInt32 31)).toInt32) &&& (255 : Int32)) → ((v4 = 0) → wX11_put_j42 a0 Q E K34 K56 Bk x2 x3 v4 σ) ∧ (¬ (v4 = 0) → wX8_allows v4 (fun u6 σ5 => ((¬ u6 = 0) → wX11_put_j42 a0 Q E K34 K56 Bk x2 x3 v4 σ5) ∧ (¬ (¬ u6 = 0) → K34 σ5)) E σ))
def wX11_put_l4 (a0 : Int32) (Q : Int32 → ab_S → Prop) (E : String → ab_S → Prop) (K34 : ab_S → Prop) (K56 : Int32 → ab_S → Prop) : Nat → Int32 → Int32 → ab_S → Prop
  | 0, _, _, _ => False
  | n + 1, x2, x3, σ => wX11_put_l4_b a0 Q E K34 K56 (wX11_put_l4 a0 Q E K34 K56 n) x2 x3 σ
def wX11_put (a0 : Int32) (Q : Int32 → ab_S → Prop) (E : String → ab_S → Prop) (σ : ab_S) : Prop := ∃ n, wX11_put_l4 a0 Q E (wX11_put_j34 a0 Q E) (wX11_put_j56 a0 Q E) n (0 : Int32) (0 : Int32) σ
set_option maxHeartbeats 4000000 in
set_option maxRecDepth 100000 in
theorem ceX11_put {l : Launch} (hl : l.stackTraces = false) (B : Nat) {a0 : Int32}  {Q : Int32 → ab_S → Prop} {E : String → ab_S → Prop} {σ : ab_S} (hW : Wire σ) (h : wX11_put a0 Q E σ) : ab_Mt l yX11_put mdX11_put B 6 100 1 6 [.ref 0, .int a0] σ (fun v σ' => Wire σ' ∧ ∃ r : Int32, v = some (.int r) ∧ Q r σ') (fun X σ' => Wire σ' ∧ E X σ') := by
  refine V_met hl ⟨rfl, rfl, by decide⟩ rfl dkX11_put (Nat.le_of_ble_eq_true rfl) ?_
  show V l mdX11_put B 6 100 1 6 (ab_End _ _) 0 [(0, .ref 0), (1, .int a0)] [] σ
  revert h hW
  revert σ
  have k_j34 : ∀   (σ : ab_S), Wire σ → wX11_put_j34 a0 Q E  σ → V l mdX11_put B 6 100 1 6 (ab_End (fun v σ' => Wire σ' ∧ ∃ r : Int32, v = some (.int r) ∧ Q r σ') (fun X σ' => Wire σ' ∧ E X σ')) 34 [] [] σ := by
    intro   σ hW h
    exact V_throw 20 rfl rfl rfl rfl xwX11_115_117 (by decide) (Nat.le_of_ble_eq_true rfl) (by decide) (by decide) rfl ⟨hW, h⟩
  have k_j56 : ∀ (x2 : Int32)  (σ : ab_S), Wire σ → wX11_put_j56 a0 Q E x2 σ → V l mdX11_put B 6 100 1 6 (ab_End (fun v σ' => Wire σ' ∧ ∃ r : Int32, v = some (.int r) ∧ Q r σ') (fun X σ' => Wire σ' ∧ E X σ')) 56 [(0, .ref 0), (1, .int a0), (2, .int x2)] [] σ := by
    intro x2  σ hW h
    refine V_aload_n 29 0 rfl rfl rfl ?_
    refine V_getR 30 0 rfl clX11 flX11_14 (by decide) (wsh hW rfl) (fun _ => rfl) (wrf hW 0 rfl) ?_
    refine V_get (v := .int (σ.2.1 1 1)) 31 1 rfl clX8 flX11_118 (by decide) (wsh hW rfl) (fun _ => rfl) ?_
    refine V_iload_n 32 2 rfl rfl rfl ?_
    refine V_iadd 33 rfl ?_
    refine V_sipush 34 (v := (2400 : Int32)) rfl (by decide) ?_
    refine V_pc 68 rfl ?_
    refine V_icmp_le 35 (tgt := 79) rfl (by decide) (fun hc => ?_) (fun hc => ?_)
    · replace h := h.1 hc
      refine V_aload_n 40 0 rfl rfl rfl ?_
      refine V_getR 41 0 rfl clX11 flX11_14 (by decide) (wsh hW rfl) (fun _ => rfl) (wrf hW 0 rfl) ?_
      refine V_iload_n 42 1 rfl rfl rfl ?_
      refine V_callV 43 1 (as := [.int a0]) (rest := []) rfl mlX11_125 yvX8_append rfl rfl clX8 (wsh hW rfl) (by decide) (by decide) (Nat.le_of_ble_eq_true rfl) (by decide) (by decide) (fun B9 => ceX8_append hl B9 hW h) (fun X9 τ9 h9 => VX_out rfl h9) ?_
      rintro v9 σ1 ⟨hW, rfl, h⟩
      refine V_aload_n 44 0 rfl rfl rfl ?_
      refine V_getR 45 0 rfl clX11 flX11_14 (by decide) (wsh hW rfl) (fun _ => rfl) (wrf hW 0 rfl) ?_
      refine V_get (v := .int (σ1.2.1 1 1)) 46 1 rfl clX8 flX11_118 (by decide) (wsh hW rfl) (fun _ => rfl) ?_
      exact V_iret 47 rfl rfl ⟨hW, _, rfl, h⟩
    · replace h := h.2 hc
      refine V_pc 71 rfl ?_
      exact V_throw 36 rfl rfl rfl rfl xwX11_122_124 (by decide) (Nat.le_of_ble_eq_true rfl) (by decide) (by decide) rfl ⟨hW, h⟩
  have k_l4 : ∀ (n : Nat) (x2 : Int32) (x3 : Int32)  (σ : ab_S), Wire σ → wX11_put_l4 a0 Q E (wX11_put_j34 a0 Q E) (wX11_put_j56 a0 Q E) n x2 x3 σ → V l mdX11_put B 6 100 1 6 (ab_End (fun v σ' => Wire σ' ∧ ∃ r : Int32, v = some (.int r) ∧ Q r σ') (fun X σ' => Wire σ' ∧ E X σ')) 4 [(0, .ref 0), (1, .int a0), (2, .int x2), (3, .int x3)] [] σ := by
    have step : ∀ (K34 : ab_S → Prop) (k_K34 : ∀   (σ : ab_S), Wire σ → K34  σ → V l mdX11_put B 6 100 1 6 (ab_End (fun v σ' => Wire σ' ∧ ∃ r : Int32, v = some (.int r) ∧ Q r σ') (fun X σ' => Wire σ' ∧ E X σ')) 34 [] [] σ), ∀ (K56 : Int32 → ab_S → Prop) (k_K56 : ∀ (x2 : Int32)  (σ : ab_S), Wire σ → K56 x2 σ → V l mdX11_put B 6 100 1 6 (ab_End (fun v σ' => Wire σ' ∧ ∃ r : Int32, v = some (.int r) ∧ Q r σ') (fun X σ' => Wire σ' ∧ E X σ')) 56 [(0, .ref 0), (1, .int a0), (2, .int x2)] [] σ), ∀ (Bk : Int32 → Int32 → ab_S → Prop) (k_Bk : ∀ (x2 : Int32) (x3 : Int32)  (σ : ab_S), Wire σ → Bk x2 x3 σ → V l mdX11_put B 6 100 1 6 (ab_End (fun v σ' => Wire σ' ∧ ∃ r : Int32, v = some (.int r) ∧ Q r σ') (fun X σ' => Wire σ' ∧ E X σ')) 4 [(0, .ref 0), (1, .int a0), (2, .int x2), (3, .int x3)] [] σ), ∀ (x2 : Int32) (x3 : Int32)  (σ : ab_S), Wire σ → wX11_put_l4_b a0 Q E K34 K56 Bk x2 x3 σ → V l mdX11_put B 6 100 1 6 (ab_End (fun v σ' => Wire σ' ∧ ∃ r : Int32, v = some (.int r) ∧ Q r σ') (fun X σ' => Wire σ' ∧ E X σ')) 4 [(0, .ref 0), (1, .int a0), (2, .int x2), (3, .int x3)] [] σ := by
      intro K34 k_K34 K56 k_K56 Bk k_Bk
      have k_j50 : ∀ (x2 : Int32) (x3 : Int32)  (σ : ab_S), Wire σ → wX11_put_j50 a0 Q E K34 K56 Bk x2 x3 σ → V l mdX11_put B 6 100 1 6 (ab_End (fun v σ' => Wire σ' ∧ ∃ r : Int32, v = some (.int r) ∧ Q r σ') (fun X σ' => Wire σ' ∧ E X σ')) 50 [(0, .ref 0), (1, .int a0), (2, .int x2), (3, .int x3)] [] σ := by
        intro x2 x3  σ hW h
        obtain ⟨v2, ev2⟩ : ∃ z : Int32, z = (x3 + 1) := ⟨_, rfl⟩
        replace h := h v2 ev2
        refine V_iinc 27 3 (v := v2) (lv' := [(3, .int v2), (0, .ref 0), (1, .int a0), (2, .int x2)]) rfl rfl ((in_1 _).trans ev2.symm) (by decide) rfl ?_
        refine V_goto 28 (tgt := 4) rfl (by decide) ?_
        refine V_sub [1, 2, 3, 0] (lv' := [(0, .ref 0), (1, .int a0), (2, .int x2), (3, .int v2)]) rfl ?_
        exact k_Bk x2 v2  σ hW h
      have k_j42 : ∀ (x2 : Int32) (x3 : Int32) (x4 : Int32)  (σ : ab_S), Wire σ → wX11_put_j42 a0 Q E K34 K56 Bk x2 x3 x4 σ → V l mdX11_put B 6 100 1 6 (ab_End (fun v σ' => Wire σ' ∧ ∃ r : Int32, v = some (.int r) ∧ Q r σ') (fun X σ' => Wire σ' ∧ E X σ')) 42 [(0, .ref 0), (1, .int a0), (2, .int x2), (3, .int x3), (4, .int x4)] [] σ := by
        intro x2 x3 x4  σ hW h
        refine V_iload 24 4 rfl rfl ?_
        refine V_if_eq 25 (tgt := 50) rfl (by decide) (fun hc => ?_) (fun hc => ?_)
        · replace h := h.1 hc
          refine V_sub [0, 1, 2, 3] (lv' := [(0, .ref 0), (1, .int a0), (2, .int x2), (3, .int x3)]) rfl ?_
          exact k_j50 x2 x3 σ hW h
        · replace h := h.2 hc
          refine V_pc 47 rfl ?_
          obtain ⟨v3, ev3⟩ : ∃ z : Int32, z = (x2 + 1) := ⟨_, rfl⟩
          replace h := h v3 ev3
          refine V_iinc 26 2 (v := v3) (lv' := [(2, .int v3), (0, .ref 0), (1, .int a0), (3, .int x3), (4, .int x4)]) rfl rfl ((in_1 _).trans ev3.symm) (by decide) rfl ?_
          refine V_sub [1, 2, 0, 3] (lv' := [(0, .ref 0), (1, .int a0), (2, .int v3), (3, .int x3)]) rfl ?_
          exact k_j50 v3 x3 σ hW h
      intro x2 x3  σ hW h
      refine V_iload_n 4 3 rfl rfl rfl ?_
      refine V_iconst 5 (v := (4 : Int32)) rfl (by decide) ?_
      refine V_icmp_ge 6 (tgt := 56) rfl (by decide) (fun hc => ?_) (fun hc => ?_)
      · replace h := h.1 hc
        refine V_sub [0, 1, 2] (lv' := [(0, .ref 0), (1, .int a0), (2, .int x2)]) rfl ?_
        exact k_K56 x2  σ hW h
      · replace h := h.2 hc
        refine V_pc 9 rfl ?_
        refine V_iload_n 7 1 rfl rfl rfl ?_
        refine V_bipush 8 (v := (8 : Int32)) rfl (by decide) ?_
        refine V_iload_n 9 3 rfl rfl rfl ?_
        refine V_imul 10 rfl ?_
        refine V_iushr 11 rfl ?_
        refine V_sipush 12 (v := (255 : Int32)) rfl (by decide) ?_
        refine V_pc 18 rfl ?_
        refine V_iand 13 rfl ?_
        refine V_topi (fun v4 ev4 => ?_)
        replace h := h v4 ev4
        refine V_istore 14 (lv' := [(4, .int v4), (0, .ref 0), (1, .int a0), (2, .int x2), (3, .int x3)]) rfl (by decide) rfl ?_
        refine V_iload 15 0 rfl rfl ?_
        refine V_if_eq 16 (tgt := 42) rfl (by decide) (fun hc => ?_) (fun hc => ?_)
        · replace h := h.1 hc
          refine V_sub [1, 2, 3, 4, 0] (lv' := [(0, .ref 0), (1, .int a0), (2, .int x2), (3, .int x3), (4, .int v4)]) rfl ?_
          exact k_j42 x2 x3 v4 σ hW h
        · replace h := h.2 hc
          refine V_pc 26 rfl ?_
          refine V_iload 17 0 rfl rfl ?_
          refine V_callS 18 1 (as := [.int v4]) (rest := []) rfl mlX11_111 yvX8_allows rfl rfl (by decide) (by decide) (Nat.le_of_ble_eq_true rfl) (by decide) (by decide) (fun B9 => ceX8_allows hl B9 hW h) (fun X9 τ9 h9 => VX_out rfl h9) ?_
          rintro v9 σ5 ⟨hW, u6, rfl, h⟩
          refine V_if_ne 19 (tgt := 42) rfl (by decide) (fun hc => ?_) (fun hc => ?_)
          · replace h := h.1 hc
            refine V_sub [1, 2, 3, 4, 0] (lv' := [(0, .ref 0), (1, .int a0), (2, .int x2), (3, .int x3), (4, .int v4)]) rfl ?_
            exact k_j42 x2 x3 v4 σ5 hW h
          · replace h := h.2 hc
            refine V_pc 34 rfl ?_
            refine V_sub [] (lv' := []) rfl ?_
            exact k_K34  σ5 hW h
    intro n
    induction n with
    | zero => intro x2 x3  σ hW h; exact absurd h id
    | succ n ih => exact step _ k_j34 _ k_j56 _ ih
  intro σ hW h
  refine V_iconst 0 (v := (0 : Int32)) rfl (by decide) ?_
  refine V_istore_n 1 (lv' := [(2, .int (0 : Int32)), (0, .ref 0), (1, .int a0)]) rfl rfl (by decide) rfl ?_
  refine V_iconst 2 (v := (0 : Int32)) rfl (by decide) ?_
  refine V_istore_n 3 (lv' := [(3, .int (0 : Int32)), (2, .int (0 : Int32)), (0, .ref 0), (1, .int a0)]) rfl rfl (by decide) rfl ?_
  refine V_sub [2, 3, 1, 0] (lv' := [(0, .ref 0), (1, .int a0), (2, .int (0 : Int32)), (3, .int (0 : Int32))]) rfl ?_
  obtain ⟨n, h⟩ := h
  exact k_l4 n (0 : Int32) (0 : Int32) σ hW h

def wX11_end_j15 (a0 : Int32) (Q : ab_S → Prop) (E : String → ab_S → Prop)  (σ : ab_S) : Prop := E "java/lang/IllegalArgumentException" σ
def wX11_end (a0 : Int32) (Q : ab_S → Prop) (E : String → ab_S → Prop) (σ : ab_S) : Prop := ((a0 < 0) → wX11_end_j15 a0 Q E σ) ∧ (¬ (a0 < 0) → ((a0 ≤ (σ.2.1 1 1)) → (∀ σ1 : ab_S, σ1 = ab_I σ 1 1 a0 → Q σ1)) ∧ (¬ (a0 ≤ (σ.2.1 1 1)) → wX11_end_j15 a0 Q E σ))
set_option maxHeartbeats 4000000 in
set_option maxRecDepth 100000 in
theorem ceX11_end {l : Launch} (hl : l.stackTraces = false) (B : Nat) {a0 : Int32}  {Q : ab_S → Prop} {E : String → ab_S → Prop} {σ : ab_S} (hW : Wire σ) (h : wX11_end a0 Q E σ) : ab_Mt l yX11_end mdX11_end B 6 100 1 6 [.ref 0, .int a0] σ (fun v σ' => Wire σ' ∧ v = none ∧ Q σ') (fun X σ' => Wire σ' ∧ E X σ') := by
  refine V_met hl ⟨rfl, rfl, by decide⟩ rfl dkX11_end (Nat.le_of_ble_eq_true rfl) ?_
  show V l mdX11_end B 6 100 1 6 (ab_End _ _) 0 [(0, .ref 0), (1, .int a0)] [] σ
  revert h hW
  revert σ
  have k_j15 : ∀   (σ : ab_S), Wire σ → wX11_end_j15 a0 Q E  σ → V l mdX11_end B 6 100 1 6 (ab_End (fun v σ' => Wire σ' ∧ v = none ∧ Q σ') (fun X σ' => Wire σ' ∧ E X σ')) 15 [] [] σ := by
    intro   σ hW h
    exact V_throw 7 rfl rfl rfl rfl xwX11_115_117 (by decide) (Nat.le_of_ble_eq_true rfl) (by decide) (by decide) rfl ⟨hW, h⟩
  intro σ hW h
  refine V_iload_n 0 1 rfl rfl rfl ?_
  refine V_if_lt 1 (tgt := 15) rfl (by decide) (fun hc => ?_) (fun hc => ?_)
  · replace h := h.1 hc
    refine V_sub [] (lv' := []) rfl ?_
    exact k_j15 σ hW h
  · replace h := h.2 hc
    refine V_pc 4 rfl ?_
    refine V_iload_n 2 1 rfl rfl rfl ?_
    refine V_aload_n 3 0 rfl rfl rfl ?_
    refine V_getR 4 0 rfl clX11 flX11_14 (by decide) (wsh hW rfl) (fun _ => rfl) (wrf hW 0 rfl) ?_
    refine V_get (v := .int (σ.2.1 1 1)) 5 1 rfl clX8 flX11_118 (by decide) (wsh hW rfl) (fun _ => rfl) ?_
    refine V_icmp_le 6 (tgt := 23) rfl (by decide) (fun hc => ?_) (fun hc => ?_)
    · replace h := h.1 hc
      refine V_aload_n 11 0 rfl rfl rfl ?_
      refine V_getR 12 0 rfl clX11 flX11_14 (by decide) (wsh hW rfl) (fun _ => rfl) (wrf hW 0 rfl) ?_
      refine V_iload_n 13 1 rfl rfl rfl ?_
      refine V_putI 14 1 rfl clX8 flX11_118 (by decide) (wsh hW rfl) rfl (fun _ _ => rfl) rfl rfl ?_
      refine V_nm (fun σ1 eσ1 => ?_)
      replace h := h σ1 eσ1
      have hW := wire_I eσ1 hW
      exact V_vret 15 rfl rfl ⟨hW, rfl, h⟩
    · replace h := h.2 hc
      refine V_pc 15 rfl ?_
      refine V_sub [] (lv' := []) rfl ?_
      exact k_j15 σ hW h

def wX11_takeGrammar (a0 : Nat) (Q : ab_S → Prop) (E : String → ab_S → Prop) (σ : ab_S) : Prop := ∃ q1, σ.2.2.2 0 11 = some q1 ∧ isG q1 ∧ ((∀ σ2 : ab_S, σ2 = ab_R σ 0 12 (some q1) → (∀ σ3 : ab_S, σ3 = ab_R σ2 0 11 (some a0) → (∀ σ4 : ab_S, σ4 = ab_I σ3 0 15 (1 : Int32) → (∀ σ5 : ab_S, σ5 = ab_I σ4 0 16 (0 : Int32) → (∀ σ6 : ab_S, σ6 = ab_I σ5 0 17 (0 : Int32) → wX4_make a0 (fun σ7 => wX7_find a0 (fun σ8 => wX5_assemble a0 (fun σ9 => Q σ9) E σ8) E σ7) E σ6))))))
set_option maxHeartbeats 4000000 in
set_option maxRecDepth 100000 in
theorem ceX11_takeGrammar {l : Launch} (hl : l.stackTraces = false) (B : Nat) {a0 : Nat} (ha0 : isG a0) {Q : ab_S → Prop} {E : String → ab_S → Prop} {σ : ab_S} (hW : Wire σ) (h : wX11_takeGrammar a0 Q E σ) : ab_Mt l yX11_takeGrammar mdX11_takeGrammar B 6 150 0 0 [.ref 0, .ref a0] σ (fun v σ' => Wire σ' ∧ v = none ∧ Q σ') (fun X σ' => Wire σ' ∧ E X σ') := by
  refine V_met hl ⟨rfl, rfl, by decide⟩ rfl dkX11_takeGrammar (Nat.le_of_ble_eq_true rfl) ?_
  show V l mdX11_takeGrammar B 6 150 0 0 (ab_End _ _) 0 [(0, .ref 0), (1, .ref a0)] [] σ
  refine V_aload_n 0 0 rfl rfl rfl ?_
  refine V_aload_n 1 0 rfl rfl rfl ?_
  obtain ⟨q1, eq1, hq1, h⟩ := h
  refine V_getR 2 11 rfl clX11 flX11_94 (by decide) (wsh hW rfl) (fun _ => rfl) eq1 ?_
  refine V_putR (x := some q1) 3 12 rfl clX11 flX11_98 (by decide) (wsh hW rfl) rfl (fun _ _ => rfl) (fun v9 h9 => by rcases h9 with rfl | ⟨a9, rfl⟩ <;> exact ⟨rfl, rfl⟩) ?_
  refine V_nm (fun σ2 eσ2 => ?_)
  replace h := h σ2 eσ2
  have hW := wire_R eσ2 (by decide +kernel) hW
  refine V_aload_n 4 0 rfl rfl rfl ?_
  refine V_aload_n 5 1 rfl rfl rfl ?_
  refine V_putR (x := some a0) 6 11 rfl clX11 flX11_94 (by decide) (wsh hW rfl) rfl (fun _ _ => rfl) (fun v9 h9 => by rcases h9 with rfl | ⟨a9, rfl⟩ <;> exact ⟨rfl, rfl⟩) ?_
  refine V_nm (fun σ3 eσ3 => ?_)
  replace h := h σ3 eσ3
  have hW := wire_R eσ3 (by decide +kernel) hW
  refine V_aload_n 7 0 rfl rfl rfl ?_
  refine V_iconst 8 (v := (1 : Int32)) rfl (by decide) ?_
  refine V_putI 9 15 rfl clX11 flX11_149 (by decide) (wsh hW rfl) rfl (fun _ _ => rfl) rfl rfl ?_
  refine V_nm (fun σ4 eσ4 => ?_)
  replace h := h σ4 eσ4
  have hW := wire_I eσ4 hW
  refine V_aload_n 10 0 rfl rfl rfl ?_
  refine V_iconst 11 (v := (0 : Int32)) rfl (by decide) ?_
  refine V_putI 12 16 rfl clX11 flX11_153 (by decide) (wsh hW rfl) rfl (fun _ _ => rfl) rfl rfl ?_
  refine V_nm (fun σ5 eσ5 => ?_)
  replace h := h σ5 eσ5
  have hW := wire_I eσ5 hW
  refine V_aload_n 13 0 rfl rfl rfl ?_
  refine V_iconst 14 (v := (0 : Int32)) rfl (by decide) ?_
  refine V_putI 15 17 rfl clX11 flX11_156 (by decide) (wsh hW rfl) rfl (fun _ _ => rfl) rfl rfl ?_
  refine V_nm (fun σ6 eσ6 => ?_)
  replace h := h σ6 eσ6
  have hW := wire_I eσ6 hW
  refine V_aload_n 16 0 rfl rfl rfl ?_
  refine V_getR 17 4 rfl clX11 flX11_49 (by decide) (wsh hW rfl) (fun _ => rfl) (wrf hW 4 rfl) ?_
  refine V_aload_n 18 1 rfl rfl rfl ?_
  refine V_callV 19 1 (as := [.ref a0]) (rest := []) rfl mlX11_159 yvX4_make rfl rfl clX4 (wsh hW rfl) (by decide) (by decide) (Nat.le_of_ble_eq_true rfl) (by decide) (by decide) (fun B9 => ceX4_make hl B9 ha0 hW h) (fun X9 τ9 h9 => VX_out rfl h9) ?_
  rintro v9 σ7 ⟨hW, rfl, h⟩
  refine V_aload_n 20 0 rfl rfl rfl ?_
  refine V_getR 21 5 rfl clX11 flX11_58 (by decide) (wsh hW rfl) (fun _ => rfl) (wrf hW 5 rfl) ?_
  refine V_aload_n 22 1 rfl rfl rfl ?_
  refine V_callV 23 1 (as := [.ref a0]) (rest := []) rfl mlX11_162 yvX7_find rfl rfl clX7 (wsh hW rfl) (by decide) (by decide) (Nat.le_of_ble_eq_true rfl) (by decide) (by decide) (fun B9 => ceX7_find hl B9 ha0 hW h) (fun X9 τ9 h9 => VX_out rfl h9) ?_
  rintro v9 σ8 ⟨hW, rfl, h⟩
  refine V_aload_n 24 0 rfl rfl rfl ?_
  refine V_getR 25 6 rfl clX11 flX11_67 (by decide) (wsh hW rfl) (fun _ => rfl) (wrf hW 6 rfl) ?_
  refine V_aload_n 26 1 rfl rfl rfl ?_
  refine V_callV 27 1 (as := [.ref a0]) (rest := []) rfl mlX11_165 yvX5_assemble rfl rfl clX5 (wsh hW rfl) (by decide) (by decide) (Nat.le_of_ble_eq_true rfl) (by decide) (by decide) (fun B9 => ceX5_assemble hl B9 ha0 hW h) (fun X9 τ9 h9 => VX_out rfl h9) ?_
  rintro v9 σ9 ⟨hW, rfl, h⟩
  exact V_vret 28 rfl rfl ⟨hW, rfl, h⟩

def wX11_needGrammar  (Q : ab_S → Prop) (E : String → ab_S → Prop) (σ : ab_S) : Prop := ((¬ (σ.2.1 0 15) = 0) → Q σ) ∧ (¬ (¬ (σ.2.1 0 15) = 0) → E "java/lang/IllegalStateException" σ)
set_option maxHeartbeats 4000000 in
set_option maxRecDepth 100000 in
theorem ceX11_needGrammar {l : Launch} (hl : l.stackTraces = false) (B : Nat)   {Q : ab_S → Prop} {E : String → ab_S → Prop} {σ : ab_S} (hW : Wire σ) (h : wX11_needGrammar  Q E σ) : ab_Mt l yX11_needGrammar mdX11_needGrammar B 6 100 1 6 [.ref 0] σ (fun v σ' => Wire σ' ∧ v = none ∧ Q σ') (fun X σ' => Wire σ' ∧ E X σ') := by
  refine V_met hl ⟨rfl, rfl, by decide⟩ rfl dkX11_needGrammar (Nat.le_of_ble_eq_true rfl) ?_
  show V l mdX11_needGrammar B 6 100 1 6 (ab_End _ _) 0 [(0, .ref 0)] [] σ
  refine V_aload_n 0 0 rfl rfl rfl ?_
  refine V_get (v := .int (σ.2.1 0 15)) 1 15 rfl clX11 flX11_149 (by decide) (wsh hW rfl) (fun _ => rfl) ?_
  refine V_if_ne 2 (tgt := 15) rfl (by decide) (fun hc => ?_) (fun hc => ?_)
  · replace h := h.1 hc
    exact V_vret 7 rfl rfl ⟨hW, rfl, h⟩
  · replace h := h.2 hc
    refine V_pc 7 rfl ?_
    exact V_throw 3 rfl rfl rfl rfl xwX11_348_350 (by decide) (Nat.le_of_ble_eq_true rfl) (by decide) (by decide) rfl ⟨hW, h⟩

def wX11_size (a0 : Int32) (Q : Int32 → ab_S → Prop) (E : String → ab_S → Prop) (σ : ab_S) : Prop := wX11_needGrammar (fun σ1 => (a0 = 0 → ∃ q2, σ1.2.2.2 0 11 = some q2 ∧ isG q2 ∧ (Q (σ1.2.1 q2 0) σ1)) ∧ (¬ a0 = 0 → (a0 = 1 → ∃ q3, σ1.2.2.2 0 11 = some q3 ∧ isG q3 ∧ (Q (σ1.2.1 q3 5) σ1)) ∧ (¬ a0 = 1 → E "java/lang/IllegalArgumentException" σ1))) E σ
set_option maxHeartbeats 4000000 in
set_option maxRecDepth 100000 in
theorem ceX11_size {l : Launch} (hl : l.stackTraces = false) (B : Nat) {a0 : Int32}  {Q : Int32 → ab_S → Prop} {E : String → ab_S → Prop} {σ : ab_S} (hW : Wire σ) (h : wX11_size a0 Q E σ) : ab_Mt l yX11_size mdX11_size B 7 120 2 12 [.ref 0, .int a0] σ (fun v σ' => Wire σ' ∧ ∃ r : Int32, v = some (.int r) ∧ Q r σ') (fun X σ' => Wire σ' ∧ E X σ') := by
  refine V_met hl ⟨rfl, rfl, by decide⟩ rfl dkX11_size (Nat.le_of_ble_eq_true rfl) ?_
  show V l mdX11_size B 7 120 2 12 (ab_End _ _) 0 [(0, .ref 0), (1, .int a0)] [] σ
  refine V_aload_n 0 0 rfl rfl rfl ?_
  refine V_callV 1 0 (as := []) (rest := []) rfl mlX11_168 yvX11_needGrammar rfl rfl clX11 (wsh hW rfl) (by decide) (by decide) (Nat.le_of_ble_eq_true rfl) (by decide) (by decide) (fun B9 => ceX11_needGrammar hl B9 hW h) (fun X9 τ9 h9 => VX_out rfl h9) ?_
  rintro v9 σ1 ⟨hW, rfl, h⟩
  refine V_iload_n 2 1 rfl rfl rfl ?_
  by_cases hs0 : a0 = 0
  · replace h := h.1 hs0
    refine V_look 3 (off := 27) (tgt := 32) rfl (by decide) (by rw [hs0]; rfl) (by decide) ?_
    refine V_aload_n 4 0 rfl rfl rfl ?_
    obtain ⟨q2, eq2, hq2, h⟩ := h
    refine V_getR 5 11 rfl clX11 flX11_94 (by decide) (wsh hW rfl) (fun _ => rfl) eq2 ?_
    refine V_get (v := .int (σ1.2.1 q2 0)) 6 0 rfl clX0 flX11_171 (by decide) (wG hW hq2) (fun _ => rfl) ?_
    exact V_iret 7 rfl rfl ⟨hW, _, rfl, h⟩
  · replace h := h.2 hs0
    by_cases hs1 : a0 = 1
    · replace h := h.1 hs1
      refine V_look 3 (off := 35) (tgt := 40) rfl (by decide) (by rw [hs1]; rfl) (by decide) ?_
      refine V_aload_n 8 0 rfl rfl rfl ?_
      obtain ⟨q3, eq3, hq3, h⟩ := h
      refine V_getR 9 11 rfl clX11 flX11_94 (by decide) (wsh hW rfl) (fun _ => rfl) eq3 ?_
      refine V_get (v := .int (σ1.2.1 q3 5)) 10 5 rfl clX0 flX11_174 (by decide) (wG hW hq3) (fun _ => rfl) ?_
      exact V_iret 11 rfl rfl ⟨hW, _, rfl, h⟩
    · replace h := h.2 hs1
      refine V_look 3 (off := 43) (tgt := 48) rfl (by decide) (by refine (lv_osw hs0 (by decide)).trans ?_; refine (lv_osw hs1 (by decide)).trans ?_; rfl) (by decide) ?_
      exact V_throw 12 rfl rfl rfl rfl xwX11_115_117 (by decide) (Nat.le_of_ble_eq_true rfl) (by decide) (by decide) rfl ⟨hW, h⟩

def wX11_needSymbol_j15 (a0 : Int32) (Q : ab_S → Prop) (E : String → ab_S → Prop)  (σ : ab_S) : Prop := E "java/lang/IllegalArgumentException" σ
def wX11_needSymbol (a0 : Int32) (Q : ab_S → Prop) (E : String → ab_S → Prop) (σ : ab_S) : Prop := ((a0 < 0) → wX11_needSymbol_j15 a0 Q E σ) ∧ (¬ (a0 < 0) → ∃ q1, σ.2.2.2 0 11 = some q1 ∧ isG q1 ∧ (((a0 < (σ.2.1 q1 0)) → Q σ) ∧ (¬ (a0 < (σ.2.1 q1 0)) → wX11_needSymbol_j15 a0 Q E σ)))
set_option maxHeartbeats 4000000 in
set_option maxRecDepth 100000 in
theorem ceX11_needSymbol {l : Launch} (hl : l.stackTraces = false) (B : Nat) {a0 : Int32}  {Q : ab_S → Prop} {E : String → ab_S → Prop} {σ : ab_S} (hW : Wire σ) (h : wX11_needSymbol a0 Q E σ) : ab_Mt l yX11_needSymbol mdX11_needSymbol B 6 100 1 6 [.ref 0, .int a0] σ (fun v σ' => Wire σ' ∧ v = none ∧ Q σ') (fun X σ' => Wire σ' ∧ E X σ') := by
  refine V_met hl ⟨rfl, rfl, by decide⟩ rfl dkX11_needSymbol (Nat.le_of_ble_eq_true rfl) ?_
  show V l mdX11_needSymbol B 6 100 1 6 (ab_End _ _) 0 [(0, .ref 0), (1, .int a0)] [] σ
  revert h hW
  revert σ
  have k_j15 : ∀   (σ : ab_S), Wire σ → wX11_needSymbol_j15 a0 Q E  σ → V l mdX11_needSymbol B 6 100 1 6 (ab_End (fun v σ' => Wire σ' ∧ v = none ∧ Q σ') (fun X σ' => Wire σ' ∧ E X σ')) 15 [] [] σ := by
    intro   σ hW h
    exact V_throw 7 rfl rfl rfl rfl xwX11_115_117 (by decide) (Nat.le_of_ble_eq_true rfl) (by decide) (by decide) rfl ⟨hW, h⟩
  intro σ hW h
  refine V_iload_n 0 1 rfl rfl rfl ?_
  refine V_if_lt 1 (tgt := 15) rfl (by decide) (fun hc => ?_) (fun hc => ?_)
  · replace h := h.1 hc
    refine V_sub [] (lv' := []) rfl ?_
    exact k_j15 σ hW h
  · replace h := h.2 hc
    refine V_pc 4 rfl ?_
    refine V_iload_n 2 1 rfl rfl rfl ?_
    refine V_aload_n 3 0 rfl rfl rfl ?_
    obtain ⟨q1, eq1, hq1, h⟩ := h
    refine V_getR 4 11 rfl clX11 flX11_94 (by decide) (wsh hW rfl) (fun _ => rfl) eq1 ?_
    refine V_get (v := .int (σ.2.1 q1 0)) 5 0 rfl clX0 flX11_171 (by decide) (wG hW hq1) (fun _ => rfl) ?_
    refine V_icmp_lt 6 (tgt := 23) rfl (by decide) (fun hc => ?_) (fun hc => ?_)
    · replace h := h.1 hc
      exact V_vret 11 rfl rfl ⟨hW, rfl, h⟩
    · replace h := h.2 hc
      refine V_pc 15 rfl ?_
      refine V_sub [] (lv' := []) rfl ?_
      exact k_j15 σ hW h

def wX11_needAttribute_j22 (a0 : Int32) (a1 : Int32) (Q : ab_S → Prop) (E : String → ab_S → Prop)  (σ : ab_S) : Prop := E "java/lang/IllegalArgumentException" σ
def wX11_needAttribute (a0 : Int32) (a1 : Int32) (Q : ab_S → Prop) (E : String → ab_S → Prop) (σ : ab_S) : Prop := wX11_needSymbol a0 (fun σ1 => ((a1 < 0) → wX11_needAttribute_j22 a0 a1 Q E σ1) ∧ (¬ (a1 < 0) → ∃ q2, σ1.2.2.2 0 11 = some q2 ∧ isG q2 ∧ (vp_in a0 12 ∧ (((a1 < (σ1.2.1 (q2 + 2) a0.toNatClampNeg)) → Q σ1) ∧ (¬ (a1 < (σ1.2.1 (q2 + 2) a0.toNatClampNeg)) → wX11_needAttribute_j22 a0 a1 Q E σ1))))) E σ
set_option maxHeartbeats 4000000 in
set_option maxRecDepth 100000 in
theorem ceX11_needAttribute {l : Launch} (hl : l.stackTraces = false) (B : Nat) {a0 : Int32} {a1 : Int32}  {Q : ab_S → Prop} {E : String → ab_S → Prop} {σ : ab_S} (hW : Wire σ) (h : wX11_needAttribute a0 a1 Q E σ) : ab_Mt l yX11_needAttribute mdX11_needAttribute B 7 121 2 12 [.ref 0, .int a0, .int a1] σ (fun v σ' => Wire σ' ∧ v = none ∧ Q σ') (fun X σ' => Wire σ' ∧ E X σ') := by
  refine V_met hl ⟨rfl, rfl, by decide⟩ rfl dkX11_needAttribute (Nat.le_of_ble_eq_true rfl) ?_
  show V l mdX11_needAttribute B 7 121 2 12 (ab_End _ _) 0 [(0, .ref 0), (1, .int a0), (2, .int a1)] [] σ
  revert h hW
  revert σ
  have k_j22 : ∀   (σ : ab_S), Wire σ → wX11_needAttribute_j22 a0 a1 Q E  σ → V l mdX11_needAttribute B 7 121 1 6 (ab_End (fun v σ' => Wire σ' ∧ v = none ∧ Q σ') (fun X σ' => Wire σ' ∧ E X σ')) 22 [] [] σ := by
    intro   σ hW h
    exact V_throw 12 rfl rfl rfl rfl xwX11_115_117 (by decide) (Nat.le_of_ble_eq_true rfl) (by decide) (by decide) rfl ⟨hW, h⟩
  intro σ hW h
  refine V_aload_n 0 0 rfl rfl rfl ?_
  refine V_iload_n 1 1 rfl rfl rfl ?_
  refine V_callV 2 1 (as := [.int a0]) (rest := []) rfl mlX11_184 yvX11_needSymbol rfl rfl clX11 (wsh hW rfl) (by decide) (by decide) (Nat.le_of_ble_eq_true rfl) (by decide) (by decide) (fun B9 => ceX11_needSymbol hl B9 hW h) (fun X9 τ9 h9 => VX_out rfl h9) ?_
  rintro v9 σ1 ⟨hW, rfl, h⟩
  refine V_iload_n 3 2 rfl rfl rfl ?_
  refine V_if_lt 4 (tgt := 22) rfl (by decide) (fun hc => ?_) (fun hc => ?_)
  · replace h := h.1 hc
    refine V_sub [] (lv' := []) rfl ?_
    exact k_j22 σ1 hW h
  · replace h := h.2 hc
    refine V_pc 9 rfl ?_
    refine V_iload_n 5 2 rfl rfl rfl ?_
    refine V_aload_n 6 0 rfl rfl rfl ?_
    obtain ⟨q2, eq2, hq2, h⟩ := h
    refine V_getR 7 11 rfl clX11 flX11_94 (by decide) (wsh hW rfl) (fun _ => rfl) eq2 ?_
    refine V_getR 8 2 rfl clX0 flX11_328 (by decide) (wG hW hq2) (fun _ => rfl) (wG_f2 hW hq2) ?_
    refine V_iload_n 9 1 rfl rfl rfl ?_
    obtain ⟨hin, h⟩ := h
    refine V_iald 10 rfl (wG_a2 hW hq2) hin ?_
    refine V_pc 19 rfl ?_
    refine V_icmp_lt 11 (tgt := 30) rfl (by decide) (fun hc => ?_) (fun hc => ?_)
    · replace h := h.1 hc
      exact V_vret 16 rfl rfl ⟨hW, rfl, h⟩
    · replace h := h.2 hc
      refine V_pc 22 rfl ?_
      refine V_sub [] (lv' := []) rfl ?_
      exact k_j22 σ1 hW h

def wX11_depends (a0 : Int32) (a1 : Int32) (a2 : Int32) (Q : Int32 → ab_S → Prop) (E : String → ab_S → Prop) (σ : ab_S) : Prop := wX11_needGrammar (fun σ1 => wX11_needAttribute a0 a1 (fun σ2 => wX11_needAttribute a0 a2 (fun σ3 => ∃ q4, σ3.2.2.2 0 11 = some q4 ∧ isG q4 ∧ (vp_in ((a0 * (8 : Int32)) + a1) 96 ∧ (((((((σ3.2.1 (q4 + 15) ((a0 * (8 : Int32)) + a1).toNatClampNeg).toUInt32 >>> (a2.toUInt32 &&& Int32.toUInt32 31)).toInt32) &&& (1 : Int32)) = 0) → Q (0 : Int32) σ3) ∧ (¬ (((((σ3.2.1 (q4 + 15) ((a0 * (8 : Int32)) + a1).toNatClampNeg).toUInt32 >>> (a2.toUInt32 &&& Int32.toUInt32 31)).toInt32) &&& (1 : Int32)) = 0) → Q (1 : Int32) σ3)))) E σ2) E σ1) E σ
set_option maxHeartbeats 4000000 in
set_option maxRecDepth 100000 in
theorem ceX11_depends {l : Launch} (hl : l.stackTraces = false) (B : Nat) {a0 : Int32} {a1 : Int32} {a2 : Int32}  {Q : Int32 → ab_S → Prop} {E : String → ab_S → Prop} {σ : ab_S} (hW : Wire σ) (h : wX11_depends a0 a1 a2 Q E σ) : ab_Mt l yX11_depends mdX11_depends B 8 143 5 30 [.ref 0, .int a0, .int a1, .int a2] σ (fun v σ' => Wire σ' ∧ ∃ r : Int32, v = some (.int r) ∧ Q r σ') (fun X σ' => Wire σ' ∧ E X σ') := by
  refine V_met hl ⟨rfl, rfl, by decide⟩ rfl dkX11_depends (Nat.le_of_ble_eq_true rfl) ?_
  show V l mdX11_depends B 8 143 5 30 (ab_End _ _) 0 [(0, .ref 0), (1, .int a0), (2, .int a1), (3, .int a2)] [] σ
  refine V_aload_n 0 0 rfl rfl rfl ?_
  refine V_callV 1 0 (as := []) (rest := []) rfl mlX11_168 yvX11_needGrammar rfl rfl clX11 (wsh hW rfl) (by decide) (by decide) (Nat.le_of_ble_eq_true rfl) (by decide) (by decide) (fun B9 => ceX11_needGrammar hl B9 hW h) (fun X9 τ9 h9 => VX_out rfl h9) ?_
  rintro v9 σ1 ⟨hW, rfl, h⟩
  refine V_aload_n 2 0 rfl rfl rfl ?_
  refine V_iload_n 3 1 rfl rfl rfl ?_
  refine V_iload_n 4 2 rfl rfl rfl ?_
  refine V_callV 5 2 (as := [.int a0, .int a1]) (rest := []) rfl mlX11_177 yvX11_needAttribute rfl rfl clX11 (wsh hW rfl) (by decide) (by decide) (Nat.le_of_ble_eq_true rfl) (by decide) (by decide) (fun B9 => ceX11_needAttribute hl B9 hW h) (fun X9 τ9 h9 => VX_out rfl h9) ?_
  rintro v9 σ2 ⟨hW, rfl, h⟩
  refine V_aload_n 6 0 rfl rfl rfl ?_
  refine V_iload_n 7 1 rfl rfl rfl ?_
  refine V_iload_n 8 3 rfl rfl rfl ?_
  refine V_callV 9 2 (as := [.int a0, .int a2]) (rest := []) rfl mlX11_177 yvX11_needAttribute rfl rfl clX11 (wsh hW rfl) (by decide) (by decide) (Nat.le_of_ble_eq_true rfl) (by decide) (by decide) (fun B9 => ceX11_needAttribute hl B9 hW h) (fun X9 τ9 h9 => VX_out rfl h9) ?_
  rintro v9 σ3 ⟨hW, rfl, h⟩
  refine V_aload_n 10 0 rfl rfl rfl ?_
  obtain ⟨q4, eq4, hq4, h⟩ := h
  refine V_getR 11 11 rfl clX11 flX11_94 (by decide) (wsh hW rfl) (fun _ => rfl) eq4 ?_
  refine V_getR 12 17 rfl clX0 flX11_181 (by decide) (wG hW hq4) (fun _ => rfl) (wG_f17 hW hq4) ?_
  refine V_iload_n 13 1 rfl rfl rfl ?_
  refine V_bipush 14 (v := (8 : Int32)) rfl (by decide) ?_
  refine V_pc 26 rfl ?_
  refine V_imul 15 rfl ?_
  refine V_iload_n 16 2 rfl rfl rfl ?_
  refine V_iadd 17 rfl ?_
  obtain ⟨hin, h⟩ := h
  refine V_iald 18 rfl (wG_a15 hW hq4) hin ?_
  refine V_iload_n 19 3 rfl rfl rfl ?_
  refine V_iushr 20 rfl ?_
  refine V_pc 32 rfl ?_
  refine V_iconst 21 (v := (1 : Int32)) rfl (by decide) ?_
  refine V_iand 22 rfl ?_
  refine V_if_eq 23 (tgt := 41) rfl (by decide) (fun hc => ?_) (fun hc => ?_)
  · replace h := h.1 hc
    refine V_iconst 26 (v := (0 : Int32)) rfl (by decide) ?_
    exact V_zret 27 rfl rfl rfl ⟨hW, _, rfl, h⟩
  · replace h := h.2 hc
    refine V_pc 37 rfl ?_
    refine V_iconst 24 (v := (1 : Int32)) rfl (by decide) ?_
    refine V_goto 25 (tgt := 42) rfl (by decide) ?_
    exact V_zret 27 rfl rfl rfl ⟨hW, _, rfl, h⟩

def wX11_level (a0 : Int32) (a1 : Int32) (Q : Int32 → ab_S → Prop) (E : String → ab_S → Prop) (σ : ab_S) : Prop := wX11_needGrammar (fun σ1 => wX11_needSymbol a0 (fun σ2 => ((¬ a1 = (-1 : Int32)) → wX11_needAttribute a0 a1 (fun σ3 => ∃ q4, σ3.2.2.2 0 11 = some q4 ∧ isG q4 ∧ (vp_in ((a0 * (8 : Int32)) + a1) 96 ∧ (Q (σ3.2.1 (q4 + 16) ((a0 * (8 : Int32)) + a1).toNatClampNeg) σ3))) E σ2) ∧ (¬ (¬ a1 = (-1 : Int32)) → ∃ q5, σ2.2.2.2 0 11 = some q5 ∧ isG q5 ∧ (vp_in a0 12 ∧ (Q (σ2.2.1 (q5 + 17) a0.toNatClampNeg) σ2)))) E σ1) E σ
set_option maxHeartbeats 4000000 in
set_option maxRecDepth 100000 in
theorem ceX11_level {l : Launch} (hl : l.stackTraces = false) (B : Nat) {a0 : Int32} {a1 : Int32}  {Q : Int32 → ab_S → Prop} {E : String → ab_S → Prop} {σ : ab_S} (hW : Wire σ) (h : wX11_level a0 a1 Q E σ) : ab_Mt l yX11_level mdX11_level B 8 143 4 24 [.ref 0, .int a0, .int a1] σ (fun v σ' => Wire σ' ∧ ∃ r : Int32, v = some (.int r) ∧ Q r σ') (fun X σ' => Wire σ' ∧ E X σ') := by
  refine V_met hl ⟨rfl, rfl, by decide⟩ rfl dkX11_level (Nat.le_of_ble_eq_true rfl) ?_
  show V l mdX11_level B 8 143 4 24 (ab_End _ _) 0 [(0, .ref 0), (1, .int a0), (2, .int a1)] [] σ
  refine V_aload_n 0 0 rfl rfl rfl ?_
  refine V_callV 1 0 (as := []) (rest := []) rfl mlX11_168 yvX11_needGrammar rfl rfl clX11 (wsh hW rfl) (by decide) (by decide) (Nat.le_of_ble_eq_true rfl) (by decide) (by decide) (fun B9 => ceX11_needGrammar hl B9 hW h) (fun X9 τ9 h9 => VX_out rfl h9) ?_
  rintro v9 σ1 ⟨hW, rfl, h⟩
  refine V_aload_n 2 0 rfl rfl rfl ?_
  refine V_iload_n 3 1 rfl rfl rfl ?_
  refine V_callV 4 1 (as := [.int a0]) (rest := []) rfl mlX11_184 yvX11_needSymbol rfl rfl clX11 (wsh hW rfl) (by decide) (by decide) (Nat.le_of_ble_eq_true rfl) (by decide) (by decide) (fun B9 => ceX11_needSymbol hl B9 hW h) (fun X9 τ9 h9 => VX_out rfl h9) ?_
  rintro v9 σ2 ⟨hW, rfl, h⟩
  refine V_iload_n 5 2 rfl rfl rfl ?_
  refine V_iconst 6 (v := (-1 : Int32)) rfl (by decide) ?_
  refine V_icmp_ne 7 (tgt := 24) rfl (by decide) (fun hc => ?_) (fun hc => ?_)
  · replace h := h.1 hc
    refine V_aload_n 14 0 rfl rfl rfl ?_
    refine V_iload_n 15 1 rfl rfl rfl ?_
    refine V_iload_n 16 2 rfl rfl rfl ?_
    refine V_callV 17 2 (as := [.int a0, .int a1]) (rest := []) rfl mlX11_177 yvX11_needAttribute rfl rfl clX11 (wsh hW rfl) (by decide) (by decide) (Nat.le_of_ble_eq_true rfl) (by decide) (by decide) (fun B9 => ceX11_needAttribute hl B9 hW h) (fun X9 τ9 h9 => VX_out rfl h9) ?_
    rintro v9 σ3 ⟨hW, rfl, h⟩
    refine V_aload_n 18 0 rfl rfl rfl ?_
    obtain ⟨q4, eq4, hq4, h⟩ := h
    refine V_getR 19 11 rfl clX11 flX11_94 (by decide) (wsh hW rfl) (fun _ => rfl) eq4 ?_
    refine V_getR 20 18 rfl clX0 flX11_190 (by decide) (wG hW hq4) (fun _ => rfl) (wG_f18 hW hq4) ?_
    refine V_iload_n 21 1 rfl rfl rfl ?_
    refine V_bipush 22 (v := (8 : Int32)) rfl (by decide) ?_
    refine V_pc 40 rfl ?_
    refine V_imul 23 rfl ?_
    refine V_iload_n 24 2 rfl rfl rfl ?_
    refine V_iadd 25 rfl ?_
    obtain ⟨hin, h⟩ := h
    refine V_iald 26 rfl (wG_a16 hW hq4) hin ?_
    exact V_iret 27 rfl rfl ⟨hW, _, rfl, h⟩
  · replace h := h.2 hc
    refine V_pc 14 rfl ?_
    refine V_aload_n 8 0 rfl rfl rfl ?_
    obtain ⟨q5, eq5, hq5, h⟩ := h
    refine V_getR 9 11 rfl clX11 flX11_94 (by decide) (wsh hW rfl) (fun _ => rfl) eq5 ?_
    refine V_getR 10 19 rfl clX0 flX11_187 (by decide) (wG hW hq5) (fun _ => rfl) (wG_f19 hW hq5) ?_
    refine V_iload_n 11 1 rfl rfl rfl ?_
    obtain ⟨hin, h⟩ := h
    refine V_iald 12 rfl (wG_a17 hW hq5) hin ?_
    exact V_iret 13 rfl rfl ⟨hW, _, rfl, h⟩

def wX11_needVisit_j23 (a0 : Int32) (a1 : Int32) (Q : ab_S → Prop) (E : String → ab_S → Prop)  (σ : ab_S) : Prop := E "java/lang/IllegalArgumentException" σ
def wX11_needVisit (a0 : Int32) (a1 : Int32) (Q : ab_S → Prop) (E : String → ab_S → Prop) (σ : ab_S) : Prop := wX11_needSymbol a0 (fun σ1 => ((a1 < (1 : Int32)) → wX11_needVisit_j23 a0 a1 Q E σ1) ∧ (¬ (a1 < (1 : Int32)) → ∃ q2, σ1.2.2.2 0 11 = some q2 ∧ isG q2 ∧ (vp_in a0 12 ∧ (((a1 ≤ (σ1.2.1 (q2 + 17) a0.toNatClampNeg)) → Q σ1) ∧ (¬ (a1 ≤ (σ1.2.1 (q2 + 17) a0.toNatClampNeg)) → wX11_needVisit_j23 a0 a1 Q E σ1))))) E σ
set_option maxHeartbeats 4000000 in
set_option maxRecDepth 100000 in
theorem ceX11_needVisit {l : Launch} (hl : l.stackTraces = false) (B : Nat) {a0 : Int32} {a1 : Int32}  {Q : ab_S → Prop} {E : String → ab_S → Prop} {σ : ab_S} (hW : Wire σ) (h : wX11_needVisit a0 a1 Q E σ) : ab_Mt l yX11_needVisit mdX11_needVisit B 7 121 2 12 [.ref 0, .int a0, .int a1] σ (fun v σ' => Wire σ' ∧ v = none ∧ Q σ') (fun X σ' => Wire σ' ∧ E X σ') := by
  refine V_met hl ⟨rfl, rfl, by decide⟩ rfl dkX11_needVisit (Nat.le_of_ble_eq_true rfl) ?_
  show V l mdX11_needVisit B 7 121 2 12 (ab_End _ _) 0 [(0, .ref 0), (1, .int a0), (2, .int a1)] [] σ
  revert h hW
  revert σ
  have k_j23 : ∀   (σ : ab_S), Wire σ → wX11_needVisit_j23 a0 a1 Q E  σ → V l mdX11_needVisit B 7 121 1 6 (ab_End (fun v σ' => Wire σ' ∧ v = none ∧ Q σ') (fun X σ' => Wire σ' ∧ E X σ')) 23 [] [] σ := by
    intro   σ hW h
    exact V_throw 13 rfl rfl rfl rfl xwX11_115_117 (by decide) (Nat.le_of_ble_eq_true rfl) (by decide) (by decide) rfl ⟨hW, h⟩
  intro σ hW h
  refine V_aload_n 0 0 rfl rfl rfl ?_
  refine V_iload_n 1 1 rfl rfl rfl ?_
  refine V_callV 2 1 (as := [.int a0]) (rest := []) rfl mlX11_184 yvX11_needSymbol rfl rfl clX11 (wsh hW rfl) (by decide) (by decide) (Nat.le_of_ble_eq_true rfl) (by decide) (by decide) (fun B9 => ceX11_needSymbol hl B9 hW h) (fun X9 τ9 h9 => VX_out rfl h9) ?_
  rintro v9 σ1 ⟨hW, rfl, h⟩
  refine V_iload_n 3 2 rfl rfl rfl ?_
  refine V_iconst 4 (v := (1 : Int32)) rfl (by decide) ?_
  refine V_icmp_lt 5 (tgt := 23) rfl (by decide) (fun hc => ?_) (fun hc => ?_)
  · replace h := h.1 hc
    refine V_sub [] (lv' := []) rfl ?_
    exact k_j23 σ1 hW h
  · replace h := h.2 hc
    refine V_pc 10 rfl ?_
    refine V_iload_n 6 2 rfl rfl rfl ?_
    refine V_aload_n 7 0 rfl rfl rfl ?_
    obtain ⟨q2, eq2, hq2, h⟩ := h
    refine V_getR 8 11 rfl clX11 flX11_94 (by decide) (wsh hW rfl) (fun _ => rfl) eq2 ?_
    refine V_getR 9 19 rfl clX0 flX11_187 (by decide) (wG hW hq2) (fun _ => rfl) (wG_f19 hW hq2) ?_
    refine V_iload_n 10 1 rfl rfl rfl ?_
    obtain ⟨hin, h⟩ := h
    refine V_iald 11 rfl (wG_a17 hW hq2) hin ?_
    refine V_pc 20 rfl ?_
    refine V_icmp_le 12 (tgt := 31) rfl (by decide) (fun hc => ?_) (fun hc => ?_)
    · replace h := h.1 hc
      exact V_vret 17 rfl rfl ⟨hW, rfl, h⟩
    · replace h := h.2 hc
      refine V_pc 23 rfl ?_
      refine V_sub [] (lv' := []) rfl ?_
      exact k_j23 σ1 hW h

def wX11_needPlan_j15 (a0 : Int32) (a1 : Int32) (Q : ab_S → Prop) (E : String → ab_S → Prop)  (σ : ab_S) : Prop := E "java/lang/IllegalArgumentException" σ
def wX11_needPlan (a0 : Int32) (a1 : Int32) (Q : ab_S → Prop) (E : String → ab_S → Prop) (σ : ab_S) : Prop := ((a0 < 0) → wX11_needPlan_j15 a0 a1 Q E σ) ∧ (¬ (a0 < 0) → ∃ q1, σ.2.2.2 0 11 = some q1 ∧ isG q1 ∧ (((a0 < (σ.2.1 q1 5)) → ∃ q2, σ.2.2.2 0 11 = some q2 ∧ isG q2 ∧ (wX0_symbolAt q2 a0 (0 : Int32) (fun u4 σ3 => wX11_needVisit u4 a1 (fun σ5 => Q σ5) E σ3) E σ)) ∧ (¬ (a0 < (σ.2.1 q1 5)) → wX11_needPlan_j15 a0 a1 Q E σ)))
set_option maxHeartbeats 4000000 in
set_option maxRecDepth 100000 in
theorem ceX11_needPlan {l : Launch} (hl : l.stackTraces = false) (B : Nat) {a0 : Int32} {a1 : Int32}  {Q : ab_S → Prop} {E : String → ab_S → Prop} {σ : ab_S} (hW : Wire σ) (h : wX11_needPlan a0 a1 Q E σ) : ab_Mt l yX11_needPlan mdX11_needPlan B 8 143 2 12 [.ref 0, .int a0, .int a1] σ (fun v σ' => Wire σ' ∧ v = none ∧ Q σ') (fun X σ' => Wire σ' ∧ E X σ') := by
  refine V_met hl ⟨rfl, rfl, by decide⟩ rfl dkX11_needPlan (Nat.le_of_ble_eq_true rfl) ?_
  show V l mdX11_needPlan B 8 143 2 12 (ab_End _ _) 0 [(0, .ref 0), (1, .int a0), (2, .int a1)] [] σ
  revert h hW
  revert σ
  have k_j15 : ∀   (σ : ab_S), Wire σ → wX11_needPlan_j15 a0 a1 Q E  σ → V l mdX11_needPlan B 8 143 1 6 (ab_End (fun v σ' => Wire σ' ∧ v = none ∧ Q σ') (fun X σ' => Wire σ' ∧ E X σ')) 15 [] [] σ := by
    intro   σ hW h
    exact V_throw 7 rfl rfl rfl rfl xwX11_115_117 (by decide) (Nat.le_of_ble_eq_true rfl) (by decide) (by decide) rfl ⟨hW, h⟩
  intro σ hW h
  refine V_iload_n 0 1 rfl rfl rfl ?_
  refine V_if_lt 1 (tgt := 15) rfl (by decide) (fun hc => ?_) (fun hc => ?_)
  · replace h := h.1 hc
    refine V_sub [] (lv' := []) rfl ?_
    refine V_less (kc' := 1) (ks' := 6) (by decide) (by decide) ?_
    exact k_j15 σ hW h
  · replace h := h.2 hc
    refine V_pc 4 rfl ?_
    refine V_iload_n 2 1 rfl rfl rfl ?_
    refine V_aload_n 3 0 rfl rfl rfl ?_
    obtain ⟨q1, eq1, hq1, h⟩ := h
    refine V_getR 4 11 rfl clX11 flX11_94 (by decide) (wsh hW rfl) (fun _ => rfl) eq1 ?_
    refine V_get (v := .int (σ.2.1 q1 5)) 5 5 rfl clX0 flX11_174 (by decide) (wG hW hq1) (fun _ => rfl) ?_
    refine V_icmp_lt 6 (tgt := 23) rfl (by decide) (fun hc => ?_) (fun hc => ?_)
    · replace h := h.1 hc
      refine V_aload_n 11 0 rfl rfl rfl ?_
      refine V_aload_n 12 0 rfl rfl rfl ?_
      obtain ⟨q2, eq2, hq2, h⟩ := h
      refine V_getR 13 11 rfl clX11 flX11_94 (by decide) (wsh hW rfl) (fun _ => rfl) eq2 ?_
      refine V_iload_n 14 1 rfl rfl rfl ?_
      refine V_iconst 15 (v := (0 : Int32)) rfl (by decide) ?_
      refine V_callV 16 2 (as := [.int a0, .int (0 : Int32)]) (rest := [.ref 0]) rfl mlX11_325 yvX0_symbolAt rfl rfl clX0 (wG hW hq2) (by decide) (by decide) (Nat.le_of_ble_eq_true rfl) (by decide) (by decide) (fun B9 => ceX0_symbolAt hl B9 hq2 hW h) (fun X9 τ9 h9 => VX_out rfl h9) ?_
      rintro v9 σ3 ⟨hW, u4, rfl, h⟩
      refine V_iload_n 17 2 rfl rfl rfl ?_
      refine V_callV 18 2 (as := [.int u4, .int a1]) (rest := []) rfl mlX11_275 yvX11_needVisit rfl rfl clX11 (wsh hW rfl) (by decide) (by decide) (Nat.le_of_ble_eq_true rfl) (by decide) (by decide) (fun B9 => ceX11_needVisit hl B9 hW h) (fun X9 τ9 h9 => VX_out rfl h9) ?_
      rintro v9 σ5 ⟨hW, rfl, h⟩
      exact V_vret 19 rfl rfl ⟨hW, rfl, h⟩
    · replace h := h.2 hc
      refine V_pc 15 rfl ?_
      refine V_sub [] (lv' := []) rfl ?_
      refine V_less (kc' := 1) (ks' := 6) (by decide) (by decide) ?_
      exact k_j15 σ hW h

def wX11_plan (a0 : Int32) (a1 : Int32) (a2 : Int32) (Q : Int32 → ab_S → Prop) (E : String → ab_S → Prop) (σ : ab_S) : Prop := wX11_needGrammar (fun σ1 => wX11_needPlan a0 a1 (fun σ2 => ((0 ≤ a2) → wX4_first a0 a1 (fun u4 σ3 => wX4_first a0 (a1 + (1 : Int32)) (fun u6 σ5 => (((u6 - u4) ≤ a2) → Q (-1 : Int32) σ5) ∧ (¬ ((u6 - u4) ≤ a2) → vp_in (u4 + a2) 1410 ∧ (Q (σ5.2.1 12 (u4 + a2).toNatClampNeg) σ5))) E σ3) E σ2) ∧ (¬ (0 ≤ a2) → E "java/lang/IllegalArgumentException" σ2)) E σ1) E σ
set_option maxHeartbeats 4000000 in
set_option maxRecDepth 100000 in
theorem ceX11_plan {l : Launch} (hl : l.stackTraces = false) (B : Nat) {a0 : Int32} {a1 : Int32} {a2 : Int32}  {Q : Int32 → ab_S → Prop} {E : String → ab_S → Prop} {σ : ab_S} (hW : Wire σ) (h : wX11_plan a0 a1 a2 Q E σ) : ab_Mt l yX11_plan mdX11_plan B 9 165 4 24 [.ref 0, .int a0, .int a1, .int a2] σ (fun v σ' => Wire σ' ∧ ∃ r : Int32, v = some (.int r) ∧ Q r σ') (fun X σ' => Wire σ' ∧ E X σ') := by
  refine V_met hl ⟨rfl, rfl, by decide⟩ rfl dkX11_plan (Nat.le_of_ble_eq_true rfl) ?_
  show V l mdX11_plan B 9 165 4 24 (ab_End _ _) 0 [(0, .ref 0), (1, .int a0), (2, .int a1), (3, .int a2)] [] σ
  refine V_aload_n 0 0 rfl rfl rfl ?_
  refine V_callV 1 0 (as := []) (rest := []) rfl mlX11_168 yvX11_needGrammar rfl rfl clX11 (wsh hW rfl) (by decide) (by decide) (Nat.le_of_ble_eq_true rfl) (by decide) (by decide) (fun B9 => ceX11_needGrammar hl B9 hW h) (fun X9 τ9 h9 => VX_out rfl h9) ?_
  rintro v9 σ1 ⟨hW, rfl, h⟩
  refine V_aload_n 2 0 rfl rfl rfl ?_
  refine V_iload_n 3 1 rfl rfl rfl ?_
  refine V_iload_n 4 2 rfl rfl rfl ?_
  refine V_callV 5 2 (as := [.int a0, .int a1]) (rest := []) rfl mlX11_193 yvX11_needPlan rfl rfl clX11 (wsh hW rfl) (by decide) (by decide) (Nat.le_of_ble_eq_true rfl) (by decide) (by decide) (fun B9 => ceX11_needPlan hl B9 hW h) (fun X9 τ9 h9 => VX_out rfl h9) ?_
  rintro v9 σ2 ⟨hW, rfl, h⟩
  refine V_iload_n 6 3 rfl rfl rfl ?_
  refine V_if_ge 7 (tgt := 22) rfl (by decide) (fun hc => ?_) (fun hc => ?_)
  · replace h := h.1 hc
    refine V_aload_n 12 0 rfl rfl rfl ?_
    refine V_getR 13 4 rfl clX11 flX11_49 (by decide) (wsh hW rfl) (fun _ => rfl) (wrf hW 4 rfl) ?_
    refine V_iload_n 14 1 rfl rfl rfl ?_
    refine V_iload_n 15 2 rfl rfl rfl ?_
    refine V_callV 16 2 (as := [.int a0, .int a1]) (rest := []) rfl mlX11_196 yvX4_first rfl rfl clX4 (wsh hW rfl) (by decide) (by decide) (Nat.le_of_ble_eq_true rfl) (by decide) (by decide) (fun B9 => ceX4_first hl B9 hW h) (fun X9 τ9 h9 => VX_out rfl h9) ?_
    rintro v9 σ3 ⟨hW, u4, rfl, h⟩
    refine V_istore 17 (lv' := [(4, .int u4), (0, .ref 0), (1, .int a0), (2, .int a1), (3, .int a2)]) rfl (by decide) rfl ?_
    refine V_iload_n 18 4 rfl rfl rfl ?_
    refine V_aload_n 19 1 rfl rfl rfl ?_
    refine V_getR 20 4 rfl clX11 flX11_49 (by decide) (wsh hW rfl) (fun _ => rfl) (wrf hW 4 rfl) ?_
    refine V_iload_n 21 2 rfl rfl rfl ?_
    refine V_pc 39 rfl ?_
    refine V_iload_n 22 3 rfl rfl rfl ?_
    refine V_iconst 23 (v := (1 : Int32)) rfl (by decide) ?_
    refine V_iadd 24 rfl ?_
    refine V_callV 25 2 (as := [.int a0, .int (a1 + (1 : Int32))]) (rest := [.int a2]) rfl mlX11_196 yvX4_first rfl rfl clX4 (wsh hW rfl) (by decide) (by decide) (Nat.le_of_ble_eq_true rfl) (by decide) (by decide) (fun B9 => ceX4_first hl B9 hW h) (fun X9 τ9 h9 => VX_out rfl h9) ?_
    rintro v9 σ5 ⟨hW, u6, rfl, h⟩
    refine V_iload 26 0 rfl rfl ?_
    refine V_isub 27 rfl ?_
    refine V_icmp_ge 28 (tgt := 66) rfl (by decide) (fun hc => ?_) (fun hc => ?_)
    · replace h := h.1 hc
      refine V_iconst 37 (v := (-1 : Int32)) rfl (by decide) ?_
      exact V_iret 38 rfl rfl ⟨hW, _, rfl, h⟩
    · replace h := h.2 hc
      refine V_pc 51 rfl ?_
      refine V_aload_n 29 1 rfl rfl rfl ?_
      refine V_getR 30 4 rfl clX11 flX11_49 (by decide) (wsh hW rfl) (fun _ => rfl) (wrf hW 4 rfl) ?_
      refine V_getR 31 0 rfl clX4 flX11_200 (by decide) (wsh hW rfl) (fun _ => rfl) (wrf hW 19 rfl) ?_
      refine V_iload 32 0 rfl rfl ?_
      refine V_iload_n 33 4 rfl rfl rfl ?_
      refine V_iadd 34 rfl ?_
      refine V_pc 62 rfl ?_
      obtain ⟨hin, h⟩ := h
      refine V_iald 35 rfl (wsh hW rfl) hin ?_
      refine V_goto 36 (tgt := 67) rfl (by decide) ?_
      exact V_iret 38 rfl rfl ⟨hW, _, rfl, h⟩
  · replace h := h.2 hc
    refine V_pc 14 rfl ?_
    exact V_throw 8 rfl rfl rfl rfl xwX11_115_117 (by decide) (Nat.le_of_ble_eq_true rfl) (by decide) (by decide) rfl ⟨hW, h⟩

def wX11_store (a0 : Int32) (a1 : Int32) (Q : Int32 → ab_S → Prop) (E : String → ab_S → Prop) (σ : ab_S) : Prop := wX11_needGrammar (fun σ1 => wX11_needAttribute a0 a1 (fun σ2 => vp_in ((a0 * (8 : Int32)) + a1) 96 ∧ (Q (σ2.2.1 21 ((a0 * (8 : Int32)) + a1).toNatClampNeg) σ2)) E σ1) E σ
set_option maxHeartbeats 4000000 in
set_option maxRecDepth 100000 in
theorem ceX11_store {l : Launch} (hl : l.stackTraces = false) (B : Nat) {a0 : Int32} {a1 : Int32}  {Q : Int32 → ab_S → Prop} {E : String → ab_S → Prop} {σ : ab_S} (hW : Wire σ) (h : wX11_store a0 a1 Q E σ) : ab_Mt l yX11_store mdX11_store B 8 143 3 18 [.ref 0, .int a0, .int a1] σ (fun v σ' => Wire σ' ∧ ∃ r : Int32, v = some (.int r) ∧ Q r σ') (fun X σ' => Wire σ' ∧ E X σ') := by
  refine V_met hl ⟨rfl, rfl, by decide⟩ rfl dkX11_store (Nat.le_of_ble_eq_true rfl) ?_
  show V l mdX11_store B 8 143 3 18 (ab_End _ _) 0 [(0, .ref 0), (1, .int a0), (2, .int a1)] [] σ
  refine V_aload_n 0 0 rfl rfl rfl ?_
  refine V_callV 1 0 (as := []) (rest := []) rfl mlX11_168 yvX11_needGrammar rfl rfl clX11 (wsh hW rfl) (by decide) (by decide) (Nat.le_of_ble_eq_true rfl) (by decide) (by decide) (fun B9 => ceX11_needGrammar hl B9 hW h) (fun X9 τ9 h9 => VX_out rfl h9) ?_
  rintro v9 σ1 ⟨hW, rfl, h⟩
  refine V_aload_n 2 0 rfl rfl rfl ?_
  refine V_iload_n 3 1 rfl rfl rfl ?_
  refine V_iload_n 4 2 rfl rfl rfl ?_
  refine V_callV 5 2 (as := [.int a0, .int a1]) (rest := []) rfl mlX11_177 yvX11_needAttribute rfl rfl clX11 (wsh hW rfl) (by decide) (by decide) (Nat.le_of_ble_eq_true rfl) (by decide) (by decide) (fun B9 => ceX11_needAttribute hl B9 hW h) (fun X9 τ9 h9 => VX_out rfl h9) ?_
  rintro v9 σ2 ⟨hW, rfl, h⟩
  refine V_aload_n 6 0 rfl rfl rfl ?_
  refine V_getR 7 5 rfl clX11 flX11_58 (by decide) (wsh hW rfl) (fun _ => rfl) (wrf hW 5 rfl) ?_
  refine V_getR 8 3 rfl clX7 flX11_203 (by decide) (wsh hW rfl) (fun _ => rfl) (wrf hW 28 rfl) ?_
  refine V_iload_n 9 1 rfl rfl rfl ?_
  refine V_bipush 10 (v := (8 : Int32)) rfl (by decide) ?_
  refine V_pc 20 rfl ?_
  refine V_imul 11 rfl ?_
  refine V_iload_n 12 2 rfl rfl rfl ?_
  refine V_iadd 13 rfl ?_
  obtain ⟨hin, h⟩ := h
  refine V_iald 14 rfl (wsh hW rfl) hin ?_
  exact V_iret 15 rfl rfl ⟨hW, _, rfl, h⟩

def wX11_evaluate  (Q : ab_S → Prop) (E : String → ab_S → Prop) (σ : ab_S) : Prop := ∃ q1, σ.2.2.2 0 11 = some q1 ∧ isG q1 ∧ (∃ q2, σ.2.2.2 0 13 = some q2 ∧ isT q2 ∧ (wX2_restart 28 q1 q2 (fun σ3 => wX2_run 28 (750000 : Int32) (fun u5 σ4 => Q σ4) E σ3) E σ))
set_option maxHeartbeats 4000000 in
set_option maxRecDepth 100000 in
theorem ceX11_evaluate {l : Launch} (hl : l.stackTraces = false) (B : Nat)   {Q : ab_S → Prop} {E : String → ab_S → Prop} {σ : ab_S} (hW : Wire σ) (h : wX11_evaluate  Q E σ) : ab_Mt l yX11_evaluate mdX11_evaluate B 5 115 0 0 [.ref 0] σ (fun v σ' => Wire σ' ∧ v = none ∧ Q σ') (fun X σ' => Wire σ' ∧ E X σ') := by
  refine V_met hl ⟨rfl, rfl, by decide⟩ rfl dkX11_evaluate (Nat.le_of_ble_eq_true rfl) ?_
  show V l mdX11_evaluate B 5 115 0 0 (ab_End _ _) 0 [(0, .ref 0)] [] σ
  refine V_aload_n 0 0 rfl rfl rfl ?_
  refine V_getR 1 7 rfl clX11 flX11_76 (by decide) (wsh hW rfl) (fun _ => rfl) (wrf hW 7 rfl) ?_
  refine V_aload_n 2 0 rfl rfl rfl ?_
  obtain ⟨q1, eq1, hq1, h⟩ := h
  refine V_getR 3 11 rfl clX11 flX11_94 (by decide) (wsh hW rfl) (fun _ => rfl) eq1 ?_
  refine V_aload_n 4 0 rfl rfl rfl ?_
  obtain ⟨q2, eq2, hq2, h⟩ := h
  refine V_getR 5 13 rfl clX11 flX11_104 (by decide) (wsh hW rfl) (fun _ => rfl) eq2 ?_
  refine V_pc 12 rfl ?_
  refine V_callV 6 2 (as := [.ref q1, .ref q2]) (rest := []) rfl mlX11_293 yvX2_restart rfl rfl clX2 (wsh hW rfl) (by decide) (by decide) (Nat.le_of_ble_eq_true rfl) (by decide) (by decide) (fun B9 => ceX2_restart hl B9 (Or.inl rfl) hq1 hq2 hW h) (fun X9 τ9 h9 => VX_out rfl h9) ?_
  rintro v9 σ3 ⟨hW, rfl, h⟩
  refine V_aload_n 7 0 rfl rfl rfl ?_
  refine V_getR 8 7 rfl clX11 flX11_76 (by decide) (wsh hW rfl) (fun _ => rfl) (wrf hW 7 rfl) ?_
  refine V_ldc_w 9 (v := (750000 : Int32)) rfl ctX11_324 ?_
  refine V_callV 10 1 (as := [.int (750000 : Int32)]) (rest := []) rfl mlX11_304 yvX2_run rfl rfl clX2 (wsh hW rfl) (by decide) (by decide) (Nat.le_of_ble_eq_true rfl) (by decide) (by decide) (fun B9 => ceX2_run hl B9 (Or.inl rfl) hW h) (fun X9 τ9 h9 => VX_out rfl h9) ?_
  rintro v9 σ4 ⟨hW, u5, rfl, h⟩
  refine V_pop 11 rfl rfl ?_
  exact V_vret 12 rfl rfl ⟨hW, rfl, h⟩

def wX11_tree  (Q : Int32 → ab_S → Prop) (E : String → ab_S → Prop) (σ : ab_S) : Prop := wX11_needGrammar (fun σ1 => ∃ q2, σ1.2.2.2 0 14 = some q2 ∧ isT q2 ∧ (∃ q3, σ1.2.2.2 0 11 = some q3 ∧ isG q3 ∧ (wX10_read q3 q2 (fun u5 σ4 => ((u5 = (-1 : Int32)) → ∃ q6, σ4.2.2.2 0 13 = some q6 ∧ isT q6 ∧ ((∀ σ7 : ab_S, σ7 = ab_R σ4 0 14 (some q6) → (∀ σ8 : ab_S, σ8 = ab_R σ7 0 13 (some q2) → (∀ σ9 : ab_S, σ9 = ab_I σ8 0 16 (1 : Int32) → (∀ σ10 : ab_S, σ10 = ab_I σ9 0 17 (0 : Int32) → wX11_evaluate (fun σ11 => Q (-1 : Int32) σ11) E σ10)))))) ∧ (¬ (u5 = (-1 : Int32)) → Q u5 σ4)) E σ1))) E σ
set_option maxHeartbeats 4000000 in
set_option maxRecDepth 100000 in
theorem ceX11_tree {l : Launch} (hl : l.stackTraces = false) (B : Nat)   {Q : Int32 → ab_S → Prop} {E : String → ab_S → Prop} {σ : ab_S} (hW : Wire σ) (h : wX11_tree  Q E σ) : ab_Mt l yX11_tree mdX11_tree B 10 221 1 6 [.ref 0] σ (fun v σ' => Wire σ' ∧ ∃ r : Int32, v = some (.int r) ∧ Q r σ') (fun X σ' => Wire σ' ∧ E X σ') := by
  refine V_met hl ⟨rfl, rfl, by decide⟩ rfl dkX11_tree (Nat.le_of_ble_eq_true rfl) ?_
  show V l mdX11_tree B 10 221 1 6 (ab_End _ _) 0 [(0, .ref 0)] [] σ
  refine V_aload_n 0 0 rfl rfl rfl ?_
  refine V_callV 1 0 (as := []) (rest := []) rfl mlX11_168 yvX11_needGrammar rfl rfl clX11 (wsh hW rfl) (by decide) (by decide) (Nat.le_of_ble_eq_true rfl) (by decide) (by decide) (fun B9 => ceX11_needGrammar hl B9 hW h) (fun X9 τ9 h9 => VX_out rfl h9) ?_
  rintro v9 σ1 ⟨hW, rfl, h⟩
  refine V_aload_n 2 0 rfl rfl rfl ?_
  obtain ⟨q2, eq2, hq2, h⟩ := h
  refine V_getR 3 14 rfl clX11 flX11_108 (by decide) (wsh hW rfl) (fun _ => rfl) eq2 ?_
  refine V_astore_n 4 (lv' := [(1, .ref q2), (0, .ref 0)]) rfl rfl (by decide) rfl ?_
  refine V_aload_n 5 1 rfl rfl rfl ?_
  refine V_getR 6 2 rfl clX11 flX11_35 (by decide) (wsh hW rfl) (fun _ => rfl) (wrf hW 2 rfl) ?_
  refine V_pc 13 rfl ?_
  refine V_aload_n 7 1 rfl rfl rfl ?_
  obtain ⟨q3, eq3, hq3, h⟩ := h
  refine V_getR 8 11 rfl clX11 flX11_94 (by decide) (wsh hW rfl) (fun _ => rfl) eq3 ?_
  refine V_aload_n 9 0 rfl rfl rfl ?_
  refine V_callV 10 2 (as := [.ref q3, .ref q2]) (rest := []) rfl mlX11_206 yvX10_read rfl rfl clX10 (wsh hW rfl) (by decide) (by decide) (Nat.le_of_ble_eq_true rfl) (by decide) (by decide) (fun B9 => ceX10_read hl B9 hq3 hq2 hW h) (fun X9 τ9 h9 => VX_out rfl h9) ?_
  rintro v9 σ4 ⟨hW, u5, rfl, h⟩
  refine V_istore_n 11 (lv' := [(2, .int u5), (1, .ref q2), (0, .ref 0)]) rfl rfl (by decide) rfl ?_
  refine V_iload_n 12 0 rfl rfl rfl ?_
  refine V_iconst 13 (v := (-1 : Int32)) rfl (by decide) ?_
  refine V_icmp_eq 14 (tgt := 29) rfl (by decide) (fun hc => ?_) (fun hc => ?_)
  · replace h := h.1 hc
    refine V_aload_n 17 2 rfl rfl rfl ?_
    refine V_aload_n 18 2 rfl rfl rfl ?_
    obtain ⟨q6, eq6, hq6, h⟩ := h
    refine V_getR 19 13 rfl clX11 flX11_104 (by decide) (wsh hW rfl) (fun _ => rfl) eq6 ?_
    refine V_putR (x := some q6) 20 14 rfl clX11 flX11_108 (by decide) (wsh hW rfl) rfl (fun _ _ => rfl) (fun v9 h9 => by rcases h9 with rfl | ⟨a9, rfl⟩ <;> exact ⟨rfl, rfl⟩) ?_
    refine V_nm (fun σ7 eσ7 => ?_)
    replace h := h σ7 eσ7
    have hW := wire_R eσ7 (by decide +kernel) hW
    refine V_aload_n 21 2 rfl rfl rfl ?_
    refine V_aload_n 22 1 rfl rfl rfl ?_
    refine V_putR (x := some q2) 23 13 rfl clX11 flX11_104 (by decide) (wsh hW rfl) rfl (fun _ _ => rfl) (fun v9 h9 => by rcases h9 with rfl | ⟨a9, rfl⟩ <;> exact ⟨rfl, rfl⟩) ?_
    refine V_nm (fun σ8 eσ8 => ?_)
    replace h := h σ8 eσ8
    have hW := wire_R eσ8 (by decide +kernel) hW
    refine V_aload_n 24 2 rfl rfl rfl ?_
    refine V_iconst 25 (v := (1 : Int32)) rfl (by decide) ?_
    refine V_putI 26 16 rfl clX11 flX11_153 (by decide) (wsh hW rfl) rfl (fun _ _ => rfl) rfl rfl ?_
    refine V_nm (fun σ9 eσ9 => ?_)
    replace h := h σ9 eσ9
    have hW := wire_I eσ9 hW
    refine V_aload_n 27 2 rfl rfl rfl ?_
    refine V_iconst 28 (v := (0 : Int32)) rfl (by decide) ?_
    refine V_putI 29 17 rfl clX11 flX11_156 (by decide) (wsh hW rfl) rfl (fun _ _ => rfl) rfl rfl ?_
    refine V_nm (fun σ10 eσ10 => ?_)
    replace h := h σ10 eσ10
    have hW := wire_I eσ10 hW
    refine V_aload_n 30 2 rfl rfl rfl ?_
    refine V_callV 31 0 (as := []) (rest := []) rfl mlX11_209 yvX11_evaluate rfl rfl clX11 (wsh hW rfl) (by decide) (by decide) (Nat.le_of_ble_eq_true rfl) (by decide) (by decide) (fun B9 => ceX11_evaluate hl B9 hW h) (fun X9 τ9 h9 => VX_out rfl h9) ?_
    rintro v9 σ11 ⟨hW, rfl, h⟩
    refine V_iconst 32 (v := (-1 : Int32)) rfl (by decide) ?_
    exact V_iret 33 rfl rfl ⟨hW, _, rfl, h⟩
  · replace h := h.2 hc
    refine V_pc 27 rfl ?_
    refine V_iload_n 15 0 rfl rfl rfl ?_
    exact V_iret 16 rfl rfl ⟨hW, _, rfl, h⟩

def wX11_needTree  (Q : ab_S → Prop) (E : String → ab_S → Prop) (σ : ab_S) : Prop := ((¬ (σ.2.1 0 16) = 0) → Q σ) ∧ (¬ (¬ (σ.2.1 0 16) = 0) → E "java/lang/IllegalStateException" σ)
set_option maxHeartbeats 4000000 in
set_option maxRecDepth 100000 in
theorem ceX11_needTree {l : Launch} (hl : l.stackTraces = false) (B : Nat)   {Q : ab_S → Prop} {E : String → ab_S → Prop} {σ : ab_S} (hW : Wire σ) (h : wX11_needTree  Q E σ) : ab_Mt l yX11_needTree mdX11_needTree B 6 100 1 6 [.ref 0] σ (fun v σ' => Wire σ' ∧ v = none ∧ Q σ') (fun X σ' => Wire σ' ∧ E X σ') := by
  refine V_met hl ⟨rfl, rfl, by decide⟩ rfl dkX11_needTree (Nat.le_of_ble_eq_true rfl) ?_
  show V l mdX11_needTree B 6 100 1 6 (ab_End _ _) 0 [(0, .ref 0)] [] σ
  refine V_aload_n 0 0 rfl rfl rfl ?_
  refine V_get (v := .int (σ.2.1 0 16)) 1 16 rfl clX11 flX11_153 (by decide) (wsh hW rfl) (fun _ => rfl) ?_
  refine V_if_ne 2 (tgt := 15) rfl (by decide) (fun hc => ?_) (fun hc => ?_)
  · replace h := h.1 hc
    exact V_vret 7 rfl rfl ⟨hW, rfl, h⟩
  · replace h := h.2 hc
    refine V_pc 7 rfl ?_
    exact V_throw 3 rfl rfl rfl rfl xwX11_348_350 (by decide) (Nat.le_of_ble_eq_true rfl) (by decide) (by decide) rfl ⟨hW, h⟩

def wX11_symbolOf (a0 : Int32) (Q : Int32 → ab_S → Prop) (E : String → ab_S → Prop) (σ : ab_S) : Prop := ∃ q1, σ.2.2.2 0 11 = some q1 ∧ isG q1 ∧ (∃ q2, σ.2.2.2 0 13 = some q2 ∧ isT q2 ∧ (vp_in a0 250 ∧ (wX0_symbolAt q1 (σ.2.1 (q2 + 1) a0.toNatClampNeg) (0 : Int32) (fun u4 σ3 => Q u4 σ3) E σ)))
set_option maxHeartbeats 4000000 in
set_option maxRecDepth 100000 in
theorem ceX11_symbolOf {l : Launch} (hl : l.stackTraces = false) (B : Nat) {a0 : Int32}  {Q : Int32 → ab_S → Prop} {E : String → ab_S → Prop} {σ : ab_S} (hW : Wire σ) (h : wX11_symbolOf a0 Q E σ) : ab_Mt l yX11_symbolOf mdX11_symbolOf B 1 22 0 0 [.ref 0, .int a0] σ (fun v σ' => Wire σ' ∧ ∃ r : Int32, v = some (.int r) ∧ Q r σ') (fun X σ' => Wire σ' ∧ E X σ') := by
  refine V_met hl ⟨rfl, rfl, by decide⟩ rfl dkX11_symbolOf (Nat.le_of_ble_eq_true rfl) ?_
  show V l mdX11_symbolOf B 1 22 0 0 (ab_End _ _) 0 [(0, .ref 0), (1, .int a0)] [] σ
  refine V_aload_n 0 0 rfl rfl rfl ?_
  obtain ⟨q1, eq1, hq1, h⟩ := h
  refine V_getR 1 11 rfl clX11 flX11_94 (by decide) (wsh hW rfl) (fun _ => rfl) eq1 ?_
  refine V_aload_n 2 0 rfl rfl rfl ?_
  obtain ⟨q2, eq2, hq2, h⟩ := h
  refine V_getR 3 13 rfl clX11 flX11_104 (by decide) (wsh hW rfl) (fun _ => rfl) eq2 ?_
  refine V_getR 4 1 rfl clX9 flX11_240 (by decide) (wT hW hq2) (fun _ => rfl) (wT_f1 hW hq2) ?_
  refine V_iload_n 5 1 rfl rfl rfl ?_
  refine V_pc 12 rfl ?_
  obtain ⟨hin, h⟩ := h
  refine V_iald 6 rfl (wT_a1 hW hq2) hin ?_
  refine V_iconst 7 (v := (0 : Int32)) rfl (by decide) ?_
  refine V_callV 8 2 (as := [.int (σ.2.1 (q2 + 1) a0.toNatClampNeg), .int (0 : Int32)]) (rest := []) rfl mlX11_325 yvX0_symbolAt rfl rfl clX0 (wG hW hq1) (by decide) (by decide) (Nat.le_of_ble_eq_true rfl) (by decide) (by decide) (fun B9 => ceX0_symbolAt hl B9 hq1 hW h) (fun X9 τ9 h9 => VX_out rfl h9) ?_
  rintro v9 σ3 ⟨hW, u4, rfl, h⟩
  exact V_iret 9 rfl rfl ⟨hW, _, rfl, h⟩

def wX11_countAttributes_l4_b (Q : Int32 → ab_S → Prop) (E : String → ab_S → Prop) (Bk : Int32 → Int32 → ab_S → Prop) (x1 : Int32) (x2 : Int32) (σ : ab_S) : Prop := ∃ q1, σ.2.2.2 0 13 = some q1 ∧ isT q1 ∧ ((((σ.2.1 q1 0) ≤ x2) → Q x1 σ) ∧ (¬ ((σ.2.1 q1 0) ≤ x2) → ∃ q2, σ.2.2.2 0 11 = some q2 ∧ isG q2 ∧ (wX11_symbolOf x2 (fun u4 σ3 => vp_in u4 12 ∧ (∀ v5 : Int32, v5 = (x1 + (σ3.2.1 (q2 + 2) u4.toNatClampNeg)) → ∀ v6 : Int32, v6 = (x2 + 1) → Bk v5 v6 σ3)) E σ)))
def wX11_countAttributes_l4 (Q : Int32 → ab_S → Prop) (E : String → ab_S → Prop) : Nat → Int32 → Int32 → ab_S → Prop
  | 0, _, _, _ => False
  | n + 1, x1, x2, σ => wX11_countAttributes_l4_b Q E (wX11_countAttributes_l4 Q E n) x1 x2 σ
def wX11_countAttributes  (Q : Int32 → ab_S → Prop) (E : String → ab_S → Prop) (σ : ab_S) : Prop := ∃ n, wX11_countAttributes_l4 Q E n (0 : Int32) (0 : Int32) σ
set_option maxHeartbeats 4000000 in
set_option maxRecDepth 100000 in
theorem ceX11_countAttributes {l : Launch} (hl : l.stackTraces = false) (B : Nat)   {Q : Int32 → ab_S → Prop} {E : String → ab_S → Prop} {σ : ab_S} (hW : Wire σ) (h : wX11_countAttributes  Q E σ) : ab_Mt l yX11_countAttributes mdX11_countAttributes B 2 43 0 0 [.ref 0] σ (fun v σ' => Wire σ' ∧ ∃ r : Int32, v = some (.int r) ∧ Q r σ') (fun X σ' => Wire σ' ∧ E X σ') := by
  refine V_met hl ⟨rfl, rfl, by decide⟩ rfl dkX11_countAttributes (Nat.le_of_ble_eq_true rfl) ?_
  show V l mdX11_countAttributes B 2 43 0 0 (ab_End _ _) 0 [(0, .ref 0)] [] σ
  revert h hW
  revert σ
  have k_l4 : ∀ (n : Nat) (x1 : Int32) (x2 : Int32)  (σ : ab_S), Wire σ → wX11_countAttributes_l4 Q E n x1 x2 σ → V l mdX11_countAttributes B 2 43 0 0 (ab_End (fun v σ' => Wire σ' ∧ ∃ r : Int32, v = some (.int r) ∧ Q r σ') (fun X σ' => Wire σ' ∧ E X σ')) 4 [(0, .ref 0), (1, .int x1), (2, .int x2)] [] σ := by
    have step : ∀ (Bk : Int32 → Int32 → ab_S → Prop) (k_Bk : ∀ (x1 : Int32) (x2 : Int32)  (σ : ab_S), Wire σ → Bk x1 x2 σ → V l mdX11_countAttributes B 2 43 0 0 (ab_End (fun v σ' => Wire σ' ∧ ∃ r : Int32, v = some (.int r) ∧ Q r σ') (fun X σ' => Wire σ' ∧ E X σ')) 4 [(0, .ref 0), (1, .int x1), (2, .int x2)] [] σ), ∀ (x1 : Int32) (x2 : Int32)  (σ : ab_S), Wire σ → wX11_countAttributes_l4_b Q E Bk x1 x2 σ → V l mdX11_countAttributes B 2 43 0 0 (ab_End (fun v σ' => Wire σ' ∧ ∃ r : Int32, v = some (.int r) ∧ Q r σ') (fun X σ' => Wire σ' ∧ E X σ')) 4 [(0, .ref 0), (1, .int x1), (2, .int x2)] [] σ := by
      intro Bk k_Bk
      intro x1 x2  σ hW h
      refine V_iload_n 4 2 rfl rfl rfl ?_
      refine V_aload_n 5 0 rfl rfl rfl ?_
      obtain ⟨q1, eq1, hq1, h⟩ := h
      refine V_getR 6 13 rfl clX11 flX11_104 (by decide) (wsh hW rfl) (fun _ => rfl) eq1 ?_
      refine V_get (v := .int (σ.2.1 q1 0)) 7 0 rfl clX9 flX11_215 (by decide) (wT hW hq1) (fun _ => rfl) ?_
      refine V_icmp_ge 8 (tgt := 37) rfl (by decide) (fun hc => ?_) (fun hc => ?_)
      · replace h := h.1 hc
        refine V_iload_n 21 1 rfl rfl rfl ?_
        exact V_iret 22 rfl rfl ⟨hW, _, rfl, h⟩
      · replace h := h.2 hc
        refine V_pc 15 rfl ?_
        refine V_iload_n 9 1 rfl rfl rfl ?_
        refine V_aload_n 10 0 rfl rfl rfl ?_
        obtain ⟨q2, eq2, hq2, h⟩ := h
        refine V_getR 11 11 rfl clX11 flX11_94 (by decide) (wsh hW rfl) (fun _ => rfl) eq2 ?_
        refine V_getR 12 2 rfl clX0 flX11_328 (by decide) (wG hW hq2) (fun _ => rfl) (wG_f2 hW hq2) ?_
        refine V_aload_n 13 0 rfl rfl rfl ?_
        refine V_iload_n 14 2 rfl rfl rfl ?_
        refine V_pc 25 rfl ?_
        refine V_callV 15 1 (as := [.int x2]) (rest := [.ref (q2 + 2), .int x1]) rfl mlX11_249 yvX11_symbolOf rfl rfl clX11 (wsh hW rfl) (by decide) (by decide) (Nat.le_of_ble_eq_true rfl) (by decide) (by decide) (fun B9 => ceX11_symbolOf hl B9 hW h) (fun X9 τ9 h9 => VX_out rfl h9) ?_
        rintro v9 σ3 ⟨hW, u4, rfl, h⟩
        obtain ⟨hin, h⟩ := h
        refine V_iald 16 rfl (wG_a2 hW hq2) hin ?_
        refine V_iadd 17 rfl ?_
        refine V_topi (fun v5 ev5 => ?_)
        replace h := h v5 ev5
        refine V_istore_n 18 (lv' := [(1, .int v5), (0, .ref 0), (2, .int x2)]) rfl rfl (by decide) rfl ?_
        obtain ⟨v6, ev6⟩ : ∃ z : Int32, z = (x2 + 1) := ⟨_, rfl⟩
        replace h := h v6 ev6
        refine V_iinc 19 2 (v := v6) (lv' := [(2, .int v6), (1, .int v5), (0, .ref 0)]) rfl rfl ((in_1 _).trans ev6.symm) (by decide) rfl ?_
        refine V_goto 20 (tgt := 4) rfl (by decide) ?_
        refine V_sub [2, 1, 0] (lv' := [(0, .ref 0), (1, .int v5), (2, .int v6)]) rfl ?_
        exact k_Bk v5 v6  σ3 hW h
    intro n
    induction n with
    | zero => intro x1 x2  σ hW h; exact absurd h id
    | succ n ih => exact step  _ ih
  intro σ hW h
  refine V_iconst 0 (v := (0 : Int32)) rfl (by decide) ?_
  refine V_istore_n 1 (lv' := [(1, .int (0 : Int32)), (0, .ref 0)]) rfl rfl (by decide) rfl ?_
  refine V_iconst 2 (v := (0 : Int32)) rfl (by decide) ?_
  refine V_istore_n 3 (lv' := [(2, .int (0 : Int32)), (1, .int (0 : Int32)), (0, .ref 0)]) rfl rfl (by decide) rfl ?_
  refine V_sub [2, 1, 0] (lv' := [(0, .ref 0), (1, .int (0 : Int32)), (2, .int (0 : Int32))]) rfl ?_
  obtain ⟨n, h⟩ := h
  exact k_l4 n (0 : Int32) (0 : Int32) σ hW h

def wX11_countVisits_l4_b (Q : Int32 → ab_S → Prop) (E : String → ab_S → Prop) (Bk : Int32 → Int32 → ab_S → Prop) (x1 : Int32) (x2 : Int32) (σ : ab_S) : Prop := ∃ q1, σ.2.2.2 0 13 = some q1 ∧ isT q1 ∧ ((((σ.2.1 q1 0) ≤ x2) → Q x1 σ) ∧ (¬ ((σ.2.1 q1 0) ≤ x2) → ∃ q2, σ.2.2.2 0 11 = some q2 ∧ isG q2 ∧ (wX11_symbolOf x2 (fun u4 σ3 => vp_in u4 12 ∧ (∀ v5 : Int32, v5 = (x1 + (σ3.2.1 (q2 + 17) u4.toNatClampNeg)) → ∀ v6 : Int32, v6 = (x2 + 1) → Bk v5 v6 σ3)) E σ)))
def wX11_countVisits_l4 (Q : Int32 → ab_S → Prop) (E : String → ab_S → Prop) : Nat → Int32 → Int32 → ab_S → Prop
  | 0, _, _, _ => False
  | n + 1, x1, x2, σ => wX11_countVisits_l4_b Q E (wX11_countVisits_l4 Q E n) x1 x2 σ
def wX11_countVisits  (Q : Int32 → ab_S → Prop) (E : String → ab_S → Prop) (σ : ab_S) : Prop := ∃ n, wX11_countVisits_l4 Q E n (0 : Int32) (0 : Int32) σ
set_option maxHeartbeats 4000000 in
set_option maxRecDepth 100000 in
theorem ceX11_countVisits {l : Launch} (hl : l.stackTraces = false) (B : Nat)   {Q : Int32 → ab_S → Prop} {E : String → ab_S → Prop} {σ : ab_S} (hW : Wire σ) (h : wX11_countVisits  Q E σ) : ab_Mt l yX11_countVisits mdX11_countVisits B 2 43 0 0 [.ref 0] σ (fun v σ' => Wire σ' ∧ ∃ r : Int32, v = some (.int r) ∧ Q r σ') (fun X σ' => Wire σ' ∧ E X σ') := by
  refine V_met hl ⟨rfl, rfl, by decide⟩ rfl dkX11_countVisits (Nat.le_of_ble_eq_true rfl) ?_
  show V l mdX11_countVisits B 2 43 0 0 (ab_End _ _) 0 [(0, .ref 0)] [] σ
  revert h hW
  revert σ
  have k_l4 : ∀ (n : Nat) (x1 : Int32) (x2 : Int32)  (σ : ab_S), Wire σ → wX11_countVisits_l4 Q E n x1 x2 σ → V l mdX11_countVisits B 2 43 0 0 (ab_End (fun v σ' => Wire σ' ∧ ∃ r : Int32, v = some (.int r) ∧ Q r σ') (fun X σ' => Wire σ' ∧ E X σ')) 4 [(0, .ref 0), (1, .int x1), (2, .int x2)] [] σ := by
    have step : ∀ (Bk : Int32 → Int32 → ab_S → Prop) (k_Bk : ∀ (x1 : Int32) (x2 : Int32)  (σ : ab_S), Wire σ → Bk x1 x2 σ → V l mdX11_countVisits B 2 43 0 0 (ab_End (fun v σ' => Wire σ' ∧ ∃ r : Int32, v = some (.int r) ∧ Q r σ') (fun X σ' => Wire σ' ∧ E X σ')) 4 [(0, .ref 0), (1, .int x1), (2, .int x2)] [] σ), ∀ (x1 : Int32) (x2 : Int32)  (σ : ab_S), Wire σ → wX11_countVisits_l4_b Q E Bk x1 x2 σ → V l mdX11_countVisits B 2 43 0 0 (ab_End (fun v σ' => Wire σ' ∧ ∃ r : Int32, v = some (.int r) ∧ Q r σ') (fun X σ' => Wire σ' ∧ E X σ')) 4 [(0, .ref 0), (1, .int x1), (2, .int x2)] [] σ := by
      intro Bk k_Bk
      intro x1 x2  σ hW h
      refine V_iload_n 4 2 rfl rfl rfl ?_
      refine V_aload_n 5 0 rfl rfl rfl ?_
      obtain ⟨q1, eq1, hq1, h⟩ := h
      refine V_getR 6 13 rfl clX11 flX11_104 (by decide) (wsh hW rfl) (fun _ => rfl) eq1 ?_
      refine V_get (v := .int (σ.2.1 q1 0)) 7 0 rfl clX9 flX11_215 (by decide) (wT hW hq1) (fun _ => rfl) ?_
      refine V_icmp_ge 8 (tgt := 37) rfl (by decide) (fun hc => ?_) (fun hc => ?_)
      · replace h := h.1 hc
        refine V_iload_n 21 1 rfl rfl rfl ?_
        exact V_iret 22 rfl rfl ⟨hW, _, rfl, h⟩
      · replace h := h.2 hc
        refine V_pc 15 rfl ?_
        refine V_iload_n 9 1 rfl rfl rfl ?_
        refine V_aload_n 10 0 rfl rfl rfl ?_
        obtain ⟨q2, eq2, hq2, h⟩ := h
        refine V_getR 11 11 rfl clX11 flX11_94 (by decide) (wsh hW rfl) (fun _ => rfl) eq2 ?_
        refine V_getR 12 19 rfl clX0 flX11_187 (by decide) (wG hW hq2) (fun _ => rfl) (wG_f19 hW hq2) ?_
        refine V_aload_n 13 0 rfl rfl rfl ?_
        refine V_iload_n 14 2 rfl rfl rfl ?_
        refine V_pc 25 rfl ?_
        refine V_callV 15 1 (as := [.int x2]) (rest := [.ref (q2 + 17), .int x1]) rfl mlX11_249 yvX11_symbolOf rfl rfl clX11 (wsh hW rfl) (by decide) (by decide) (Nat.le_of_ble_eq_true rfl) (by decide) (by decide) (fun B9 => ceX11_symbolOf hl B9 hW h) (fun X9 τ9 h9 => VX_out rfl h9) ?_
        rintro v9 σ3 ⟨hW, u4, rfl, h⟩
        obtain ⟨hin, h⟩ := h
        refine V_iald 16 rfl (wG_a17 hW hq2) hin ?_
        refine V_iadd 17 rfl ?_
        refine V_topi (fun v5 ev5 => ?_)
        replace h := h v5 ev5
        refine V_istore_n 18 (lv' := [(1, .int v5), (0, .ref 0), (2, .int x2)]) rfl rfl (by decide) rfl ?_
        obtain ⟨v6, ev6⟩ : ∃ z : Int32, z = (x2 + 1) := ⟨_, rfl⟩
        replace h := h v6 ev6
        refine V_iinc 19 2 (v := v6) (lv' := [(2, .int v6), (1, .int v5), (0, .ref 0)]) rfl rfl ((in_1 _).trans ev6.symm) (by decide) rfl ?_
        refine V_goto 20 (tgt := 4) rfl (by decide) ?_
        refine V_sub [2, 1, 0] (lv' := [(0, .ref 0), (1, .int v5), (2, .int v6)]) rfl ?_
        exact k_Bk v5 v6  σ3 hW h
    intro n
    induction n with
    | zero => intro x1 x2  σ hW h; exact absurd h id
    | succ n ih => exact step  _ ih
  intro σ hW h
  refine V_iconst 0 (v := (0 : Int32)) rfl (by decide) ?_
  refine V_istore_n 1 (lv' := [(1, .int (0 : Int32)), (0, .ref 0)]) rfl rfl (by decide) rfl ?_
  refine V_iconst 2 (v := (0 : Int32)) rfl (by decide) ?_
  refine V_istore_n 3 (lv' := [(2, .int (0 : Int32)), (1, .int (0 : Int32)), (0, .ref 0)]) rfl rfl (by decide) rfl ?_
  refine V_sub [2, 1, 0] (lv' := [(0, .ref 0), (1, .int (0 : Int32)), (2, .int (0 : Int32))]) rfl ?_
  obtain ⟨n, h⟩ := h
  exact k_l4 n (0 : Int32) (0 : Int32) σ hW h

def wX11_countErrors_j64 (Q : Int32 → ab_S → Prop) (E : String → ab_S → Prop) (Bk : Int32 → Int32 → ab_S → Prop) (x1 : Int32) (x2 : Int32) (σ : ab_S) : Prop := ∀ v1 : Int32, v1 = (x2 + 1) → Bk x1 v1 σ
def wX11_countErrors_j58 (Q : Int32 → ab_S → Prop) (E : String → ab_S → Prop) (K64 : Int32 → Int32 → ab_S → Prop) (Bk : Int32 → Int32 → Int32 → ab_S → Prop) (x1 : Int32) (x2 : Int32) (x3 : Int32) (σ : ab_S) : Prop := ∀ v2 : Int32, v2 = (x3 + 1) → Bk x1 x2 v2 σ
def wX11_countErrors_l17_b (Q : Int32 → ab_S → Prop) (E : String → ab_S → Prop) (K64 : Int32 → Int32 → ab_S → Prop) (Bk : Int32 → Int32 → Int32 → ab_S → Prop) (x1 : Int32) (x2 : Int32) (x3 : Int32) (σ : ab_S) : Prop := ∃ q3, σ.2.2.2 0 11 = some q3 ∧ isG q3 ∧ (wX11_symbolOf x2 (fun u5 σ4 => vp_in u5 12 ∧ ((((σ4.2.1 (q3 + 2) u5.toNatClampNeg) ≤ x3) → K64 x1 x2 σ4) ∧ (¬ ((σ4.2.1 (q3 + 2) u5.toNatClampNeg) ≤ x3) → vp_in ((x2 * (8 : Int32)) + x3) 2000 ∧ (((¬ (lg_cmp (σ4.2.2.1 29 ((x2 * (8 : Int32)) + x3).toNatClampNeg) (-9223372036854775808 : Int64)) = 0) → wX11_countErrors_j58 Q E K64 Bk x1 x2 x3 σ4) ∧ (¬ (¬ (lg_cmp (σ4.2.2.1 29 ((x2 * (8 : Int32)) + x3).toNatClampNeg) (-9223372036854775808 : Int64)) = 0) → ∀ v6 : Int32, v6 = (x1 + 1) → wX11_countErrors_j58 Q E K64 Bk v6 x2 x3 σ4))))) E σ)
def wX11_countErrors_l17 (Q : Int32 → ab_S → Prop) (E : String → ab_S → Prop) (K64 : Int32 → Int32 → ab_S → Prop) : Nat → Int32 → Int32 → Int32 → ab_S → Prop
  | 0, _, _, _, _ => False
  | n + 1, x1, x2, x3, σ => wX11_countErrors_l17_b Q E K64 (wX11_countErrors_l17 Q E K64 n) x1 x2 x3 σ
def wX11_countErrors_l4_b (Q : Int32 → ab_S → Prop) (E : String → ab_S → Prop) (Bk : Int32 → Int32 → ab_S → Prop) (x1 : Int32) (x2 : Int32) (σ : ab_S) : Prop := ∃ q7, σ.2.2.2 0 13 = some q7 ∧ isT q7 ∧ ((((σ.2.1 q7 0) ≤ x2) → Q x1 σ) ∧ (¬ ((σ.2.1 q7 0) ≤ x2) → ∃ n, wX11_countErrors_l17 Q E (wX11_countErrors_j64 Q E Bk) n x1 x2 (0 : Int32) σ))
def wX11_countErrors_l4 (Q : Int32 → ab_S → Prop) (E : String → ab_S → Prop) : Nat → Int32 → Int32 → ab_S → Prop
  | 0, _, _, _ => False
  | n + 1, x1, x2, σ => wX11_countErrors_l4_b Q E (wX11_countErrors_l4 Q E n) x1 x2 σ
def wX11_countErrors  (Q : Int32 → ab_S → Prop) (E : String → ab_S → Prop) (σ : ab_S) : Prop := ∃ n, wX11_countErrors_l4 Q E n (0 : Int32) (0 : Int32) σ
set_option maxHeartbeats 4000000 in
set_option maxRecDepth 100000 in
theorem ceX11_countErrors {l : Launch} (hl : l.stackTraces = false) (B : Nat)   {Q : Int32 → ab_S → Prop} {E : String → ab_S → Prop} {σ : ab_S} (hW : Wire σ) (h : wX11_countErrors  Q E σ) : ab_Mt l yX11_countErrors mdX11_countErrors B 2 43 0 0 [.ref 0] σ (fun v σ' => Wire σ' ∧ ∃ r : Int32, v = some (.int r) ∧ Q r σ') (fun X σ' => Wire σ' ∧ E X σ') := by
  refine V_met hl ⟨rfl, rfl, by decide⟩ rfl dkX11_countErrors (Nat.le_of_ble_eq_true rfl) ?_
  show V l mdX11_countErrors B 2 43 0 0 (ab_End _ _) 0 [(0, .ref 0)] [] σ
  revert h hW
  revert σ
  have k_l4 : ∀ (n : Nat) (x1 : Int32) (x2 : Int32)  (σ : ab_S), Wire σ → wX11_countErrors_l4 Q E n x1 x2 σ → V l mdX11_countErrors B 2 43 0 0 (ab_End (fun v σ' => Wire σ' ∧ ∃ r : Int32, v = some (.int r) ∧ Q r σ') (fun X σ' => Wire σ' ∧ E X σ')) 4 [(0, .ref 0), (1, .int x1), (2, .int x2)] [] σ := by
    have step : ∀ (Bk : Int32 → Int32 → ab_S → Prop) (k_Bk : ∀ (x1 : Int32) (x2 : Int32)  (σ : ab_S), Wire σ → Bk x1 x2 σ → V l mdX11_countErrors B 2 43 0 0 (ab_End (fun v σ' => Wire σ' ∧ ∃ r : Int32, v = some (.int r) ∧ Q r σ') (fun X σ' => Wire σ' ∧ E X σ')) 4 [(0, .ref 0), (1, .int x1), (2, .int x2)] [] σ), ∀ (x1 : Int32) (x2 : Int32)  (σ : ab_S), Wire σ → wX11_countErrors_l4_b Q E Bk x1 x2 σ → V l mdX11_countErrors B 2 43 0 0 (ab_End (fun v σ' => Wire σ' ∧ ∃ r : Int32, v = some (.int r) ∧ Q r σ') (fun X σ' => Wire σ' ∧ E X σ')) 4 [(0, .ref 0), (1, .int x1), (2, .int x2)] [] σ := by
      intro Bk k_Bk
      have k_j64 : ∀ (x1 : Int32) (x2 : Int32)  (σ : ab_S), Wire σ → wX11_countErrors_j64 Q E Bk x1 x2 σ → V l mdX11_countErrors B 2 43 0 0 (ab_End (fun v σ' => Wire σ' ∧ ∃ r : Int32, v = some (.int r) ∧ Q r σ') (fun X σ' => Wire σ' ∧ E X σ')) 64 [(0, .ref 0), (1, .int x1), (2, .int x2)] [] σ := by
        intro x1 x2  σ hW h
        obtain ⟨v1, ev1⟩ : ∃ z : Int32, z = (x2 + 1) := ⟨_, rfl⟩
        replace h := h v1 ev1
        refine V_iinc 35 2 (v := v1) (lv' := [(2, .int v1), (0, .ref 0), (1, .int x1)]) rfl rfl ((in_1 _).trans ev1.symm) (by decide) rfl ?_
        refine V_goto 36 (tgt := 4) rfl (by decide) ?_
        refine V_sub [1, 2, 0] (lv' := [(0, .ref 0), (1, .int x1), (2, .int v1)]) rfl ?_
        exact k_Bk x1 v1  σ hW h
      have k_l17 : ∀ (n : Nat) (x1 : Int32) (x2 : Int32) (x3 : Int32)  (σ : ab_S), Wire σ → wX11_countErrors_l17 Q E (wX11_countErrors_j64 Q E Bk) n x1 x2 x3 σ → V l mdX11_countErrors B 2 43 0 0 (ab_End (fun v σ' => Wire σ' ∧ ∃ r : Int32, v = some (.int r) ∧ Q r σ') (fun X σ' => Wire σ' ∧ E X σ')) 17 [(0, .ref 0), (1, .int x1), (2, .int x2), (3, .int x3)] [] σ := by
        have step : ∀ (K64 : Int32 → Int32 → ab_S → Prop) (k_K64 : ∀ (x1 : Int32) (x2 : Int32)  (σ : ab_S), Wire σ → K64 x1 x2 σ → V l mdX11_countErrors B 2 43 0 0 (ab_End (fun v σ' => Wire σ' ∧ ∃ r : Int32, v = some (.int r) ∧ Q r σ') (fun X σ' => Wire σ' ∧ E X σ')) 64 [(0, .ref 0), (1, .int x1), (2, .int x2)] [] σ), ∀ (Bk : Int32 → Int32 → Int32 → ab_S → Prop) (k_Bk : ∀ (x1 : Int32) (x2 : Int32) (x3 : Int32)  (σ : ab_S), Wire σ → Bk x1 x2 x3 σ → V l mdX11_countErrors B 2 43 0 0 (ab_End (fun v σ' => Wire σ' ∧ ∃ r : Int32, v = some (.int r) ∧ Q r σ') (fun X σ' => Wire σ' ∧ E X σ')) 17 [(0, .ref 0), (1, .int x1), (2, .int x2), (3, .int x3)] [] σ), ∀ (x1 : Int32) (x2 : Int32) (x3 : Int32)  (σ : ab_S), Wire σ → wX11_countErrors_l17_b Q E K64 Bk x1 x2 x3 σ → V l mdX11_countErrors B 2 43 0 0 (ab_End (fun v σ' => Wire σ' ∧ ∃ r : Int32, v = some (.int r) ∧ Q r σ') (fun X σ' => Wire σ' ∧ E X σ')) 17 [(0, .ref 0), (1, .int x1), (2, .int x2), (3, .int x3)] [] σ := by
          intro K64 k_K64 Bk k_Bk
          have k_j58 : ∀ (x1 : Int32) (x2 : Int32) (x3 : Int32)  (σ : ab_S), Wire σ → wX11_countErrors_j58 Q E K64 Bk x1 x2 x3 σ → V l mdX11_countErrors B 2 43 0 0 (ab_End (fun v σ' => Wire σ' ∧ ∃ r : Int32, v = some (.int r) ∧ Q r σ') (fun X σ' => Wire σ' ∧ E X σ')) 58 [(0, .ref 0), (1, .int x1), (2, .int x2), (3, .int x3)] [] σ := by
            intro x1 x2 x3  σ hW h
            obtain ⟨v2, ev2⟩ : ∃ z : Int32, z = (x3 + 1) := ⟨_, rfl⟩
            replace h := h v2 ev2
            refine V_iinc 33 3 (v := v2) (lv' := [(3, .int v2), (0, .ref 0), (1, .int x1), (2, .int x2)]) rfl rfl ((in_1 _).trans ev2.symm) (by decide) rfl ?_
            refine V_goto 34 (tgt := 17) rfl (by decide) ?_
            refine V_sub [1, 2, 3, 0] (lv' := [(0, .ref 0), (1, .int x1), (2, .int x2), (3, .int v2)]) rfl ?_
            exact k_Bk x1 x2 v2  σ hW h
          intro x1 x2 x3  σ hW h
          refine V_iload_n 11 3 rfl rfl rfl ?_
          refine V_aload_n 12 0 rfl rfl rfl ?_
          obtain ⟨q3, eq3, hq3, h⟩ := h
          refine V_getR 13 11 rfl clX11 flX11_94 (by decide) (wsh hW rfl) (fun _ => rfl) eq3 ?_
          refine V_getR 14 2 rfl clX0 flX11_328 (by decide) (wG hW hq3) (fun _ => rfl) (wG_f2 hW hq3) ?_
          refine V_aload_n 15 0 rfl rfl rfl ?_
          refine V_iload_n 16 2 rfl rfl rfl ?_
          refine V_pc 27 rfl ?_
          refine V_callV 17 1 (as := [.int x2]) (rest := [.ref (q3 + 2), .int x3]) rfl mlX11_249 yvX11_symbolOf rfl rfl clX11 (wsh hW rfl) (by decide) (by decide) (Nat.le_of_ble_eq_true rfl) (by decide) (by decide) (fun B9 => ceX11_symbolOf hl B9 hW h) (fun X9 τ9 h9 => VX_out rfl h9) ?_
          rintro v9 σ4 ⟨hW, u5, rfl, h⟩
          obtain ⟨hin, h⟩ := h
          refine V_iald 18 rfl (wG_a2 hW hq3) hin ?_
          refine V_icmp_ge 19 (tgt := 64) rfl (by decide) (fun hc => ?_) (fun hc => ?_)
          · replace h := h.1 hc
            refine V_sub [0, 1, 2] (lv' := [(0, .ref 0), (1, .int x1), (2, .int x2)]) rfl ?_
            exact k_K64 x1 x2  σ4 hW h
          · replace h := h.2 hc
            refine V_pc 34 rfl ?_
            refine V_aload_n 20 0 rfl rfl rfl ?_
            refine V_getR 21 7 rfl clX11 flX11_76 (by decide) (wsh hW rfl) (fun _ => rfl) (wrf hW 7 rfl) ?_
            refine V_getR 22 4 rfl clX2 flX11_256 (by decide) (wsh hW rfl) (fun _ => rfl) (wrf hW 37 rfl) ?_
            refine V_iload_n 23 2 rfl rfl rfl ?_
            refine V_bipush 24 (v := (8 : Int32)) rfl (by decide) ?_
            refine V_imul 25 rfl ?_
            refine V_pc 45 rfl ?_
            refine V_iload_n 26 3 rfl rfl rfl ?_
            refine V_iadd 27 rfl ?_
            obtain ⟨hin, h⟩ := h
            refine V_lald 28 rfl (wsh hW rfl) hin ?_
            refine V_ldc2 29 (v := (-9223372036854775808 : Int64)) rfl ctX11_331 ?_
            refine V_lcmp 30 rfl ?_
            refine V_if_ne 31 (tgt := 58) rfl (by decide) (fun hc => ?_) (fun hc => ?_)
            · replace h := h.1 hc
              exact k_j58 x1 x2 x3 σ4 hW h
            · replace h := h.2 hc
              refine V_pc 55 rfl ?_
              obtain ⟨v6, ev6⟩ : ∃ z : Int32, z = (x1 + 1) := ⟨_, rfl⟩
              replace h := h v6 ev6
              refine V_iinc 32 1 (v := v6) (lv' := [(1, .int v6), (0, .ref 0), (2, .int x2), (3, .int x3)]) rfl rfl ((in_1 _).trans ev6.symm) (by decide) rfl ?_
              refine V_sub [1, 0, 2, 3] (lv' := [(0, .ref 0), (1, .int v6), (2, .int x2), (3, .int x3)]) rfl ?_
              exact k_j58 v6 x2 x3 σ4 hW h
        intro n
        induction n with
        | zero => intro x1 x2 x3  σ hW h; exact absurd h id
        | succ n ih => exact step _ k_j64 _ ih
      intro x1 x2  σ hW h
      refine V_iload_n 4 2 rfl rfl rfl ?_
      refine V_aload_n 5 0 rfl rfl rfl ?_
      obtain ⟨q7, eq7, hq7, h⟩ := h
      refine V_getR 6 13 rfl clX11 flX11_104 (by decide) (wsh hW rfl) (fun _ => rfl) eq7 ?_
      refine V_get (v := .int (σ.2.1 q7 0)) 7 0 rfl clX9 flX11_215 (by decide) (wT hW hq7) (fun _ => rfl) ?_
      refine V_icmp_ge 8 (tgt := 70) rfl (by decide) (fun hc => ?_) (fun hc => ?_)
      · replace h := h.1 hc
        refine V_iload_n 37 1 rfl rfl rfl ?_
        exact V_iret 38 rfl rfl ⟨hW, _, rfl, h⟩
      · replace h := h.2 hc
        refine V_pc 15 rfl ?_
        refine V_iconst 9 (v := (0 : Int32)) rfl (by decide) ?_
        refine V_istore_n 10 (lv' := [(3, .int (0 : Int32)), (0, .ref 0), (1, .int x1), (2, .int x2)]) rfl rfl (by decide) rfl ?_
        refine V_sub [1, 2, 3, 0] (lv' := [(0, .ref 0), (1, .int x1), (2, .int x2), (3, .int (0 : Int32))]) rfl ?_
        obtain ⟨n, h⟩ := h
        exact k_l17 n x1 x2 (0 : Int32) σ hW h
    intro n
    induction n with
    | zero => intro x1 x2  σ hW h; exact absurd h id
    | succ n ih => exact step  _ ih
  intro σ hW h
  refine V_iconst 0 (v := (0 : Int32)) rfl (by decide) ?_
  refine V_istore_n 1 (lv' := [(1, .int (0 : Int32)), (0, .ref 0)]) rfl rfl (by decide) rfl ?_
  refine V_iconst 2 (v := (0 : Int32)) rfl (by decide) ?_
  refine V_istore_n 3 (lv' := [(2, .int (0 : Int32)), (1, .int (0 : Int32)), (0, .ref 0)]) rfl rfl (by decide) rfl ?_
  refine V_sub [2, 1, 0] (lv' := [(0, .ref 0), (1, .int (0 : Int32)), (2, .int (0 : Int32))]) rfl ?_
  obtain ⟨n, h⟩ := h
  exact k_l4 n (0 : Int32) (0 : Int32) σ hW h

def wX11_countKept_l4_b (Q : Int32 → ab_S → Prop) (E : String → ab_S → Prop) (Bk : Int32 → Int32 → ab_S → Prop) (x1 : Int32) (x2 : Int32) (σ : ab_S) : Prop := ∃ q1, σ.2.2.2 0 13 = some q1 ∧ isT q1 ∧ ((((σ.2.1 q1 0) ≤ x2) → Q x1 σ) ∧ (¬ ((σ.2.1 q1 0) ≤ x2) → wX11_symbolOf x2 (fun u3 σ2 => wX7_countAhead u3 (8 : Int32) (2 : Int32) (fun u5 σ4 => ∀ v6 : Int32, v6 = (x1 + u5) → ∀ v7 : Int32, v7 = (x2 + 1) → Bk v6 v7 σ4) E σ2) E σ))
def wX11_countKept_l4 (Q : Int32 → ab_S → Prop) (E : String → ab_S → Prop) : Nat → Int32 → Int32 → ab_S → Prop
  | 0, _, _, _ => False
  | n + 1, x1, x2, σ => wX11_countKept_l4_b Q E (wX11_countKept_l4 Q E n) x1 x2 σ
def wX11_countKept  (Q : Int32 → ab_S → Prop) (E : String → ab_S → Prop) (σ : ab_S) : Prop := ∃ n, wX11_countKept_l4 Q E n (0 : Int32) (0 : Int32) σ
set_option maxHeartbeats 4000000 in
set_option maxRecDepth 100000 in
theorem ceX11_countKept {l : Launch} (hl : l.stackTraces = false) (B : Nat)   {Q : Int32 → ab_S → Prop} {E : String → ab_S → Prop} {σ : ab_S} (hW : Wire σ) (h : wX11_countKept  Q E σ) : ab_Mt l yX11_countKept mdX11_countKept B 2 43 0 0 [.ref 0] σ (fun v σ' => Wire σ' ∧ ∃ r : Int32, v = some (.int r) ∧ Q r σ') (fun X σ' => Wire σ' ∧ E X σ') := by
  refine V_met hl ⟨rfl, rfl, by decide⟩ rfl dkX11_countKept (Nat.le_of_ble_eq_true rfl) ?_
  show V l mdX11_countKept B 2 43 0 0 (ab_End _ _) 0 [(0, .ref 0)] [] σ
  revert h hW
  revert σ
  have k_l4 : ∀ (n : Nat) (x1 : Int32) (x2 : Int32)  (σ : ab_S), Wire σ → wX11_countKept_l4 Q E n x1 x2 σ → V l mdX11_countKept B 2 43 0 0 (ab_End (fun v σ' => Wire σ' ∧ ∃ r : Int32, v = some (.int r) ∧ Q r σ') (fun X σ' => Wire σ' ∧ E X σ')) 4 [(0, .ref 0), (1, .int x1), (2, .int x2)] [] σ := by
    have step : ∀ (Bk : Int32 → Int32 → ab_S → Prop) (k_Bk : ∀ (x1 : Int32) (x2 : Int32)  (σ : ab_S), Wire σ → Bk x1 x2 σ → V l mdX11_countKept B 2 43 0 0 (ab_End (fun v σ' => Wire σ' ∧ ∃ r : Int32, v = some (.int r) ∧ Q r σ') (fun X σ' => Wire σ' ∧ E X σ')) 4 [(0, .ref 0), (1, .int x1), (2, .int x2)] [] σ), ∀ (x1 : Int32) (x2 : Int32)  (σ : ab_S), Wire σ → wX11_countKept_l4_b Q E Bk x1 x2 σ → V l mdX11_countKept B 2 43 0 0 (ab_End (fun v σ' => Wire σ' ∧ ∃ r : Int32, v = some (.int r) ∧ Q r σ') (fun X σ' => Wire σ' ∧ E X σ')) 4 [(0, .ref 0), (1, .int x1), (2, .int x2)] [] σ := by
      intro Bk k_Bk
      intro x1 x2  σ hW h
      refine V_iload_n 4 2 rfl rfl rfl ?_
      refine V_aload_n 5 0 rfl rfl rfl ?_
      obtain ⟨q1, eq1, hq1, h⟩ := h
      refine V_getR 6 13 rfl clX11 flX11_104 (by decide) (wsh hW rfl) (fun _ => rfl) eq1 ?_
      refine V_get (v := .int (σ.2.1 q1 0)) 7 0 rfl clX9 flX11_215 (by decide) (wT hW hq1) (fun _ => rfl) ?_
      refine V_icmp_ge 8 (tgt := 39) rfl (by decide) (fun hc => ?_) (fun hc => ?_)
      · replace h := h.1 hc
        refine V_iload_n 22 1 rfl rfl rfl ?_
        exact V_iret 23 rfl rfl ⟨hW, _, rfl, h⟩
      · replace h := h.2 hc
        refine V_pc 15 rfl ?_
        refine V_iload_n 9 1 rfl rfl rfl ?_
        refine V_aload_n 10 0 rfl rfl rfl ?_
        refine V_getR 11 5 rfl clX11 flX11_58 (by decide) (wsh hW rfl) (fun _ => rfl) (wrf hW 5 rfl) ?_
        refine V_aload_n 12 0 rfl rfl rfl ?_
        refine V_iload_n 13 2 rfl rfl rfl ?_
        refine V_callV 14 1 (as := [.int x2]) (rest := [.ref 19, .int x1]) rfl mlX11_249 yvX11_symbolOf rfl rfl clX11 (wsh hW rfl) (by decide) (by decide) (Nat.le_of_ble_eq_true rfl) (by decide) (by decide) (fun B9 => ceX11_symbolOf hl B9 hW h) (fun X9 τ9 h9 => VX_out rfl h9) ?_
        rintro v9 σ2 ⟨hW, u3, rfl, h⟩
        refine V_bipush 15 (v := (8 : Int32)) rfl (by decide) ?_
        refine V_iconst 16 (v := (2 : Int32)) rfl (by decide) ?_
        refine V_callV 17 3 (as := [.int u3, .int (8 : Int32), .int (2 : Int32)]) (rest := [.int x1]) rfl mlX11_333 yvX7_countAhead rfl rfl clX7 (wsh hW rfl) (by decide) (by decide) (Nat.le_of_ble_eq_true rfl) (by decide) (by decide) (fun B9 => ceX7_countAhead hl B9 hW h) (fun X9 τ9 h9 => VX_out rfl h9) ?_
        rintro v9 σ4 ⟨hW, u5, rfl, h⟩
        refine V_iadd 18 rfl ?_
        refine V_topi (fun v6 ev6 => ?_)
        replace h := h v6 ev6
        refine V_istore_n 19 (lv' := [(1, .int v6), (0, .ref 0), (2, .int x2)]) rfl rfl (by decide) rfl ?_
        obtain ⟨v7, ev7⟩ : ∃ z : Int32, z = (x2 + 1) := ⟨_, rfl⟩
        replace h := h v7 ev7
        refine V_iinc 20 2 (v := v7) (lv' := [(2, .int v7), (1, .int v6), (0, .ref 0)]) rfl rfl ((in_1 _).trans ev7.symm) (by decide) rfl ?_
        refine V_goto 21 (tgt := 4) rfl (by decide) ?_
        refine V_sub [2, 1, 0] (lv' := [(0, .ref 0), (1, .int v6), (2, .int v7)]) rfl ?_
        exact k_Bk v6 v7  σ4 hW h
    intro n
    induction n with
    | zero => intro x1 x2  σ hW h; exact absurd h id
    | succ n ih => exact step  _ ih
  intro σ hW h
  refine V_iconst 0 (v := (0 : Int32)) rfl (by decide) ?_
  refine V_istore_n 1 (lv' := [(1, .int (0 : Int32)), (0, .ref 0)]) rfl rfl (by decide) rfl ?_
  refine V_iconst 2 (v := (0 : Int32)) rfl (by decide) ?_
  refine V_istore_n 3 (lv' := [(2, .int (0 : Int32)), (1, .int (0 : Int32)), (0, .ref 0)]) rfl rfl (by decide) rfl ?_
  refine V_sub [2, 1, 0] (lv' := [(0, .ref 0), (1, .int (0 : Int32)), (2, .int (0 : Int32))]) rfl ?_
  obtain ⟨n, h⟩ := h
  exact k_l4 n (0 : Int32) (0 : Int32) σ hW h

def wX11_highestFrames_j46 (Q : Int32 → ab_S → Prop) (E : String → ab_S → Prop) (Bk : Int32 → Int32 → ab_S → Prop) (x1 : Int32) (x2 : Int32) (y0 : Int32) (σ : ab_S) : Prop := ∃ q1, σ.2.2.2 0 13 = some q1 ∧ isT q1 ∧ (vp_in x2 250 ∧ (wX7_frame (σ.2.1 (q1 + 1) x2.toNatClampNeg) (fun u3 σ2 => vp_in x2 250 ∧ (∀ σ4 : ab_S, σ4 = ab_I σ2 43 x2.toNatClampNeg (y0 + u3) → vp_in x2 250 ∧ (∀ v5 : Int32, v5 = (if x1 < (σ4.2.1 43 x2.toNatClampNeg) then (σ4.2.1 43 x2.toNatClampNeg) else x1) → ∀ v6 : Int32, v6 = (x2 + 1) → Bk v5 v6 σ4))) E σ))
def wX11_highestFrames_l4_b (Q : Int32 → ab_S → Prop) (E : String → ab_S → Prop) (Bk : Int32 → Int32 → ab_S → Prop) (x1 : Int32) (x2 : Int32) (σ : ab_S) : Prop := ∃ q7, σ.2.2.2 0 13 = some q7 ∧ isT q7 ∧ ((((σ.2.1 q7 0) ≤ x2) → Q x1 σ) ∧ (¬ ((σ.2.1 q7 0) ≤ x2) → ∃ q8, σ.2.2.2 0 13 = some q8 ∧ isT q8 ∧ (vp_in x2 250 ∧ (((¬ (σ.2.1 (q8 + 2) x2.toNatClampNeg) = (-1 : Int32)) → ∃ q9, σ.2.2.2 0 13 = some q9 ∧ isT q9 ∧ (vp_in x2 250 ∧ (vp_in (σ.2.1 (q9 + 2) x2.toNatClampNeg) 250 ∧ (wX11_highestFrames_j46 Q E Bk x1 x2 (σ.2.1 43 (σ.2.1 (q9 + 2) x2.toNatClampNeg).toNatClampNeg) σ)))) ∧ (¬ (¬ (σ.2.1 (q8 + 2) x2.toNatClampNeg) = (-1 : Int32)) → wX11_highestFrames_j46 Q E Bk x1 x2 (0 : Int32) σ)))))
def wX11_highestFrames_l4 (Q : Int32 → ab_S → Prop) (E : String → ab_S → Prop) : Nat → Int32 → Int32 → ab_S → Prop
  | 0, _, _, _ => False
  | n + 1, x1, x2, σ => wX11_highestFrames_l4_b Q E (wX11_highestFrames_l4 Q E n) x1 x2 σ
def wX11_highestFrames  (Q : Int32 → ab_S → Prop) (E : String → ab_S → Prop) (σ : ab_S) : Prop := ∃ n, wX11_highestFrames_l4 Q E n (0 : Int32) (0 : Int32) σ
set_option maxHeartbeats 4000000 in
set_option maxRecDepth 100000 in
theorem ceX11_highestFrames {l : Launch} (hl : l.stackTraces = false) (B : Nat)   {Q : Int32 → ab_S → Prop} {E : String → ab_S → Prop} {σ : ab_S} (hW : Wire σ) (h : wX11_highestFrames  Q E σ) : ab_Mt l yX11_highestFrames mdX11_highestFrames B 3 70 0 0 [.ref 0] σ (fun v σ' => Wire σ' ∧ ∃ r : Int32, v = some (.int r) ∧ Q r σ') (fun X σ' => Wire σ' ∧ E X σ') := by
  refine V_met hl ⟨rfl, rfl, by decide⟩ rfl dkX11_highestFrames (Nat.le_of_ble_eq_true rfl) ?_
  show V l mdX11_highestFrames B 3 70 0 0 (ab_End _ _) 0 [(0, .ref 0)] [] σ
  revert h hW
  revert σ
  have k_l4 : ∀ (n : Nat) (x1 : Int32) (x2 : Int32)  (σ : ab_S), Wire σ → wX11_highestFrames_l4 Q E n x1 x2 σ → V l mdX11_highestFrames B 3 70 0 0 (ab_End (fun v σ' => Wire σ' ∧ ∃ r : Int32, v = some (.int r) ∧ Q r σ') (fun X σ' => Wire σ' ∧ E X σ')) 4 [(0, .ref 0), (1, .int x1), (2, .int x2)] [] σ := by
    have step : ∀ (Bk : Int32 → Int32 → ab_S → Prop) (k_Bk : ∀ (x1 : Int32) (x2 : Int32)  (σ : ab_S), Wire σ → Bk x1 x2 σ → V l mdX11_highestFrames B 3 70 0 0 (ab_End (fun v σ' => Wire σ' ∧ ∃ r : Int32, v = some (.int r) ∧ Q r σ') (fun X σ' => Wire σ' ∧ E X σ')) 4 [(0, .ref 0), (1, .int x1), (2, .int x2)] [] σ), ∀ (x1 : Int32) (x2 : Int32)  (σ : ab_S), Wire σ → wX11_highestFrames_l4_b Q E Bk x1 x2 σ → V l mdX11_highestFrames B 3 70 0 0 (ab_End (fun v σ' => Wire σ' ∧ ∃ r : Int32, v = some (.int r) ∧ Q r σ') (fun X σ' => Wire σ' ∧ E X σ')) 4 [(0, .ref 0), (1, .int x1), (2, .int x2)] [] σ := by
      intro Bk k_Bk
      have k_j46 : ∀ (x1 : Int32) (x2 : Int32) (y0 : Int32)  (σ : ab_S), Wire σ → wX11_highestFrames_j46 Q E Bk x1 x2 y0 σ → V l mdX11_highestFrames B 3 70 0 0 (ab_End (fun v σ' => Wire σ' ∧ ∃ r : Int32, v = some (.int r) ∧ Q r σ') (fun X σ' => Wire σ' ∧ E X σ')) 46 [(0, .ref 0), (1, .int x1), (2, .int x2)] [.int y0] σ := by
        intro x1 x2 y0  σ hW h
        refine V_istore_n 26 (lv' := [(3, .int y0), (0, .ref 0), (1, .int x1), (2, .int x2)]) rfl rfl (by decide) rfl ?_
        refine V_aload_n 27 1 rfl rfl rfl ?_
        refine V_getR 28 10 rfl clX11 flX11_87 (by decide) (wsh hW rfl) (fun _ => rfl) (wrf hW 10 rfl) ?_
        refine V_iload_n 29 3 rfl rfl rfl ?_
        refine V_iload_n 30 0 rfl rfl rfl ?_
        refine V_aload_n 31 1 rfl rfl rfl ?_
        refine V_pc 54 rfl ?_
        refine V_getR 32 5 rfl clX11 flX11_58 (by decide) (wsh hW rfl) (fun _ => rfl) (wrf hW 5 rfl) ?_
        refine V_aload_n 33 1 rfl rfl rfl ?_
        obtain ⟨q1, eq1, hq1, h⟩ := h
        refine V_getR 34 13 rfl clX11 flX11_104 (by decide) (wsh hW rfl) (fun _ => rfl) eq1 ?_
        refine V_getR 35 1 rfl clX9 flX11_240 (by decide) (wT hW hq1) (fun _ => rfl) (wT_f1 hW hq1) ?_
        refine V_iload_n 36 3 rfl rfl rfl ?_
        obtain ⟨hin, h⟩ := h
        refine V_iald 37 rfl (wT_a1 hW hq1) hin ?_
        refine V_pc 66 rfl ?_
        refine V_callV 38 1 (as := [.int (σ.2.1 (q1 + 1) x2.toNatClampNeg)]) (rest := [.int y0, .int x2, .ref 43]) rfl mlX11_337 yvX7_frame rfl rfl clX7 (wsh hW rfl) (by decide) (by decide) (Nat.le_of_ble_eq_true rfl) (by decide) (by decide) (fun B9 => ceX7_frame hl B9 hW h) (fun X9 τ9 h9 => VX_out rfl h9) ?_
        rintro v9 σ2 ⟨hW, u3, rfl, h⟩
        refine V_iadd 39 rfl ?_
        obtain ⟨hin, h⟩ := h
        refine V_iast 40 rfl (wsh hW rfl) hin ?_
        refine V_nm (fun σ4 eσ4 => ?_)
        replace h := h σ4 eσ4
        have hW := wire_I eσ4 hW
        refine V_iload_n 41 2 rfl rfl rfl ?_
        refine V_aload_n 42 1 rfl rfl rfl ?_
        refine V_getR 43 10 rfl clX11 flX11_87 (by decide) (wsh hW rfl) (fun _ => rfl) (wrf hW 10 rfl) ?_
        refine V_pc 76 rfl ?_
        refine V_iload_n 44 3 rfl rfl rfl ?_
        obtain ⟨hin, h⟩ := h
        refine V_iald 45 rfl (wsh hW rfl) hin ?_
        refine V_max 46 rfl mlX11_340 mx_1 mx_2 mx_3 (by decide) (Nat.le_of_ble_eq_true rfl) ?_
        refine V_topi (fun v5 ev5 => ?_)
        replace h := h v5 ev5
        refine V_istore_n 47 (lv' := [(1, .int v5), (3, .int y0), (0, .ref 0), (2, .int x2)]) rfl rfl (by decide) rfl ?_
        obtain ⟨v6, ev6⟩ : ∃ z : Int32, z = (x2 + 1) := ⟨_, rfl⟩
        replace h := h v6 ev6
        refine V_iinc 48 3 (v := v6) (lv' := [(2, .int v6), (1, .int v5), (3, .int y0), (0, .ref 0)]) rfl rfl ((in_1 _).trans ev6.symm) (by decide) rfl ?_
        refine V_goto 49 (tgt := 4) rfl (by decide) ?_
        refine V_sub [3, 1, 0] (lv' := [(0, .ref 0), (1, .int v5), (2, .int v6)]) rfl ?_
        exact k_Bk v5 v6  σ4 hW h
      intro x1 x2  σ hW h
      refine V_iload_n 4 2 rfl rfl rfl ?_
      refine V_aload_n 5 0 rfl rfl rfl ?_
      obtain ⟨q7, eq7, hq7, h⟩ := h
      refine V_getR 6 13 rfl clX11 flX11_104 (by decide) (wsh hW rfl) (fun _ => rfl) eq7 ?_
      refine V_get (v := .int (σ.2.1 q7 0)) 7 0 rfl clX9 flX11_215 (by decide) (wT hW hq7) (fun _ => rfl) ?_
      refine V_icmp_ge 8 (tgt := 88) rfl (by decide) (fun hc => ?_) (fun hc => ?_)
      · replace h := h.1 hc
        refine V_iload_n 50 1 rfl rfl rfl ?_
        exact V_iret 51 rfl rfl ⟨hW, _, rfl, h⟩
      · replace h := h.2 hc
        refine V_pc 15 rfl ?_
        refine V_aload_n 9 0 rfl rfl rfl ?_
        obtain ⟨q8, eq8, hq8, h⟩ := h
        refine V_getR 10 13 rfl clX11 flX11_104 (by decide) (wsh hW rfl) (fun _ => rfl) eq8 ?_
        refine V_getR 11 2 rfl clX9 flX11_243 (by decide) (wT hW hq8) (fun _ => rfl) (wT_f2 hW hq8) ?_
        refine V_iload_n 12 2 rfl rfl rfl ?_
        obtain ⟨hin, h⟩ := h
        refine V_iald 13 rfl (wT_a2 hW hq8) hin ?_
        refine V_iconst 14 (v := (-1 : Int32)) rfl (by decide) ?_
        refine V_pc 25 rfl ?_
        refine V_icmp_ne 15 (tgt := 32) rfl (by decide) (fun hc => ?_) (fun hc => ?_)
        · replace h := h.1 hc
          refine V_aload_n 18 0 rfl rfl rfl ?_
          refine V_getR 19 10 rfl clX11 flX11_87 (by decide) (wsh hW rfl) (fun _ => rfl) (wrf hW 10 rfl) ?_
          refine V_aload_n 20 0 rfl rfl rfl ?_
          obtain ⟨q9, eq9, hq9, h⟩ := h
          refine V_getR 21 13 rfl clX11 flX11_104 (by decide) (wsh hW rfl) (fun _ => rfl) eq9 ?_
          refine V_getR 22 2 rfl clX9 flX11_243 (by decide) (wT hW hq9) (fun _ => rfl) (wT_f2 hW hq9) ?_
          refine V_iload_n 23 2 rfl rfl rfl ?_
          refine V_pc 44 rfl ?_
          obtain ⟨hin, h⟩ := h
          refine V_iald 24 rfl (wT_a2 hW hq9) hin ?_
          obtain ⟨hin, h⟩ := h
          refine V_iald 25 rfl (wsh hW rfl) hin ?_
          exact k_j46 x1 x2 (σ.2.1 43 (σ.2.1 (q9 + 2) x2.toNatClampNeg).toNatClampNeg) σ hW h
        · replace h := h.2 hc
          refine V_pc 28 rfl ?_
          refine V_iconst 16 (v := (0 : Int32)) rfl (by decide) ?_
          refine V_goto 17 (tgt := 46) rfl (by decide) ?_
          exact k_j46 x1 x2 (0 : Int32) σ hW h
    intro n
    induction n with
    | zero => intro x1 x2  σ hW h; exact absurd h id
    | succ n ih => exact step  _ ih
  intro σ hW h
  refine V_iconst 0 (v := (0 : Int32)) rfl (by decide) ?_
  refine V_istore_n 1 (lv' := [(1, .int (0 : Int32)), (0, .ref 0)]) rfl rfl (by decide) rfl ?_
  refine V_iconst 2 (v := (0 : Int32)) rfl (by decide) ?_
  refine V_istore_n 3 (lv' := [(2, .int (0 : Int32)), (1, .int (0 : Int32)), (0, .ref 0)]) rfl rfl (by decide) rfl ?_
  refine V_sub [2, 1, 0] (lv' := [(0, .ref 0), (1, .int (0 : Int32)), (2, .int (0 : Int32))]) rfl ?_
  obtain ⟨n, h⟩ := h
  exact k_l4 n (0 : Int32) (0 : Int32) σ hW h

def wX11_count (a0 : Int32) (Q : Int32 → ab_S → Prop) (E : String → ab_S → Prop) (σ : ab_S) : Prop := wX11_needTree (fun σ1 => (a0 = 0 → ∃ q2, σ1.2.2.2 0 13 = some q2 ∧ isT q2 ∧ (Q (σ1.2.1 q2 0) σ1)) ∧ (¬ a0 = 0 → (a0 = 1 → wX11_countAttributes (fun u4 σ3 => Q u4 σ3) E σ1) ∧ (¬ a0 = 1 → (a0 = 2 → wX11_countVisits (fun u6 σ5 => Q u6 σ5) E σ1) ∧ (¬ a0 = 2 → (a0 = 3 → wX11_countErrors (fun u8 σ7 => Q u8 σ7) E σ1) ∧ (¬ a0 = 3 → (a0 = 4 → wX11_countKept (fun u10 σ9 => Q u10 σ9) E σ1) ∧ (¬ a0 = 4 → (a0 = 5 → wX11_highestFrames (fun u12 σ11 => Q u12 σ11) E σ1) ∧ (¬ a0 = 5 → (a0 = 6 → Q (σ1.2.1 19 5) σ1) ∧ (¬ a0 = 6 → E "java/lang/IllegalArgumentException" σ1)))))))) E σ
set_option maxHeartbeats 4000000 in
set_option maxRecDepth 100000 in
theorem ceX11_count {l : Launch} (hl : l.stackTraces = false) (B : Nat) {a0 : Int32}  {Q : Int32 → ab_S → Prop} {E : String → ab_S → Prop} {σ : ab_S} (hW : Wire σ) (h : wX11_count a0 Q E σ) : ab_Mt l yX11_count mdX11_count B 7 120 2 12 [.ref 0, .int a0] σ (fun v σ' => Wire σ' ∧ ∃ r : Int32, v = some (.int r) ∧ Q r σ') (fun X σ' => Wire σ' ∧ E X σ') := by
  refine V_met hl ⟨rfl, rfl, by decide⟩ rfl dkX11_count (Nat.le_of_ble_eq_true rfl) ?_
  show V l mdX11_count B 7 120 2 12 (ab_End _ _) 0 [(0, .ref 0), (1, .int a0)] [] σ
  refine V_aload_n 0 0 rfl rfl rfl ?_
  refine V_callV 1 0 (as := []) (rest := []) rfl mlX11_212 yvX11_needTree rfl rfl clX11 (wsh hW rfl) (by decide) (by decide) (Nat.le_of_ble_eq_true rfl) (by decide) (by decide) (fun B9 => ceX11_needTree hl B9 hW h) (fun X9 τ9 h9 => VX_out rfl h9) ?_
  rintro v9 σ1 ⟨hW, rfl, h⟩
  refine V_iload_n 2 1 rfl rfl rfl ?_
  by_cases hs0 : a0 = 0
  · replace h := h.1 hs0
    refine V_tab 3 (v := 0) (off := 43) (tgt := 48) rfl (by rw [hs0]; rfl) (by decide) rfl (by decide) ?_
    refine V_aload_n 4 0 rfl rfl rfl ?_
    obtain ⟨q2, eq2, hq2, h⟩ := h
    refine V_getR 5 13 rfl clX11 flX11_104 (by decide) (wsh hW rfl) (fun _ => rfl) eq2 ?_
    refine V_get (v := .int (σ1.2.1 q2 0)) 6 0 rfl clX9 flX11_215 (by decide) (wT hW hq2) (fun _ => rfl) ?_
    exact V_iret 7 rfl rfl ⟨hW, _, rfl, h⟩
  · replace h := h.2 hs0
    by_cases hs1 : a0 = 1
    · replace h := h.1 hs1
      refine V_tab 3 (v := 1) (off := 51) (tgt := 56) rfl (by rw [hs1]; rfl) (by decide) rfl (by decide) ?_
      refine V_aload_n 8 0 rfl rfl rfl ?_
      refine V_callV 9 0 (as := []) (rest := []) rfl mlX11_218 yvX11_countAttributes rfl rfl clX11 (wsh hW rfl) (by decide) (by decide) (Nat.le_of_ble_eq_true rfl) (by decide) (by decide) (fun B9 => ceX11_countAttributes hl B9 hW h) (fun X9 τ9 h9 => VX_out rfl h9) ?_
      rintro v9 σ3 ⟨hW, u4, rfl, h⟩
      exact V_iret 10 rfl rfl ⟨hW, _, rfl, h⟩
    · replace h := h.2 hs1
      by_cases hs2 : a0 = 2
      · replace h := h.1 hs2
        refine V_tab 3 (v := 2) (off := 56) (tgt := 61) rfl (by rw [hs2]; rfl) (by decide) rfl (by decide) ?_
        refine V_aload_n 11 0 rfl rfl rfl ?_
        refine V_callV 12 0 (as := []) (rest := []) rfl mlX11_222 yvX11_countVisits rfl rfl clX11 (wsh hW rfl) (by decide) (by decide) (Nat.le_of_ble_eq_true rfl) (by decide) (by decide) (fun B9 => ceX11_countVisits hl B9 hW h) (fun X9 τ9 h9 => VX_out rfl h9) ?_
        rintro v9 σ5 ⟨hW, u6, rfl, h⟩
        exact V_iret 13 rfl rfl ⟨hW, _, rfl, h⟩
      · replace h := h.2 hs2
        by_cases hs3 : a0 = 3
        · replace h := h.1 hs3
          refine V_tab 3 (v := 3) (off := 61) (tgt := 66) rfl (by rw [hs3]; rfl) (by decide) rfl (by decide) ?_
          refine V_aload_n 14 0 rfl rfl rfl ?_
          refine V_callV 15 0 (as := []) (rest := []) rfl mlX11_225 yvX11_countErrors rfl rfl clX11 (wsh hW rfl) (by decide) (by decide) (Nat.le_of_ble_eq_true rfl) (by decide) (by decide) (fun B9 => ceX11_countErrors hl B9 hW h) (fun X9 τ9 h9 => VX_out rfl h9) ?_
          rintro v9 σ7 ⟨hW, u8, rfl, h⟩
          exact V_iret 16 rfl rfl ⟨hW, _, rfl, h⟩
        · replace h := h.2 hs3
          by_cases hs4 : a0 = 4
          · replace h := h.1 hs4
            refine V_tab 3 (v := 4) (off := 66) (tgt := 71) rfl (by rw [hs4]; rfl) (by decide) rfl (by decide) ?_
            refine V_aload_n 17 0 rfl rfl rfl ?_
            refine V_callV 18 0 (as := []) (rest := []) rfl mlX11_228 yvX11_countKept rfl rfl clX11 (wsh hW rfl) (by decide) (by decide) (Nat.le_of_ble_eq_true rfl) (by decide) (by decide) (fun B9 => ceX11_countKept hl B9 hW h) (fun X9 τ9 h9 => VX_out rfl h9) ?_
            rintro v9 σ9 ⟨hW, u10, rfl, h⟩
            exact V_iret 19 rfl rfl ⟨hW, _, rfl, h⟩
          · replace h := h.2 hs4
            by_cases hs5 : a0 = 5
            · replace h := h.1 hs5
              refine V_tab 3 (v := 5) (off := 71) (tgt := 76) rfl (by rw [hs5]; rfl) (by decide) rfl (by decide) ?_
              refine V_aload_n 20 0 rfl rfl rfl ?_
              refine V_callV 21 0 (as := []) (rest := []) rfl mlX11_231 yvX11_highestFrames rfl rfl clX11 (wsh hW rfl) (by decide) (by decide) (Nat.le_of_ble_eq_true rfl) (by decide) (by decide) (fun B9 => ceX11_highestFrames hl B9 hW h) (fun X9 τ9 h9 => VX_out rfl h9) ?_
              rintro v9 σ11 ⟨hW, u12, rfl, h⟩
              exact V_iret 22 rfl rfl ⟨hW, _, rfl, h⟩
            · replace h := h.2 hs5
              by_cases hs6 : a0 = 6
              · replace h := h.1 hs6
                refine V_tab 3 (v := 6) (off := 76) (tgt := 81) rfl (by rw [hs6]; rfl) (by decide) rfl (by decide) ?_
                refine V_aload_n 23 0 rfl rfl rfl ?_
                refine V_getR 24 5 rfl clX11 flX11_58 (by decide) (wsh hW rfl) (fun _ => rfl) (wrf hW 5 rfl) ?_
                refine V_get (v := .int (σ1.2.1 19 5)) 25 5 rfl clX7 flX11_234 (by decide) (wsh hW rfl) (fun _ => rfl) ?_
                exact V_iret 26 rfl rfl ⟨hW, _, rfl, h⟩
              · replace h := h.2 hs6
                refine V_tabOut 3 (tgt := 89) rfl (by have hq0 := lv_neT hs0 (show Int32.toInt 0 = 0 from by decide); have hq1 := lv_neT hs1 (show Int32.toInt 1 = 1 from by decide); have hq2 := lv_neT hs2 (show Int32.toInt 2 = 2 from by decide); have hq3 := lv_neT hs3 (show Int32.toInt 3 = 3 from by decide); have hq4 := lv_neT hs4 (show Int32.toInt 4 = 4 from by decide); have hq5 := lv_neT hs5 (show Int32.toInt 5 = 5 from by decide); have hq6 := lv_neT hs6 (show Int32.toInt 6 = 6 from by decide); omega) (by decide) ?_
                exact V_throw 27 rfl rfl rfl rfl xwX11_115_117 (by decide) (Nat.le_of_ble_eq_true rfl) (by decide) (by decide) rfl ⟨hW, h⟩

def wX11_needIndex_j9 (a0 : Int32) (a1 : Int32) (Q : ab_S → Prop) (E : String → ab_S → Prop)  (σ : ab_S) : Prop := E "java/lang/IndexOutOfBoundsException" σ
def wX11_needIndex (a0 : Int32) (a1 : Int32) (Q : ab_S → Prop) (E : String → ab_S → Prop) (σ : ab_S) : Prop := ((a0 < 0) → wX11_needIndex_j9 a0 a1 Q E σ) ∧ (¬ (a0 < 0) → ((a0 < a1) → Q σ) ∧ (¬ (a0 < a1) → wX11_needIndex_j9 a0 a1 Q E σ))
set_option maxHeartbeats 4000000 in
set_option maxRecDepth 100000 in
theorem ceX11_needIndex {l : Launch} (hl : l.stackTraces = false) (B : Nat) {a0 : Int32} {a1 : Int32}  {Q : ab_S → Prop} {E : String → ab_S → Prop} {σ : ab_S} (hW : Wire σ) (h : wX11_needIndex a0 a1 Q E σ) : ab_Mt l yX11_needIndex mdX11_needIndex B 6 100 1 6 [.int a0, .int a1] σ (fun v σ' => Wire σ' ∧ v = none ∧ Q σ') (fun X σ' => Wire σ' ∧ E X σ') := by
  refine V_met hl ⟨rfl, rfl, by decide⟩ rfl dkX11_needIndex (Nat.le_of_ble_eq_true rfl) ?_
  show V l mdX11_needIndex B 6 100 1 6 (ab_End _ _) 0 [(0, .int a0), (1, .int a1)] [] σ
  revert h hW
  revert σ
  have k_j9 : ∀   (σ : ab_S), Wire σ → wX11_needIndex_j9 a0 a1 Q E  σ → V l mdX11_needIndex B 6 100 1 6 (ab_End (fun v σ' => Wire σ' ∧ v = none ∧ Q σ') (fun X σ' => Wire σ' ∧ E X σ')) 9 [] [] σ := by
    intro   σ hW h
    exact V_throw 5 rfl rfl rfl rfl xwX11_351_353 (by decide) (Nat.le_of_ble_eq_true rfl) (by decide) (by decide) rfl ⟨hW, h⟩
  intro σ hW h
  refine V_iload_n 0 0 rfl rfl rfl ?_
  refine V_if_lt 1 (tgt := 9) rfl (by decide) (fun hc => ?_) (fun hc => ?_)
  · replace h := h.1 hc
    refine V_sub [] (lv' := []) rfl ?_
    exact k_j9 σ hW h
  · replace h := h.2 hc
    refine V_pc 4 rfl ?_
    refine V_iload_n 2 0 rfl rfl rfl ?_
    refine V_iload_n 3 1 rfl rfl rfl ?_
    refine V_icmp_lt 4 (tgt := 17) rfl (by decide) (fun hc => ?_) (fun hc => ?_)
    · replace h := h.1 hc
      exact V_vret 9 rfl rfl ⟨hW, rfl, h⟩
    · replace h := h.2 hc
      refine V_pc 9 rfl ?_
      refine V_sub [] (lv' := []) rfl ?_
      exact k_j9 σ hW h

def wX11_needNode (a0 : Int32) (Q : ab_S → Prop) (E : String → ab_S → Prop) (σ : ab_S) : Prop := ∃ q1, σ.2.2.2 0 13 = some q1 ∧ isT q1 ∧ (wX11_needIndex a0 (σ.2.1 q1 0) (fun σ2 => Q σ2) E σ)
set_option maxHeartbeats 4000000 in
set_option maxRecDepth 100000 in
theorem ceX11_needNode {l : Launch} (hl : l.stackTraces = false) (B : Nat) {a0 : Int32}  {Q : ab_S → Prop} {E : String → ab_S → Prop} {σ : ab_S} (hW : Wire σ) (h : wX11_needNode a0 Q E σ) : ab_Mt l yX11_needNode mdX11_needNode B 7 121 1 6 [.ref 0, .int a0] σ (fun v σ' => Wire σ' ∧ v = none ∧ Q σ') (fun X σ' => Wire σ' ∧ E X σ') := by
  refine V_met hl ⟨rfl, rfl, by decide⟩ rfl dkX11_needNode (Nat.le_of_ble_eq_true rfl) ?_
  show V l mdX11_needNode B 7 121 1 6 (ab_End _ _) 0 [(0, .ref 0), (1, .int a0)] [] σ
  refine V_iload_n 0 1 rfl rfl rfl ?_
  refine V_aload_n 1 0 rfl rfl rfl ?_
  obtain ⟨q1, eq1, hq1, h⟩ := h
  refine V_getR 2 13 rfl clX11 flX11_104 (by decide) (wsh hW rfl) (fun _ => rfl) eq1 ?_
  refine V_get (v := .int (σ.2.1 q1 0)) 3 0 rfl clX9 flX11_215 (by decide) (wT hW hq1) (fun _ => rfl) ?_
  refine V_callS 4 2 (as := [.int a0, .int (σ.2.1 q1 0)]) (rest := []) rfl mlX11_285 yvX11_needIndex rfl rfl (by decide) (by decide) (Nat.le_of_ble_eq_true rfl) (by decide) (by decide) (fun B9 => ceX11_needIndex hl B9 hW h) (fun X9 τ9 h9 => VX_out rfl h9) ?_
  rintro v9 σ2 ⟨hW, rfl, h⟩
  exact V_vret 5 rfl rfl ⟨hW, rfl, h⟩

def wX11_node (a0 : Int32) (a1 : Int32) (Q : Int32 → ab_S → Prop) (E : String → ab_S → Prop) (σ : ab_S) : Prop := wX11_needTree (fun σ1 => wX11_needNode a0 (fun σ2 => (a1 = 0 → ∃ q3, σ2.2.2.2 0 13 = some q3 ∧ isT q3 ∧ (vp_in a0 250 ∧ (Q (σ2.2.1 (q3 + 1) a0.toNatClampNeg) σ2))) ∧ (¬ a1 = 0 → (a1 = 1 → ∃ q4, σ2.2.2.2 0 13 = some q4 ∧ isT q4 ∧ (vp_in a0 250 ∧ (Q (σ2.2.1 (q4 + 2) a0.toNatClampNeg) σ2))) ∧ (¬ a1 = 1 → (a1 = 2 → ∃ q5, σ2.2.2.2 0 13 = some q5 ∧ isT q5 ∧ (vp_in a0 250 ∧ (Q (σ2.2.1 (q5 + 3) a0.toNatClampNeg) σ2))) ∧ (¬ a1 = 2 → (a1 = 3 → wX11_symbolOf a0 (fun u7 σ6 => Q u7 σ6) E σ2) ∧ (¬ a1 = 3 → E "java/lang/IllegalArgumentException" σ2))))) E σ1) E σ
set_option maxHeartbeats 4000000 in
set_option maxRecDepth 100000 in
theorem ceX11_node {l : Launch} (hl : l.stackTraces = false) (B : Nat) {a0 : Int32} {a1 : Int32}  {Q : Int32 → ab_S → Prop} {E : String → ab_S → Prop} {σ : ab_S} (hW : Wire σ) (h : wX11_node a0 a1 Q E σ) : ab_Mt l yX11_node mdX11_node B 8 142 3 18 [.ref 0, .int a0, .int a1] σ (fun v σ' => Wire σ' ∧ ∃ r : Int32, v = some (.int r) ∧ Q r σ') (fun X σ' => Wire σ' ∧ E X σ') := by
  refine V_met hl ⟨rfl, rfl, by decide⟩ rfl dkX11_node (Nat.le_of_ble_eq_true rfl) ?_
  show V l mdX11_node B 8 142 3 18 (ab_End _ _) 0 [(0, .ref 0), (1, .int a0), (2, .int a1)] [] σ
  refine V_aload_n 0 0 rfl rfl rfl ?_
  refine V_callV 1 0 (as := []) (rest := []) rfl mlX11_212 yvX11_needTree rfl rfl clX11 (wsh hW rfl) (by decide) (by decide) (Nat.le_of_ble_eq_true rfl) (by decide) (by decide) (fun B9 => ceX11_needTree hl B9 hW h) (fun X9 τ9 h9 => VX_out rfl h9) ?_
  rintro v9 σ1 ⟨hW, rfl, h⟩
  refine V_aload_n 2 0 rfl rfl rfl ?_
  refine V_iload_n 3 1 rfl rfl rfl ?_
  refine V_callV 4 1 (as := [.int a0]) (rest := []) rfl mlX11_237 yvX11_needNode rfl rfl clX11 (wsh hW rfl) (by decide) (by decide) (Nat.le_of_ble_eq_true rfl) (by decide) (by decide) (fun B9 => ceX11_needNode hl B9 hW h) (fun X9 τ9 h9 => VX_out rfl h9) ?_
  rintro v9 σ2 ⟨hW, rfl, h⟩
  refine V_iload_n 5 2 rfl rfl rfl ?_
  by_cases hs0 : a1 = 0
  · replace h := h.1 hs0
    refine V_tab 6 (v := 0) (off := 30) (tgt := 40) rfl (by rw [hs0]; rfl) (by decide) rfl (by decide) ?_
    refine V_aload_n 7 0 rfl rfl rfl ?_
    obtain ⟨q3, eq3, hq3, h⟩ := h
    refine V_getR 8 13 rfl clX11 flX11_104 (by decide) (wsh hW rfl) (fun _ => rfl) eq3 ?_
    refine V_getR 9 1 rfl clX9 flX11_240 (by decide) (wT hW hq3) (fun _ => rfl) (wT_f1 hW hq3) ?_
    refine V_iload_n 10 1 rfl rfl rfl ?_
    obtain ⟨hin, h⟩ := h
    refine V_iald 11 rfl (wT_a1 hW hq3) hin ?_
    exact V_iret 12 rfl rfl ⟨hW, _, rfl, h⟩
  · replace h := h.2 hs0
    by_cases hs1 : a1 = 1
    · replace h := h.1 hs1
      refine V_tab 6 (v := 1) (off := 40) (tgt := 50) rfl (by rw [hs1]; rfl) (by decide) rfl (by decide) ?_
      refine V_aload_n 13 0 rfl rfl rfl ?_
      obtain ⟨q4, eq4, hq4, h⟩ := h
      refine V_getR 14 13 rfl clX11 flX11_104 (by decide) (wsh hW rfl) (fun _ => rfl) eq4 ?_
      refine V_getR 15 2 rfl clX9 flX11_243 (by decide) (wT hW hq4) (fun _ => rfl) (wT_f2 hW hq4) ?_
      refine V_iload_n 16 1 rfl rfl rfl ?_
      obtain ⟨hin, h⟩ := h
      refine V_iald 17 rfl (wT_a2 hW hq4) hin ?_
      exact V_iret 18 rfl rfl ⟨hW, _, rfl, h⟩
    · replace h := h.2 hs1
      by_cases hs2 : a1 = 2
      · replace h := h.1 hs2
        refine V_tab 6 (v := 2) (off := 50) (tgt := 60) rfl (by rw [hs2]; rfl) (by decide) rfl (by decide) ?_
        refine V_aload_n 19 0 rfl rfl rfl ?_
        obtain ⟨q5, eq5, hq5, h⟩ := h
        refine V_getR 20 13 rfl clX11 flX11_104 (by decide) (wsh hW rfl) (fun _ => rfl) eq5 ?_
        refine V_getR 21 3 rfl clX9 flX11_246 (by decide) (wT hW hq5) (fun _ => rfl) (wT_f3 hW hq5) ?_
        refine V_iload_n 22 1 rfl rfl rfl ?_
        obtain ⟨hin, h⟩ := h
        refine V_iald 23 rfl (wT_a3 hW hq5) hin ?_
        exact V_iret 24 rfl rfl ⟨hW, _, rfl, h⟩
      · replace h := h.2 hs2
        by_cases hs3 : a1 = 3
        · replace h := h.1 hs3
          refine V_tab 6 (v := 3) (off := 60) (tgt := 70) rfl (by rw [hs3]; rfl) (by decide) rfl (by decide) ?_
          refine V_aload_n 25 0 rfl rfl rfl ?_
          refine V_iload_n 26 1 rfl rfl rfl ?_
          refine V_callV 27 1 (as := [.int a0]) (rest := []) rfl mlX11_249 yvX11_symbolOf rfl rfl clX11 (wsh hW rfl) (by decide) (by decide) (Nat.le_of_ble_eq_true rfl) (by decide) (by decide) (fun B9 => ceX11_symbolOf hl B9 hW h) (fun X9 τ9 h9 => VX_out rfl h9) ?_
          rintro v9 σ6 ⟨hW, u7, rfl, h⟩
          exact V_iret 28 rfl rfl ⟨hW, _, rfl, h⟩
        · replace h := h.2 hs3
          refine V_tabOut 6 (tgt := 76) rfl (by have hq0 := lv_neT hs0 (show Int32.toInt 0 = 0 from by decide); have hq1 := lv_neT hs1 (show Int32.toInt 1 = 1 from by decide); have hq2 := lv_neT hs2 (show Int32.toInt 2 = 2 from by decide); have hq3 := lv_neT hs3 (show Int32.toInt 3 = 3 from by decide); omega) (by decide) ?_
          exact V_throw 29 rfl rfl rfl rfl xwX11_115_117 (by decide) (Nat.le_of_ble_eq_true rfl) (by decide) (by decide) rfl ⟨hW, h⟩

def wX11_needNodeAttribute (a0 : Int32) (a1 : Int32) (Q : ab_S → Prop) (E : String → ab_S → Prop) (σ : ab_S) : Prop := wX11_needNode a0 (fun σ1 => ∃ q2, σ1.2.2.2 0 11 = some q2 ∧ isG q2 ∧ (wX11_symbolOf a0 (fun u4 σ3 => vp_in u4 12 ∧ (wX11_needIndex a1 (σ3.2.1 (q2 + 2) u4.toNatClampNeg) (fun σ5 => Q σ5) E σ3)) E σ1)) E σ
set_option maxHeartbeats 4000000 in
set_option maxRecDepth 100000 in
theorem ceX11_needNodeAttribute {l : Launch} (hl : l.stackTraces = false) (B : Nat) {a0 : Int32} {a1 : Int32}  {Q : ab_S → Prop} {E : String → ab_S → Prop} {σ : ab_S} (hW : Wire σ) (h : wX11_needNodeAttribute a0 a1 Q E σ) : ab_Mt l yX11_needNodeAttribute mdX11_needNodeAttribute B 8 142 2 12 [.ref 0, .int a0, .int a1] σ (fun v σ' => Wire σ' ∧ v = none ∧ Q σ') (fun X σ' => Wire σ' ∧ E X σ') := by
  refine V_met hl ⟨rfl, rfl, by decide⟩ rfl dkX11_needNodeAttribute (Nat.le_of_ble_eq_true rfl) ?_
  show V l mdX11_needNodeAttribute B 8 142 2 12 (ab_End _ _) 0 [(0, .ref 0), (1, .int a0), (2, .int a1)] [] σ
  refine V_aload_n 0 0 rfl rfl rfl ?_
  refine V_iload_n 1 1 rfl rfl rfl ?_
  refine V_callV 2 1 (as := [.int a0]) (rest := []) rfl mlX11_237 yvX11_needNode rfl rfl clX11 (wsh hW rfl) (by decide) (by decide) (Nat.le_of_ble_eq_true rfl) (by decide) (by decide) (fun B9 => ceX11_needNode hl B9 hW h) (fun X9 τ9 h9 => VX_out rfl h9) ?_
  rintro v9 σ1 ⟨hW, rfl, h⟩
  refine V_iload_n 3 2 rfl rfl rfl ?_
  refine V_aload_n 4 0 rfl rfl rfl ?_
  obtain ⟨q2, eq2, hq2, h⟩ := h
  refine V_getR 5 11 rfl clX11 flX11_94 (by decide) (wsh hW rfl) (fun _ => rfl) eq2 ?_
  refine V_getR 6 2 rfl clX0 flX11_328 (by decide) (wG hW hq2) (fun _ => rfl) (wG_f2 hW hq2) ?_
  refine V_aload_n 7 0 rfl rfl rfl ?_
  refine V_pc 14 rfl ?_
  refine V_iload_n 8 1 rfl rfl rfl ?_
  refine V_callV 9 1 (as := [.int a0]) (rest := [.ref (q2 + 2), .int a1]) rfl mlX11_249 yvX11_symbolOf rfl rfl clX11 (wsh hW rfl) (by decide) (by decide) (Nat.le_of_ble_eq_true rfl) (by decide) (by decide) (fun B9 => ceX11_symbolOf hl B9 hW h) (fun X9 τ9 h9 => VX_out rfl h9) ?_
  rintro v9 σ3 ⟨hW, u4, rfl, h⟩
  obtain ⟨hin, h⟩ := h
  refine V_iald 10 rfl (wG_a2 hW hq2) hin ?_
  refine V_callS 11 2 (as := [.int a1, .int (σ3.2.1 (q2 + 2) u4.toNatClampNeg)]) (rest := []) rfl mlX11_285 yvX11_needIndex rfl rfl (by decide) (by decide) (Nat.le_of_ble_eq_true rfl) (by decide) (by decide) (fun B9 => ceX11_needIndex hl B9 hW h) (fun X9 τ9 h9 => VX_out rfl h9) ?_
  rintro v9 σ5 ⟨hW, rfl, h⟩
  exact V_vret 12 rfl rfl ⟨hW, rfl, h⟩

def wX11_number (a0 : Int64) (Q : Int32 → ab_S → Prop) (E : String → ab_S → Prop) (σ : ab_S) : Prop := ((¬ (lg_cmp a0 (-9223372036854775808 : Int64)) = 0) → Q a0.toInt32 σ) ∧ (¬ (¬ (lg_cmp a0 (-9223372036854775808 : Int64)) = 0) → E "java/lang/ArithmeticException" σ)
set_option maxHeartbeats 4000000 in
set_option maxRecDepth 100000 in
theorem ceX11_number {l : Launch} (hl : l.stackTraces = false) (B : Nat) {a0 : Int64}  {Q : Int32 → ab_S → Prop} {E : String → ab_S → Prop} {σ : ab_S} (hW : Wire σ) (h : wX11_number a0 Q E σ) : ab_Mt l yX11_number mdX11_number B 6 100 1 6 [.long a0] σ (fun v σ' => Wire σ' ∧ ∃ r : Int32, v = some (.int r) ∧ Q r σ') (fun X σ' => Wire σ' ∧ E X σ') := by
  refine V_met hl ⟨rfl, rfl, by decide⟩ rfl dkX11_number (Nat.le_of_ble_eq_true rfl) ?_
  show V l mdX11_number B 6 100 1 6 (ab_End _ _) 0 [(0, .long a0)] [] σ
  refine V_lload_n 0 0 rfl rfl rfl ?_
  refine V_ldc2 1 (v := (-9223372036854775808 : Int64)) rfl ctX11_331 ?_
  refine V_lcmp 2 rfl ?_
  refine V_if_ne 3 (tgt := 16) rfl (by decide) (fun hc => ?_) (fun hc => ?_)
  · replace h := h.1 hc
    refine V_lload_n 8 0 rfl rfl rfl ?_
    refine V_l2i 9 rfl ?_
    exact V_iret 10 rfl rfl ⟨hW, _, rfl, h⟩
  · replace h := h.2 hc
    refine V_pc 8 rfl ?_
    exact V_throw 4 rfl rfl rfl rfl xwX11_345_347 (by decide) (Nat.le_of_ble_eq_true rfl) (by decide) (by decide) rfl ⟨hW, h⟩

def wX11_value (a0 : Int32) (a1 : Int32) (Q : Int32 → ab_S → Prop) (E : String → ab_S → Prop) (σ : ab_S) : Prop := wX11_needTree (fun σ1 => wX11_needNodeAttribute a0 a1 (fun σ2 => vp_in ((a0 * (8 : Int32)) + a1) 2000 ∧ (wX11_number (σ2.2.2.1 29 ((a0 * (8 : Int32)) + a1).toNatClampNeg) (fun u4 σ3 => Q u4 σ3) E σ2)) E σ1) E σ
set_option maxHeartbeats 4000000 in
set_option maxRecDepth 100000 in
theorem ceX11_value {l : Launch} (hl : l.stackTraces = false) (B : Nat) {a0 : Int32} {a1 : Int32}  {Q : Int32 → ab_S → Prop} {E : String → ab_S → Prop} {σ : ab_S} (hW : Wire σ) (h : wX11_value a0 a1 Q E σ) : ab_Mt l yX11_value mdX11_value B 9 164 4 24 [.ref 0, .int a0, .int a1] σ (fun v σ' => Wire σ' ∧ ∃ r : Int32, v = some (.int r) ∧ Q r σ') (fun X σ' => Wire σ' ∧ E X σ') := by
  refine V_met hl ⟨rfl, rfl, by decide⟩ rfl dkX11_value (Nat.le_of_ble_eq_true rfl) ?_
  show V l mdX11_value B 9 164 4 24 (ab_End _ _) 0 [(0, .ref 0), (1, .int a0), (2, .int a1)] [] σ
  refine V_aload_n 0 0 rfl rfl rfl ?_
  refine V_callV 1 0 (as := []) (rest := []) rfl mlX11_212 yvX11_needTree rfl rfl clX11 (wsh hW rfl) (by decide) (by decide) (Nat.le_of_ble_eq_true rfl) (by decide) (by decide) (fun B9 => ceX11_needTree hl B9 hW h) (fun X9 τ9 h9 => VX_out rfl h9) ?_
  rintro v9 σ1 ⟨hW, rfl, h⟩
  refine V_aload_n 2 0 rfl rfl rfl ?_
  refine V_iload_n 3 1 rfl rfl rfl ?_
  refine V_iload_n 4 2 rfl rfl rfl ?_
  refine V_callV 5 2 (as := [.int a0, .int a1]) (rest := []) rfl mlX11_253 yvX11_needNodeAttribute rfl rfl clX11 (wsh hW rfl) (by decide) (by decide) (Nat.le_of_ble_eq_true rfl) (by decide) (by decide) (fun B9 => ceX11_needNodeAttribute hl B9 hW h) (fun X9 τ9 h9 => VX_out rfl h9) ?_
  rintro v9 σ2 ⟨hW, rfl, h⟩
  refine V_aload_n 6 0 rfl rfl rfl ?_
  refine V_getR 7 7 rfl clX11 flX11_76 (by decide) (wsh hW rfl) (fun _ => rfl) (wrf hW 7 rfl) ?_
  refine V_getR 8 4 rfl clX2 flX11_256 (by decide) (wsh hW rfl) (fun _ => rfl) (wrf hW 37 rfl) ?_
  refine V_iload_n 9 1 rfl rfl rfl ?_
  refine V_bipush 10 (v := (8 : Int32)) rfl (by decide) ?_
  refine V_pc 20 rfl ?_
  refine V_imul 11 rfl ?_
  refine V_iload_n 12 2 rfl rfl rfl ?_
  refine V_iadd 13 rfl ?_
  obtain ⟨hin, h⟩ := h
  refine V_lald 14 rfl (wsh hW rfl) hin ?_
  refine V_callS 15 1 (as := [.long (σ2.2.2.1 29 ((a0 * (8 : Int32)) + a1).toNatClampNeg)]) (rest := []) rfl mlX11_259 yvX11_number rfl rfl (by decide) (by decide) (Nat.le_of_ble_eq_true rfl) (by decide) (by decide) (fun B9 => ceX11_number hl B9 hW h) (fun X9 τ9 h9 => VX_out rfl h9) ?_
  rintro v9 σ3 ⟨hW, u4, rfl, h⟩
  exact V_iret 16 rfl rfl ⟨hW, _, rfl, h⟩

def wX11_countChanged_j72 (Q : Int32 → ab_S → Prop) (E : String → ab_S → Prop) (Bk : Int32 → Int32 → ab_S → Prop) (x1 : Int32) (x2 : Int32) (σ : ab_S) : Prop := ∀ v1 : Int32, v1 = (x2 + 1) → Bk x1 v1 σ
def wX11_countChanged_j66 (Q : Int32 → ab_S → Prop) (E : String → ab_S → Prop) (K72 : Int32 → Int32 → ab_S → Prop) (Bk : Int32 → Int32 → Int32 → ab_S → Prop) (x1 : Int32) (x2 : Int32) (x3 : Int32) (σ : ab_S) : Prop := ∀ v2 : Int32, v2 = (x3 + 1) → Bk x1 x2 v2 σ
def wX11_countChanged_l17_b (Q : Int32 → ab_S → Prop) (E : String → ab_S → Prop) (K72 : Int32 → Int32 → ab_S → Prop) (Bk : Int32 → Int32 → Int32 → ab_S → Prop) (x1 : Int32) (x2 : Int32) (x3 : Int32) (σ : ab_S) : Prop := ∃ q3, σ.2.2.2 0 11 = some q3 ∧ isG q3 ∧ (wX11_symbolOf x2 (fun u5 σ4 => vp_in u5 12 ∧ ((((σ4.2.1 (q3 + 2) u5.toNatClampNeg) ≤ x3) → K72 x1 x2 σ4) ∧ (¬ ((σ4.2.1 (q3 + 2) u5.toNatClampNeg) ≤ x3) → ∀ v6 : Int32, v6 = ((x2 * (8 : Int32)) + x3) → vp_in v6 2000 ∧ (vp_in v6 2000 ∧ ((((lg_cmp (σ4.2.2.1 29 v6.toNatClampNeg) (σ4.2.2.1 42 v6.toNatClampNeg)) = 0) → wX11_countChanged_j66 Q E K72 Bk x1 x2 x3 σ4) ∧ (¬ ((lg_cmp (σ4.2.2.1 29 v6.toNatClampNeg) (σ4.2.2.1 42 v6.toNatClampNeg)) = 0) → ∀ v7 : Int32, v7 = (x1 + 1) → wX11_countChanged_j66 Q E K72 Bk v7 x2 x3 σ4)))))) E σ)
def wX11_countChanged_l17 (Q : Int32 → ab_S → Prop) (E : String → ab_S → Prop) (K72 : Int32 → Int32 → ab_S → Prop) : Nat → Int32 → Int32 → Int32 → ab_S → Prop
  | 0, _, _, _, _ => False
  | n + 1, x1, x2, x3, σ => wX11_countChanged_l17_b Q E K72 (wX11_countChanged_l17 Q E K72 n) x1 x2 x3 σ
def wX11_countChanged_l4_b (Q : Int32 → ab_S → Prop) (E : String → ab_S → Prop) (Bk : Int32 → Int32 → ab_S → Prop) (x1 : Int32) (x2 : Int32) (σ : ab_S) : Prop := ∃ q8, σ.2.2.2 0 13 = some q8 ∧ isT q8 ∧ ((((σ.2.1 q8 0) ≤ x2) → Q x1 σ) ∧ (¬ ((σ.2.1 q8 0) ≤ x2) → ∃ n, wX11_countChanged_l17 Q E (wX11_countChanged_j72 Q E Bk) n x1 x2 (0 : Int32) σ))
def wX11_countChanged_l4 (Q : Int32 → ab_S → Prop) (E : String → ab_S → Prop) : Nat → Int32 → Int32 → ab_S → Prop
  | 0, _, _, _ => False
  | n + 1, x1, x2, σ => wX11_countChanged_l4_b Q E (wX11_countChanged_l4 Q E n) x1 x2 σ
def wX11_countChanged  (Q : Int32 → ab_S → Prop) (E : String → ab_S → Prop) (σ : ab_S) : Prop := ∃ n, wX11_countChanged_l4 Q E n (0 : Int32) (0 : Int32) σ
set_option maxHeartbeats 4000000 in
set_option maxRecDepth 100000 in
theorem ceX11_countChanged {l : Launch} (hl : l.stackTraces = false) (B : Nat)   {Q : Int32 → ab_S → Prop} {E : String → ab_S → Prop} {σ : ab_S} (hW : Wire σ) (h : wX11_countChanged  Q E σ) : ab_Mt l yX11_countChanged mdX11_countChanged B 2 43 0 0 [.ref 0] σ (fun v σ' => Wire σ' ∧ ∃ r : Int32, v = some (.int r) ∧ Q r σ') (fun X σ' => Wire σ' ∧ E X σ') := by
  refine V_met hl ⟨rfl, rfl, by decide⟩ rfl dkX11_countChanged (Nat.le_of_ble_eq_true rfl) ?_
  show V l mdX11_countChanged B 2 43 0 0 (ab_End _ _) 0 [(0, .ref 0)] [] σ
  revert h hW
  revert σ
  have k_l4 : ∀ (n : Nat) (x1 : Int32) (x2 : Int32)  (σ : ab_S), Wire σ → wX11_countChanged_l4 Q E n x1 x2 σ → V l mdX11_countChanged B 2 43 0 0 (ab_End (fun v σ' => Wire σ' ∧ ∃ r : Int32, v = some (.int r) ∧ Q r σ') (fun X σ' => Wire σ' ∧ E X σ')) 4 [(0, .ref 0), (1, .int x1), (2, .int x2)] [] σ := by
    have step : ∀ (Bk : Int32 → Int32 → ab_S → Prop) (k_Bk : ∀ (x1 : Int32) (x2 : Int32)  (σ : ab_S), Wire σ → Bk x1 x2 σ → V l mdX11_countChanged B 2 43 0 0 (ab_End (fun v σ' => Wire σ' ∧ ∃ r : Int32, v = some (.int r) ∧ Q r σ') (fun X σ' => Wire σ' ∧ E X σ')) 4 [(0, .ref 0), (1, .int x1), (2, .int x2)] [] σ), ∀ (x1 : Int32) (x2 : Int32)  (σ : ab_S), Wire σ → wX11_countChanged_l4_b Q E Bk x1 x2 σ → V l mdX11_countChanged B 2 43 0 0 (ab_End (fun v σ' => Wire σ' ∧ ∃ r : Int32, v = some (.int r) ∧ Q r σ') (fun X σ' => Wire σ' ∧ E X σ')) 4 [(0, .ref 0), (1, .int x1), (2, .int x2)] [] σ := by
      intro Bk k_Bk
      have k_j72 : ∀ (x1 : Int32) (x2 : Int32)  (σ : ab_S), Wire σ → wX11_countChanged_j72 Q E Bk x1 x2 σ → V l mdX11_countChanged B 2 43 0 0 (ab_End (fun v σ' => Wire σ' ∧ ∃ r : Int32, v = some (.int r) ∧ Q r σ') (fun X σ' => Wire σ' ∧ E X σ')) 72 [(0, .ref 0), (1, .int x1), (2, .int x2)] [] σ := by
        intro x1 x2  σ hW h
        obtain ⟨v1, ev1⟩ : ∃ z : Int32, z = (x2 + 1) := ⟨_, rfl⟩
        replace h := h v1 ev1
        refine V_iinc 40 2 (v := v1) (lv' := [(2, .int v1), (0, .ref 0), (1, .int x1)]) rfl rfl ((in_1 _).trans ev1.symm) (by decide) rfl ?_
        refine V_goto 41 (tgt := 4) rfl (by decide) ?_
        refine V_sub [1, 2, 0] (lv' := [(0, .ref 0), (1, .int x1), (2, .int v1)]) rfl ?_
        exact k_Bk x1 v1  σ hW h
      have k_l17 : ∀ (n : Nat) (x1 : Int32) (x2 : Int32) (x3 : Int32)  (σ : ab_S), Wire σ → wX11_countChanged_l17 Q E (wX11_countChanged_j72 Q E Bk) n x1 x2 x3 σ → V l mdX11_countChanged B 2 43 0 0 (ab_End (fun v σ' => Wire σ' ∧ ∃ r : Int32, v = some (.int r) ∧ Q r σ') (fun X σ' => Wire σ' ∧ E X σ')) 17 [(0, .ref 0), (1, .int x1), (2, .int x2), (3, .int x3)] [] σ := by
        have step : ∀ (K72 : Int32 → Int32 → ab_S → Prop) (k_K72 : ∀ (x1 : Int32) (x2 : Int32)  (σ : ab_S), Wire σ → K72 x1 x2 σ → V l mdX11_countChanged B 2 43 0 0 (ab_End (fun v σ' => Wire σ' ∧ ∃ r : Int32, v = some (.int r) ∧ Q r σ') (fun X σ' => Wire σ' ∧ E X σ')) 72 [(0, .ref 0), (1, .int x1), (2, .int x2)] [] σ), ∀ (Bk : Int32 → Int32 → Int32 → ab_S → Prop) (k_Bk : ∀ (x1 : Int32) (x2 : Int32) (x3 : Int32)  (σ : ab_S), Wire σ → Bk x1 x2 x3 σ → V l mdX11_countChanged B 2 43 0 0 (ab_End (fun v σ' => Wire σ' ∧ ∃ r : Int32, v = some (.int r) ∧ Q r σ') (fun X σ' => Wire σ' ∧ E X σ')) 17 [(0, .ref 0), (1, .int x1), (2, .int x2), (3, .int x3)] [] σ), ∀ (x1 : Int32) (x2 : Int32) (x3 : Int32)  (σ : ab_S), Wire σ → wX11_countChanged_l17_b Q E K72 Bk x1 x2 x3 σ → V l mdX11_countChanged B 2 43 0 0 (ab_End (fun v σ' => Wire σ' ∧ ∃ r : Int32, v = some (.int r) ∧ Q r σ') (fun X σ' => Wire σ' ∧ E X σ')) 17 [(0, .ref 0), (1, .int x1), (2, .int x2), (3, .int x3)] [] σ := by
          intro K72 k_K72 Bk k_Bk
          have k_j66 : ∀ (x1 : Int32) (x2 : Int32) (x3 : Int32)  (σ : ab_S), Wire σ → wX11_countChanged_j66 Q E K72 Bk x1 x2 x3 σ → V l mdX11_countChanged B 2 43 0 0 (ab_End (fun v σ' => Wire σ' ∧ ∃ r : Int32, v = some (.int r) ∧ Q r σ') (fun X σ' => Wire σ' ∧ E X σ')) 66 [(0, .ref 0), (1, .int x1), (2, .int x2), (3, .int x3)] [] σ := by
            intro x1 x2 x3  σ hW h
            obtain ⟨v2, ev2⟩ : ∃ z : Int32, z = (x3 + 1) := ⟨_, rfl⟩
            replace h := h v2 ev2
            refine V_iinc 38 3 (v := v2) (lv' := [(3, .int v2), (0, .ref 0), (1, .int x1), (2, .int x2)]) rfl rfl ((in_1 _).trans ev2.symm) (by decide) rfl ?_
            refine V_goto 39 (tgt := 17) rfl (by decide) ?_
            refine V_sub [1, 2, 3, 0] (lv' := [(0, .ref 0), (1, .int x1), (2, .int x2), (3, .int v2)]) rfl ?_
            exact k_Bk x1 x2 v2  σ hW h
          intro x1 x2 x3  σ hW h
          refine V_iload_n 11 3 rfl rfl rfl ?_
          refine V_aload_n 12 0 rfl rfl rfl ?_
          obtain ⟨q3, eq3, hq3, h⟩ := h
          refine V_getR 13 11 rfl clX11 flX11_94 (by decide) (wsh hW rfl) (fun _ => rfl) eq3 ?_
          refine V_getR 14 2 rfl clX0 flX11_328 (by decide) (wG hW hq3) (fun _ => rfl) (wG_f2 hW hq3) ?_
          refine V_aload_n 15 0 rfl rfl rfl ?_
          refine V_iload_n 16 2 rfl rfl rfl ?_
          refine V_pc 27 rfl ?_
          refine V_callV 17 1 (as := [.int x2]) (rest := [.ref (q3 + 2), .int x3]) rfl mlX11_249 yvX11_symbolOf rfl rfl clX11 (wsh hW rfl) (by decide) (by decide) (Nat.le_of_ble_eq_true rfl) (by decide) (by decide) (fun B9 => ceX11_symbolOf hl B9 hW h) (fun X9 τ9 h9 => VX_out rfl h9) ?_
          rintro v9 σ4 ⟨hW, u5, rfl, h⟩
          obtain ⟨hin, h⟩ := h
          refine V_iald 18 rfl (wG_a2 hW hq3) hin ?_
          refine V_icmp_ge 19 (tgt := 72) rfl (by decide) (fun hc => ?_) (fun hc => ?_)
          · replace h := h.1 hc
            refine V_sub [0, 1, 2] (lv' := [(0, .ref 0), (1, .int x1), (2, .int x2)]) rfl ?_
            exact k_K72 x1 x2  σ4 hW h
          · replace h := h.2 hc
            refine V_pc 34 rfl ?_
            refine V_iload_n 20 2 rfl rfl rfl ?_
            refine V_bipush 21 (v := (8 : Int32)) rfl (by decide) ?_
            refine V_imul 22 rfl ?_
            refine V_iload_n 23 3 rfl rfl rfl ?_
            refine V_iadd 24 rfl ?_
            refine V_topi (fun v6 ev6 => ?_)
            replace h := h v6 ev6
            refine V_istore 25 (lv' := [(4, .int v6), (0, .ref 0), (1, .int x1), (2, .int x2), (3, .int x3)]) rfl (by decide) rfl ?_
            refine V_pc 42 rfl ?_
            refine V_aload_n 26 1 rfl rfl rfl ?_
            refine V_getR 27 7 rfl clX11 flX11_76 (by decide) (wsh hW rfl) (fun _ => rfl) (wrf hW 7 rfl) ?_
            refine V_getR 28 4 rfl clX2 flX11_256 (by decide) (wsh hW rfl) (fun _ => rfl) (wrf hW 37 rfl) ?_
            refine V_iload 29 0 rfl rfl ?_
            obtain ⟨hin, h⟩ := h
            refine V_lald 30 rfl (wsh hW rfl) hin ?_
            refine V_aload_n 31 1 rfl rfl rfl ?_
            refine V_pc 53 rfl ?_
            refine V_getR 32 9 rfl clX11 flX11_83 (by decide) (wsh hW rfl) (fun _ => rfl) (wrf hW 9 rfl) ?_
            refine V_iload 33 0 rfl rfl ?_
            obtain ⟨hin, h⟩ := h
            refine V_lald 34 rfl (wsh hW rfl) hin ?_
            refine V_lcmp 35 rfl ?_
            refine V_if_eq 36 (tgt := 66) rfl (by decide) (fun hc => ?_) (fun hc => ?_)
            · replace h := h.1 hc
              refine V_sub [1, 2, 3, 4] (lv' := [(0, .ref 0), (1, .int x1), (2, .int x2), (3, .int x3)]) rfl ?_
              exact k_j66 x1 x2 x3 σ4 hW h
            · replace h := h.2 hc
              refine V_pc 63 rfl ?_
              obtain ⟨v7, ev7⟩ : ∃ z : Int32, z = (x1 + 1) := ⟨_, rfl⟩
              replace h := h v7 ev7
              refine V_iinc 37 2 (v := v7) (lv' := [(1, .int v7), (4, .int v6), (0, .ref 0), (2, .int x2), (3, .int x3)]) rfl rfl ((in_1 _).trans ev7.symm) (by decide) rfl ?_
              refine V_sub [2, 0, 3, 4] (lv' := [(0, .ref 0), (1, .int v7), (2, .int x2), (3, .int x3)]) rfl ?_
              exact k_j66 v7 x2 x3 σ4 hW h
        intro n
        induction n with
        | zero => intro x1 x2 x3  σ hW h; exact absurd h id
        | succ n ih => exact step _ k_j72 _ ih
      intro x1 x2  σ hW h
      refine V_iload_n 4 2 rfl rfl rfl ?_
      refine V_aload_n 5 0 rfl rfl rfl ?_
      obtain ⟨q8, eq8, hq8, h⟩ := h
      refine V_getR 6 13 rfl clX11 flX11_104 (by decide) (wsh hW rfl) (fun _ => rfl) eq8 ?_
      refine V_get (v := .int (σ.2.1 q8 0)) 7 0 rfl clX9 flX11_215 (by decide) (wT hW hq8) (fun _ => rfl) ?_
      refine V_icmp_ge 8 (tgt := 78) rfl (by decide) (fun hc => ?_) (fun hc => ?_)
      · replace h := h.1 hc
        refine V_iload_n 42 1 rfl rfl rfl ?_
        exact V_iret 43 rfl rfl ⟨hW, _, rfl, h⟩
      · replace h := h.2 hc
        refine V_pc 15 rfl ?_
        refine V_iconst 9 (v := (0 : Int32)) rfl (by decide) ?_
        refine V_istore_n 10 (lv' := [(3, .int (0 : Int32)), (0, .ref 0), (1, .int x1), (2, .int x2)]) rfl rfl (by decide) rfl ?_
        refine V_sub [1, 2, 3, 0] (lv' := [(0, .ref 0), (1, .int x1), (2, .int x2), (3, .int (0 : Int32))]) rfl ?_
        obtain ⟨n, h⟩ := h
        exact k_l17 n x1 x2 (0 : Int32) σ hW h
    intro n
    induction n with
    | zero => intro x1 x2  σ hW h; exact absurd h id
    | succ n ih => exact step  _ ih
  intro σ hW h
  refine V_iconst 0 (v := (0 : Int32)) rfl (by decide) ?_
  refine V_istore_n 1 (lv' := [(1, .int (0 : Int32)), (0, .ref 0)]) rfl rfl (by decide) rfl ?_
  refine V_iconst 2 (v := (0 : Int32)) rfl (by decide) ?_
  refine V_istore_n 3 (lv' := [(2, .int (0 : Int32)), (1, .int (0 : Int32)), (0, .ref 0)]) rfl rfl (by decide) rfl ?_
  refine V_sub [2, 1, 0] (lv' := [(0, .ref 0), (1, .int (0 : Int32)), (2, .int (0 : Int32))]) rfl ?_
  obtain ⟨n, h⟩ := h
  exact k_l4 n (0 : Int32) (0 : Int32) σ hW h

def wX11_change (a0 : Int32) (a1 : Int32) (Q : Int32 → ab_S → Prop) (E : String → ab_S → Prop) (σ : ab_S) : Prop := wX11_needTree (fun σ1 => wX11_needNode a0 (fun σ2 => ∃ q3, σ2.2.2.2 0 11 = some q3 ∧ isG q3 ∧ (∃ q4, σ2.2.2.2 0 13 = some q4 ∧ isT q4 ∧ (vp_in a0 250 ∧ (vp_in (σ2.2.1 (q4 + 1) a0.toNatClampNeg) 30 ∧ (((¬ (σ2.2.1 (q3 + 8) (σ2.2.1 (q4 + 1) a0.toNatClampNeg).toNatClampNeg) = 0) → ab_cpy (0 : Int32) (0 : Int32) (nI 2000) 2000 2000 ∧ (∀ σ5 : ab_S, σ5 = ab_cpL σ2 29 42 (0 : Int32).toNatClampNeg (0 : Int32).toNatClampNeg (nI 2000).toNatClampNeg → ∃ q6, σ5.2.2.2 0 13 = some q6 ∧ isT q6 ∧ (vp_in a0 250 ∧ (∀ σ7 : ab_S, σ7 = ab_I σ5 (q6 + 3) a0.toNatClampNeg a1 → wX11_evaluate (fun σ8 => wX11_countChanged (fun u10 σ9 => Q u10 σ9) E σ8) E σ7)))) ∧ (¬ (¬ (σ2.2.1 (q3 + 8) (σ2.2.1 (q4 + 1) a0.toNatClampNeg).toNatClampNeg) = 0) → E "java/lang/IllegalArgumentException" σ2)))))) E σ1) E σ
set_option maxHeartbeats 4000000 in
set_option maxRecDepth 100000 in
theorem ceX11_change {l : Launch} (hl : l.stackTraces = false) (B : Nat) {a0 : Int32} {a1 : Int32}  {Q : Int32 → ab_S → Prop} {E : String → ab_S → Prop} {σ : ab_S} (hW : Wire σ) (h : wX11_change a0 a1 Q E σ) : ab_Mt l yX11_change mdX11_change B 8 142 3 18 [.ref 0, .int a0, .int a1] σ (fun v σ' => Wire σ' ∧ ∃ r : Int32, v = some (.int r) ∧ Q r σ') (fun X σ' => Wire σ' ∧ E X σ') := by
  refine V_met hl ⟨rfl, rfl, by decide⟩ rfl dkX11_change (Nat.le_of_ble_eq_true rfl) ?_
  show V l mdX11_change B 8 142 3 18 (ab_End _ _) 0 [(0, .ref 0), (1, .int a0), (2, .int a1)] [] σ
  refine V_aload_n 0 0 rfl rfl rfl ?_
  refine V_callV 1 0 (as := []) (rest := []) rfl mlX11_212 yvX11_needTree rfl rfl clX11 (wsh hW rfl) (by decide) (by decide) (Nat.le_of_ble_eq_true rfl) (by decide) (by decide) (fun B9 => ceX11_needTree hl B9 hW h) (fun X9 τ9 h9 => VX_out rfl h9) ?_
  rintro v9 σ1 ⟨hW, rfl, h⟩
  refine V_aload_n 2 0 rfl rfl rfl ?_
  refine V_iload_n 3 1 rfl rfl rfl ?_
  refine V_callV 4 1 (as := [.int a0]) (rest := []) rfl mlX11_237 yvX11_needNode rfl rfl clX11 (wsh hW rfl) (by decide) (by decide) (Nat.le_of_ble_eq_true rfl) (by decide) (by decide) (fun B9 => ceX11_needNode hl B9 hW h) (fun X9 τ9 h9 => VX_out rfl h9) ?_
  rintro v9 σ2 ⟨hW, rfl, h⟩
  refine V_aload_n 5 0 rfl rfl rfl ?_
  obtain ⟨q3, eq3, hq3, h⟩ := h
  refine V_getR 6 11 rfl clX11 flX11_94 (by decide) (wsh hW rfl) (fun _ => rfl) eq3 ?_
  refine V_getR 7 9 rfl clX0 flX11_263 (by decide) (wG hW hq3) (fun _ => rfl) (wG_f9 hW hq3) ?_
  refine V_aload_n 8 0 rfl rfl rfl ?_
  obtain ⟨q4, eq4, hq4, h⟩ := h
  refine V_getR 9 13 rfl clX11 flX11_104 (by decide) (wsh hW rfl) (fun _ => rfl) eq4 ?_
  refine V_pc 20 rfl ?_
  refine V_getR 10 1 rfl clX9 flX11_240 (by decide) (wT hW hq4) (fun _ => rfl) (wT_f1 hW hq4) ?_
  refine V_iload_n 11 1 rfl rfl rfl ?_
  obtain ⟨hin, h⟩ := h
  refine V_iald 12 rfl (wT_a1 hW hq4) hin ?_
  obtain ⟨hin, h⟩ := h
  refine V_zald 13 rfl (wG_a8 hW hq3) hin ?_
  refine V_if_ne 14 (tgt := 37) rfl (by decide) (fun hc => ?_) (fun hc => ?_)
  · replace h := h.1 hc
    refine V_aload_n 19 0 rfl rfl rfl ?_
    refine V_getR 20 7 rfl clX11 flX11_76 (by decide) (wsh hW rfl) (fun _ => rfl) (wrf hW 7 rfl) ?_
    refine V_getR 21 4 rfl clX2 flX11_256 (by decide) (wsh hW rfl) (fun _ => rfl) (wrf hW 37 rfl) ?_
    refine V_iconst 22 (v := (0 : Int32)) rfl (by decide) ?_
    refine V_aload_n 23 0 rfl rfl rfl ?_
    refine V_getR 24 9 rfl clX11 flX11_83 (by decide) (wsh hW rfl) (fun _ => rfl) (wrf hW 9 rfl) ?_
    refine V_pc 49 rfl ?_
    refine V_iconst 25 (v := (0 : Int32)) rfl (by decide) ?_
    refine V_aload_n 26 0 rfl rfl rfl ?_
    refine V_getR 27 9 rfl clX11 flX11_83 (by decide) (wsh hW rfl) (fun _ => rfl) (wrf hW 9 rfl) ?_
    refine V_alenL 28 rfl (wsh hW rfl) ?_
    obtain ⟨hcp, h⟩ := h
    refine V_copyL 29 rfl mlX11_266 ac_n ac_s ac_i (wsh hW rfl) (wsh hW rfl) hcp (by decide) (Nat.le_of_ble_eq_true rfl) ?_
    refine V_nm (fun σ5 eσ5 => ?_)
    replace h := h σ5 eσ5
    have hW := wire_cL eσ5 hW
    refine V_aload_n 30 0 rfl rfl rfl ?_
    obtain ⟨q6, eq6, hq6, h⟩ := h
    refine V_getR 31 13 rfl clX11 flX11_104 (by decide) (wsh hW rfl) (fun _ => rfl) eq6 ?_
    refine V_getR 32 3 rfl clX9 flX11_246 (by decide) (wT hW hq6) (fun _ => rfl) (wT_f3 hW hq6) ?_
    refine V_iload_n 33 1 rfl rfl rfl ?_
    refine V_iload_n 34 2 rfl rfl rfl ?_
    refine V_pc 67 rfl ?_
    obtain ⟨hin, h⟩ := h
    refine V_iast 35 rfl (wT_a3 hW hq6) hin ?_
    refine V_nm (fun σ7 eσ7 => ?_)
    replace h := h σ7 eσ7
    have hW := wire_I eσ7 hW
    refine V_aload_n 36 0 rfl rfl rfl ?_
    refine V_callV 37 0 (as := []) (rest := []) rfl mlX11_209 yvX11_evaluate rfl rfl clX11 (wsh hW rfl) (by decide) (by decide) (Nat.le_of_ble_eq_true rfl) (by decide) (by decide) (fun B9 => ceX11_evaluate hl B9 hW h) (fun X9 τ9 h9 => VX_out rfl h9) ?_
    rintro v9 σ8 ⟨hW, rfl, h⟩
    refine V_aload_n 38 0 rfl rfl rfl ?_
    refine V_callV 39 0 (as := []) (rest := []) rfl mlX11_272 yvX11_countChanged rfl rfl clX11 (wsh hW rfl) (by decide) (by decide) (Nat.le_of_ble_eq_true rfl) (by decide) (by decide) (fun B9 => ceX11_countChanged hl B9 hW h) (fun X9 τ9 h9 => VX_out rfl h9) ?_
    rintro v9 σ9 ⟨hW, u10, rfl, h⟩
    exact V_iret 40 rfl rfl ⟨hW, _, rfl, h⟩
  · replace h := h.2 hc
    refine V_pc 29 rfl ?_
    exact V_throw 15 rfl rfl rfl rfl xwX11_115_117 (by decide) (Nat.le_of_ble_eq_true rfl) (by decide) (by decide) rfl ⟨hW, h⟩

def wX11_visit (a0 : Int32) (a1 : Int32) (Q : Int32 → ab_S → Prop) (E : String → ab_S → Prop) (σ : ab_S) : Prop := wX11_needGrammar (fun σ1 => wX11_needVisit a0 a1 (fun σ2 => ∃ q3, σ2.2.2.2 0 11 = some q3 ∧ isG q3 ∧ (wX0_downs q3 a0 a1 (fun u5 σ4 => ∃ q6, σ4.2.2.2 0 11 = some q6 ∧ isG q6 ∧ (wX0_ups q6 a0 a1 (fun u8 σ7 => Q (u5 + ((256 : Int32) * u8)) σ7) E σ4)) E σ2)) E σ1) E σ
set_option maxHeartbeats 4000000 in
set_option maxRecDepth 100000 in
theorem ceX11_visit {l : Launch} (hl : l.stackTraces = false) (B : Nat) {a0 : Int32} {a1 : Int32}  {Q : Int32 → ab_S → Prop} {E : String → ab_S → Prop} {σ : ab_S} (hW : Wire σ) (h : wX11_visit a0 a1 Q E σ) : ab_Mt l yX11_visit mdX11_visit B 8 143 3 18 [.ref 0, .int a0, .int a1] σ (fun v σ' => Wire σ' ∧ ∃ r : Int32, v = some (.int r) ∧ Q r σ') (fun X σ' => Wire σ' ∧ E X σ') := by
  refine V_met hl ⟨rfl, rfl, by decide⟩ rfl dkX11_visit (Nat.le_of_ble_eq_true rfl) ?_
  show V l mdX11_visit B 8 143 3 18 (ab_End _ _) 0 [(0, .ref 0), (1, .int a0), (2, .int a1)] [] σ
  refine V_aload_n 0 0 rfl rfl rfl ?_
  refine V_callV 1 0 (as := []) (rest := []) rfl mlX11_168 yvX11_needGrammar rfl rfl clX11 (wsh hW rfl) (by decide) (by decide) (Nat.le_of_ble_eq_true rfl) (by decide) (by decide) (fun B9 => ceX11_needGrammar hl B9 hW h) (fun X9 τ9 h9 => VX_out rfl h9) ?_
  rintro v9 σ1 ⟨hW, rfl, h⟩
  refine V_aload_n 2 0 rfl rfl rfl ?_
  refine V_iload_n 3 1 rfl rfl rfl ?_
  refine V_iload_n 4 2 rfl rfl rfl ?_
  refine V_callV 5 2 (as := [.int a0, .int a1]) (rest := []) rfl mlX11_275 yvX11_needVisit rfl rfl clX11 (wsh hW rfl) (by decide) (by decide) (Nat.le_of_ble_eq_true rfl) (by decide) (by decide) (fun B9 => ceX11_needVisit hl B9 hW h) (fun X9 τ9 h9 => VX_out rfl h9) ?_
  rintro v9 σ2 ⟨hW, rfl, h⟩
  refine V_aload_n 6 0 rfl rfl rfl ?_
  obtain ⟨q3, eq3, hq3, h⟩ := h
  refine V_getR 7 11 rfl clX11 flX11_94 (by decide) (wsh hW rfl) (fun _ => rfl) eq3 ?_
  refine V_iload_n 8 1 rfl rfl rfl ?_
  refine V_iload_n 9 2 rfl rfl rfl ?_
  refine V_callV 10 2 (as := [.int a0, .int a1]) (rest := []) rfl mlX11_278 yvX0_downs rfl rfl clX0 (wG hW hq3) (by decide) (by decide) (Nat.le_of_ble_eq_true rfl) (by decide) (by decide) (fun B9 => ceX0_downs hl B9 hq3 hW h) (fun X9 τ9 h9 => VX_out rfl h9) ?_
  rintro v9 σ4 ⟨hW, u5, rfl, h⟩
  refine V_sipush 11 (v := (256 : Int32)) rfl (by decide) ?_
  refine V_aload_n 12 0 rfl rfl rfl ?_
  obtain ⟨q6, eq6, hq6, h⟩ := h
  refine V_getR 13 11 rfl clX11 flX11_94 (by decide) (wsh hW rfl) (fun _ => rfl) eq6 ?_
  refine V_iload_n 14 1 rfl rfl rfl ?_
  refine V_iload_n 15 2 rfl rfl rfl ?_
  refine V_pc 28 rfl ?_
  refine V_callV 16 2 (as := [.int a0, .int a1]) (rest := [.int (256 : Int32), .int u5]) rfl mlX11_281 yvX0_ups rfl rfl clX0 (wG hW hq6) (by decide) (by decide) (Nat.le_of_ble_eq_true rfl) (by decide) (by decide) (fun B9 => ceX0_ups hl B9 hq6 hW h) (fun X9 τ9 h9 => VX_out rfl h9) ?_
  rintro v9 σ7 ⟨hW, u8, rfl, h⟩
  refine V_imul 17 rfl ?_
  refine V_iadd 18 rfl ?_
  exact V_iret 19 rfl rfl ⟨hW, _, rfl, h⟩

def wX11_code (a0 : Int32) (a1 : Int32) (Q : Int32 → ab_S → Prop) (E : String → ab_S → Prop) (σ : ab_S) : Prop := wX11_needGrammar (fun σ1 => wX11_needIndex a0 (σ1.2.1 23 7) (fun σ2 => (a1 = 0 → vp_in a0 3000 ∧ (Q (σ2.2.1 24 a0.toNatClampNeg) σ2)) ∧ (¬ a1 = 0 → (a1 = 1 → vp_in a0 3000 ∧ (Q (σ2.2.1 25 a0.toNatClampNeg) σ2)) ∧ (¬ a1 = 1 → E "java/lang/IllegalArgumentException" σ2))) E σ1) E σ
set_option maxHeartbeats 4000000 in
set_option maxRecDepth 100000 in
theorem ceX11_code {l : Launch} (hl : l.stackTraces = false) (B : Nat) {a0 : Int32} {a1 : Int32}  {Q : Int32 → ab_S → Prop} {E : String → ab_S → Prop} {σ : ab_S} (hW : Wire σ) (h : wX11_code a0 a1 Q E σ) : ab_Mt l yX11_code mdX11_code B 7 121 3 18 [.ref 0, .int a0, .int a1] σ (fun v σ' => Wire σ' ∧ ∃ r : Int32, v = some (.int r) ∧ Q r σ') (fun X σ' => Wire σ' ∧ E X σ') := by
  refine V_met hl ⟨rfl, rfl, by decide⟩ rfl dkX11_code (Nat.le_of_ble_eq_true rfl) ?_
  show V l mdX11_code B 7 121 3 18 (ab_End _ _) 0 [(0, .ref 0), (1, .int a0), (2, .int a1)] [] σ
  refine V_aload_n 0 0 rfl rfl rfl ?_
  refine V_callV 1 0 (as := []) (rest := []) rfl mlX11_168 yvX11_needGrammar rfl rfl clX11 (wsh hW rfl) (by decide) (by decide) (Nat.le_of_ble_eq_true rfl) (by decide) (by decide) (fun B9 => ceX11_needGrammar hl B9 hW h) (fun X9 τ9 h9 => VX_out rfl h9) ?_
  rintro v9 σ1 ⟨hW, rfl, h⟩
  refine V_iload_n 2 1 rfl rfl rfl ?_
  refine V_aload_n 3 0 rfl rfl rfl ?_
  refine V_getR 4 6 rfl clX11 flX11_67 (by decide) (wsh hW rfl) (fun _ => rfl) (wrf hW 6 rfl) ?_
  refine V_get (v := .int (σ1.2.1 23 7)) 5 7 rfl clX5 flX11_284 (by decide) (wsh hW rfl) (fun _ => rfl) ?_
  refine V_callS 6 2 (as := [.int a0, .int (σ1.2.1 23 7)]) (rest := []) rfl mlX11_285 yvX11_needIndex rfl rfl (by decide) (by decide) (Nat.le_of_ble_eq_true rfl) (by decide) (by decide) (fun B9 => ceX11_needIndex hl B9 hW h) (fun X9 τ9 h9 => VX_out rfl h9) ?_
  rintro v9 σ2 ⟨hW, rfl, h⟩
  refine V_iload_n 7 2 rfl rfl rfl ?_
  by_cases hs0 : a1 = 0
  · replace h := h.1 hs0
    refine V_look 8 (off := 28) (tgt := 44) rfl (by decide) (by rw [hs0]; rfl) (by decide) ?_
    refine V_aload_n 9 0 rfl rfl rfl ?_
    refine V_getR 10 6 rfl clX11 flX11_67 (by decide) (wsh hW rfl) (fun _ => rfl) (wrf hW 6 rfl) ?_
    refine V_getR 11 3 rfl clX5 flX11_288 (by decide) (wsh hW rfl) (fun _ => rfl) (wrf hW 32 rfl) ?_
    refine V_iload_n 12 1 rfl rfl rfl ?_
    obtain ⟨hin, h⟩ := h
    refine V_iald 13 rfl (wsh hW rfl) hin ?_
    exact V_iret 14 rfl rfl ⟨hW, _, rfl, h⟩
  · replace h := h.2 hs0
    by_cases hs1 : a1 = 1
    · replace h := h.1 hs1
      refine V_look 8 (off := 38) (tgt := 54) rfl (by decide) (by rw [hs1]; rfl) (by decide) ?_
      refine V_aload_n 15 0 rfl rfl rfl ?_
      refine V_getR 16 6 rfl clX11 flX11_67 (by decide) (wsh hW rfl) (fun _ => rfl) (wrf hW 6 rfl) ?_
      refine V_getR 17 4 rfl clX5 flX11_289 (by decide) (wsh hW rfl) (fun _ => rfl) (wrf hW 33 rfl) ?_
      refine V_iload_n 18 1 rfl rfl rfl ?_
      obtain ⟨hin, h⟩ := h
      refine V_iald 19 rfl (wsh hW rfl) hin ?_
      exact V_iret 20 rfl rfl ⟨hW, _, rfl, h⟩
    · replace h := h.2 hs1
      refine V_look 8 (off := 48) (tgt := 64) rfl (by decide) (by refine (lv_osw hs0 (by decide)).trans ?_; refine (lv_osw hs1 (by decide)).trans ?_; rfl) (by decide) ?_
      exact V_throw 21 rfl rfl rfl rfl xwX11_115_117 (by decide) (Nat.le_of_ble_eq_true rfl) (by decide) (by decide) rfl ⟨hW, h⟩

def wX11_start (a0 : Int32) (a1 : Int32) (Q : Int32 → ab_S → Prop) (E : String → ab_S → Prop) (σ : ab_S) : Prop := wX11_needGrammar (fun σ1 => wX11_needPlan a0 a1 (fun σ2 => wX5_first a0 a1 (fun u4 σ3 => Q u4 σ3) E σ2) E σ1) E σ
set_option maxHeartbeats 4000000 in
set_option maxRecDepth 100000 in
theorem ceX11_start {l : Launch} (hl : l.stackTraces = false) (B : Nat) {a0 : Int32} {a1 : Int32}  {Q : Int32 → ab_S → Prop} {E : String → ab_S → Prop} {σ : ab_S} (hW : Wire σ) (h : wX11_start a0 a1 Q E σ) : ab_Mt l yX11_start mdX11_start B 9 165 3 18 [.ref 0, .int a0, .int a1] σ (fun v σ' => Wire σ' ∧ ∃ r : Int32, v = some (.int r) ∧ Q r σ') (fun X σ' => Wire σ' ∧ E X σ') := by
  refine V_met hl ⟨rfl, rfl, by decide⟩ rfl dkX11_start (Nat.le_of_ble_eq_true rfl) ?_
  show V l mdX11_start B 9 165 3 18 (ab_End _ _) 0 [(0, .ref 0), (1, .int a0), (2, .int a1)] [] σ
  refine V_aload_n 0 0 rfl rfl rfl ?_
  refine V_callV 1 0 (as := []) (rest := []) rfl mlX11_168 yvX11_needGrammar rfl rfl clX11 (wsh hW rfl) (by decide) (by decide) (Nat.le_of_ble_eq_true rfl) (by decide) (by decide) (fun B9 => ceX11_needGrammar hl B9 hW h) (fun X9 τ9 h9 => VX_out rfl h9) ?_
  rintro v9 σ1 ⟨hW, rfl, h⟩
  refine V_aload_n 2 0 rfl rfl rfl ?_
  refine V_iload_n 3 1 rfl rfl rfl ?_
  refine V_iload_n 4 2 rfl rfl rfl ?_
  refine V_callV 5 2 (as := [.int a0, .int a1]) (rest := []) rfl mlX11_193 yvX11_needPlan rfl rfl clX11 (wsh hW rfl) (by decide) (by decide) (Nat.le_of_ble_eq_true rfl) (by decide) (by decide) (fun B9 => ceX11_needPlan hl B9 hW h) (fun X9 τ9 h9 => VX_out rfl h9) ?_
  rintro v9 σ2 ⟨hW, rfl, h⟩
  refine V_aload_n 6 0 rfl rfl rfl ?_
  refine V_getR 7 6 rfl clX11 flX11_67 (by decide) (wsh hW rfl) (fun _ => rfl) (wrf hW 6 rfl) ?_
  refine V_iload_n 8 1 rfl rfl rfl ?_
  refine V_iload_n 9 2 rfl rfl rfl ?_
  refine V_callV 10 2 (as := [.int a0, .int a1]) (rest := []) rfl mlX11_292 yvX5_first rfl rfl clX5 (wsh hW rfl) (by decide) (by decide) (Nat.le_of_ble_eq_true rfl) (by decide) (by decide) (fun B9 => ceX5_first hl B9 hW h) (fun X9 τ9 h9 => VX_out rfl h9) ?_
  rintro v9 σ3 ⟨hW, u4, rfl, h⟩
  exact V_iret 11 rfl rfl ⟨hW, _, rfl, h⟩

def wX11_begin  (Q : Int32 → ab_S → Prop) (E : String → ab_S → Prop) (σ : ab_S) : Prop := wX11_needTree (fun σ1 => (∀ σ2 : ab_S, σ2 = ab_I σ1 0 17 (1 : Int32) → ∃ q3, σ2.2.2.2 0 11 = some q3 ∧ isG q3 ∧ (∃ q4, σ2.2.2.2 0 13 = some q4 ∧ isT q4 ∧ (wX2_restart 35 q3 q4 (fun σ5 => Q (σ5.2.1 35 10) σ5) E σ2)))) E σ
set_option maxHeartbeats 4000000 in
set_option maxRecDepth 100000 in
theorem ceX11_begin {l : Launch} (hl : l.stackTraces = false) (B : Nat)   {Q : Int32 → ab_S → Prop} {E : String → ab_S → Prop} {σ : ab_S} (hW : Wire σ) (h : wX11_begin  Q E σ) : ab_Mt l yX11_begin mdX11_begin B 7 120 1 6 [.ref 0] σ (fun v σ' => Wire σ' ∧ ∃ r : Int32, v = some (.int r) ∧ Q r σ') (fun X σ' => Wire σ' ∧ E X σ') := by
  refine V_met hl ⟨rfl, rfl, by decide⟩ rfl dkX11_begin (Nat.le_of_ble_eq_true rfl) ?_
  show V l mdX11_begin B 7 120 1 6 (ab_End _ _) 0 [(0, .ref 0)] [] σ
  refine V_aload_n 0 0 rfl rfl rfl ?_
  refine V_callV 1 0 (as := []) (rest := []) rfl mlX11_212 yvX11_needTree rfl rfl clX11 (wsh hW rfl) (by decide) (by decide) (Nat.le_of_ble_eq_true rfl) (by decide) (by decide) (fun B9 => ceX11_needTree hl B9 hW h) (fun X9 τ9 h9 => VX_out rfl h9) ?_
  rintro v9 σ1 ⟨hW, rfl, h⟩
  refine V_aload_n 2 0 rfl rfl rfl ?_
  refine V_iconst 3 (v := (1 : Int32)) rfl (by decide) ?_
  refine V_putI 4 17 rfl clX11 flX11_156 (by decide) (wsh hW rfl) rfl (fun _ _ => rfl) rfl rfl ?_
  refine V_nm (fun σ2 eσ2 => ?_)
  replace h := h σ2 eσ2
  have hW := wire_I eσ2 hW
  refine V_aload_n 5 0 rfl rfl rfl ?_
  refine V_getR 6 8 rfl clX11 flX11_80 (by decide) (wsh hW rfl) (fun _ => rfl) (wrf hW 8 rfl) ?_
  refine V_aload_n 7 0 rfl rfl rfl ?_
  obtain ⟨q3, eq3, hq3, h⟩ := h
  refine V_getR 8 11 rfl clX11 flX11_94 (by decide) (wsh hW rfl) (fun _ => rfl) eq3 ?_
  refine V_aload_n 9 0 rfl rfl rfl ?_
  refine V_pc 18 rfl ?_
  obtain ⟨q4, eq4, hq4, h⟩ := h
  refine V_getR 10 13 rfl clX11 flX11_104 (by decide) (wsh hW rfl) (fun _ => rfl) eq4 ?_
  refine V_callV 11 2 (as := [.ref q3, .ref q4]) (rest := []) rfl mlX11_293 yvX2_restart rfl rfl clX2 (wsh hW rfl) (by decide) (by decide) (Nat.le_of_ble_eq_true rfl) (by decide) (by decide) (fun B9 => ceX2_restart hl B9 (Or.inr rfl) hq3 hq4 hW h) (fun X9 τ9 h9 => VX_out rfl h9) ?_
  rintro v9 σ5 ⟨hW, rfl, h⟩
  refine V_aload_n 12 0 rfl rfl rfl ?_
  refine V_getR 13 8 rfl clX11 flX11_80 (by decide) (wsh hW rfl) (fun _ => rfl) (wrf hW 8 rfl) ?_
  refine V_get (v := .int (σ5.2.1 35 10)) 14 10 rfl clX2 flX11_297 (by decide) (wsh hW rfl) (fun _ => rfl) ?_
  exact V_iret 15 rfl rfl ⟨hW, _, rfl, h⟩

def wX11_needMachine  (Q : ab_S → Prop) (E : String → ab_S → Prop) (σ : ab_S) : Prop := ((¬ (σ.2.1 0 17) = 0) → Q σ) ∧ (¬ (¬ (σ.2.1 0 17) = 0) → E "java/lang/IllegalStateException" σ)
set_option maxHeartbeats 4000000 in
set_option maxRecDepth 100000 in
theorem ceX11_needMachine {l : Launch} (hl : l.stackTraces = false) (B : Nat)   {Q : ab_S → Prop} {E : String → ab_S → Prop} {σ : ab_S} (hW : Wire σ) (h : wX11_needMachine  Q E σ) : ab_Mt l yX11_needMachine mdX11_needMachine B 6 100 1 6 [.ref 0] σ (fun v σ' => Wire σ' ∧ v = none ∧ Q σ') (fun X σ' => Wire σ' ∧ E X σ') := by
  refine V_met hl ⟨rfl, rfl, by decide⟩ rfl dkX11_needMachine (Nat.le_of_ble_eq_true rfl) ?_
  show V l mdX11_needMachine B 6 100 1 6 (ab_End _ _) 0 [(0, .ref 0)] [] σ
  refine V_aload_n 0 0 rfl rfl rfl ?_
  refine V_get (v := .int (σ.2.1 0 17)) 1 17 rfl clX11 flX11_156 (by decide) (wsh hW rfl) (fun _ => rfl) ?_
  refine V_if_ne 2 (tgt := 15) rfl (by decide) (fun hc => ?_) (fun hc => ?_)
  · replace h := h.1 hc
    exact V_vret 7 rfl rfl ⟨hW, rfl, h⟩
  · replace h := h.2 hc
    refine V_pc 7 rfl ?_
    exact V_throw 3 rfl rfl rfl rfl xwX11_348_350 (by decide) (Nat.le_of_ble_eq_true rfl) (by decide) (by decide) rfl ⟨hW, h⟩

def wX11_step_j15 (a0 : Int32) (Q : Int32 → ab_S → Prop) (E : String → ab_S → Prop)  (σ : ab_S) : Prop := E "java/lang/IllegalArgumentException" σ
def wX11_step (a0 : Int32) (Q : Int32 → ab_S → Prop) (E : String → ab_S → Prop) (σ : ab_S) : Prop := wX11_needMachine (fun σ1 => ((a0 < 0) → wX11_step_j15 a0 Q E σ1) ∧ (¬ (a0 < 0) → ((a0 ≤ (100000 : Int32)) → wX2_run 35 a0 (fun u3 σ2 => Q u3 σ2) E σ1) ∧ (¬ (a0 ≤ (100000 : Int32)) → wX11_step_j15 a0 Q E σ1))) E σ
set_option maxHeartbeats 4000000 in
set_option maxRecDepth 100000 in
theorem ceX11_step {l : Launch} (hl : l.stackTraces = false) (B : Nat) {a0 : Int32}  {Q : Int32 → ab_S → Prop} {E : String → ab_S → Prop} {σ : ab_S} (hW : Wire σ) (h : wX11_step a0 Q E σ) : ab_Mt l yX11_step mdX11_step B 7 120 2 12 [.ref 0, .int a0] σ (fun v σ' => Wire σ' ∧ ∃ r : Int32, v = some (.int r) ∧ Q r σ') (fun X σ' => Wire σ' ∧ E X σ') := by
  refine V_met hl ⟨rfl, rfl, by decide⟩ rfl dkX11_step (Nat.le_of_ble_eq_true rfl) ?_
  show V l mdX11_step B 7 120 2 12 (ab_End _ _) 0 [(0, .ref 0), (1, .int a0)] [] σ
  revert h hW
  revert σ
  have k_j15 : ∀   (σ : ab_S), Wire σ → wX11_step_j15 a0 Q E  σ → V l mdX11_step B 7 120 1 6 (ab_End (fun v σ' => Wire σ' ∧ ∃ r : Int32, v = some (.int r) ∧ Q r σ') (fun X σ' => Wire σ' ∧ E X σ')) 15 [] [] σ := by
    intro   σ hW h
    exact V_throw 7 rfl rfl rfl rfl xwX11_115_117 (by decide) (Nat.le_of_ble_eq_true rfl) (by decide) (by decide) rfl ⟨hW, h⟩
  intro σ hW h
  refine V_aload_n 0 0 rfl rfl rfl ?_
  refine V_callV 1 0 (as := []) (rest := []) rfl mlX11_300 yvX11_needMachine rfl rfl clX11 (wsh hW rfl) (by decide) (by decide) (Nat.le_of_ble_eq_true rfl) (by decide) (by decide) (fun B9 => ceX11_needMachine hl B9 hW h) (fun X9 τ9 h9 => VX_out rfl h9) ?_
  rintro v9 σ1 ⟨hW, rfl, h⟩
  refine V_iload_n 2 1 rfl rfl rfl ?_
  refine V_if_lt 3 (tgt := 15) rfl (by decide) (fun hc => ?_) (fun hc => ?_)
  · replace h := h.1 hc
    refine V_sub [] (lv' := []) rfl ?_
    exact k_j15 σ1 hW h
  · replace h := h.2 hc
    refine V_pc 8 rfl ?_
    refine V_iload_n 4 1 rfl rfl rfl ?_
    refine V_ldc_w 5 (v := (100000 : Int32)) rfl ctX11_303 ?_
    refine V_icmp_le 6 (tgt := 23) rfl (by decide) (fun hc => ?_) (fun hc => ?_)
    · replace h := h.1 hc
      refine V_aload_n 11 0 rfl rfl rfl ?_
      refine V_getR 12 8 rfl clX11 flX11_80 (by decide) (wsh hW rfl) (fun _ => rfl) (wrf hW 8 rfl) ?_
      refine V_iload_n 13 1 rfl rfl rfl ?_
      refine V_callV 14 1 (as := [.int a0]) (rest := []) rfl mlX11_304 yvX2_run rfl rfl clX2 (wsh hW rfl) (by decide) (by decide) (Nat.le_of_ble_eq_true rfl) (by decide) (by decide) (fun B9 => ceX2_run hl B9 (Or.inr rfl) hW h) (fun X9 τ9 h9 => VX_out rfl h9) ?_
      rintro v9 σ2 ⟨hW, u3, rfl, h⟩
      exact V_iret 15 rfl rfl ⟨hW, _, rfl, h⟩
    · replace h := h.2 hc
      refine V_pc 15 rfl ?_
      refine V_sub [] (lv' := []) rfl ?_
      exact k_j15 σ1 hW h

def wX11_machine (a0 : Int32) (Q : Int32 → ab_S → Prop) (E : String → ab_S → Prop) (σ : ab_S) : Prop := wX11_needMachine (fun σ1 => (a0 = 0 → Q (σ1.2.1 35 10) σ1) ∧ (¬ a0 = 0 → (a0 = 1 → Q (σ1.2.1 35 11) σ1) ∧ (¬ a0 = 1 → (a0 = 2 → Q (σ1.2.1 35 12) σ1) ∧ (¬ a0 = 2 → (a0 = 3 → Q (σ1.2.1 35 13) σ1) ∧ (¬ a0 = 3 → (a0 = 4 → wX2_lastNode 35 (fun u3 σ2 => Q u3 σ2) E σ1) ∧ (¬ a0 = 4 → (a0 = 5 → Q (σ1.2.1 23 7) σ1) ∧ (¬ a0 = 5 → E "java/lang/IllegalArgumentException" σ1))))))) E σ
set_option maxHeartbeats 4000000 in
set_option maxRecDepth 100000 in
theorem ceX11_machine {l : Launch} (hl : l.stackTraces = false) (B : Nat) {a0 : Int32}  {Q : Int32 → ab_S → Prop} {E : String → ab_S → Prop} {σ : ab_S} (hW : Wire σ) (h : wX11_machine a0 Q E σ) : ab_Mt l yX11_machine mdX11_machine B 7 120 2 12 [.ref 0, .int a0] σ (fun v σ' => Wire σ' ∧ ∃ r : Int32, v = some (.int r) ∧ Q r σ') (fun X σ' => Wire σ' ∧ E X σ') := by
  refine V_met hl ⟨rfl, rfl, by decide⟩ rfl dkX11_machine (Nat.le_of_ble_eq_true rfl) ?_
  show V l mdX11_machine B 7 120 2 12 (ab_End _ _) 0 [(0, .ref 0), (1, .int a0)] [] σ
  refine V_aload_n 0 0 rfl rfl rfl ?_
  refine V_callV 1 0 (as := []) (rest := []) rfl mlX11_300 yvX11_needMachine rfl rfl clX11 (wsh hW rfl) (by decide) (by decide) (Nat.le_of_ble_eq_true rfl) (by decide) (by decide) (fun B9 => ceX11_needMachine hl B9 hW h) (fun X9 τ9 h9 => VX_out rfl h9) ?_
  rintro v9 σ1 ⟨hW, rfl, h⟩
  refine V_iload_n 2 1 rfl rfl rfl ?_
  by_cases hs0 : a0 = 0
  · replace h := h.1 hs0
    refine V_tab 3 (v := 0) (off := 39) (tgt := 44) rfl (by rw [hs0]; rfl) (by decide) rfl (by decide) ?_
    refine V_aload_n 4 0 rfl rfl rfl ?_
    refine V_getR 5 8 rfl clX11 flX11_80 (by decide) (wsh hW rfl) (fun _ => rfl) (wrf hW 8 rfl) ?_
    refine V_get (v := .int (σ1.2.1 35 10)) 6 10 rfl clX2 flX11_297 (by decide) (wsh hW rfl) (fun _ => rfl) ?_
    exact V_iret 7 rfl rfl ⟨hW, _, rfl, h⟩
  · replace h := h.2 hs0
    by_cases hs1 : a0 = 1
    · replace h := h.1 hs1
      refine V_tab 3 (v := 1) (off := 47) (tgt := 52) rfl (by rw [hs1]; rfl) (by decide) rfl (by decide) ?_
      refine V_aload_n 8 0 rfl rfl rfl ?_
      refine V_getR 9 8 rfl clX11 flX11_80 (by decide) (wsh hW rfl) (fun _ => rfl) (wrf hW 8 rfl) ?_
      refine V_get (v := .int (σ1.2.1 35 11)) 10 11 rfl clX2 flX11_307 (by decide) (wsh hW rfl) (fun _ => rfl) ?_
      exact V_iret 11 rfl rfl ⟨hW, _, rfl, h⟩
    · replace h := h.2 hs1
      by_cases hs2 : a0 = 2
      · replace h := h.1 hs2
        refine V_tab 3 (v := 2) (off := 55) (tgt := 60) rfl (by rw [hs2]; rfl) (by decide) rfl (by decide) ?_
        refine V_aload_n 12 0 rfl rfl rfl ?_
        refine V_getR 13 8 rfl clX11 flX11_80 (by decide) (wsh hW rfl) (fun _ => rfl) (wrf hW 8 rfl) ?_
        refine V_get (v := .int (σ1.2.1 35 12)) 14 12 rfl clX2 flX11_310 (by decide) (wsh hW rfl) (fun _ => rfl) ?_
        exact V_iret 15 rfl rfl ⟨hW, _, rfl, h⟩
      · replace h := h.2 hs2
        by_cases hs3 : a0 = 3
        · replace h := h.1 hs3
          refine V_tab 3 (v := 3) (off := 63) (tgt := 68) rfl (by rw [hs3]; rfl) (by decide) rfl (by decide) ?_
          refine V_aload_n 16 0 rfl rfl rfl ?_
          refine V_getR 17 8 rfl clX11 flX11_80 (by decide) (wsh hW rfl) (fun _ => rfl) (wrf hW 8 rfl) ?_
          refine V_get (v := .int (σ1.2.1 35 13)) 18 13 rfl clX2 flX11_313 (by decide) (wsh hW rfl) (fun _ => rfl) ?_
          exact V_iret 19 rfl rfl ⟨hW, _, rfl, h⟩
        · replace h := h.2 hs3
          by_cases hs4 : a0 = 4
          · replace h := h.1 hs4
            refine V_tab 3 (v := 4) (off := 71) (tgt := 76) rfl (by rw [hs4]; rfl) (by decide) rfl (by decide) ?_
            refine V_aload_n 20 0 rfl rfl rfl ?_
            refine V_getR 21 8 rfl clX11 flX11_80 (by decide) (wsh hW rfl) (fun _ => rfl) (wrf hW 8 rfl) ?_
            refine V_callV 22 0 (as := []) (rest := []) rfl mlX11_316 yvX2_lastNode rfl rfl clX2 (wsh hW rfl) (by decide) (by decide) (Nat.le_of_ble_eq_true rfl) (by decide) (by decide) (fun B9 => ceX2_lastNode hl B9 (Or.inr rfl) hW h) (fun X9 τ9 h9 => VX_out rfl h9) ?_
            rintro v9 σ2 ⟨hW, u3, rfl, h⟩
            exact V_iret 23 rfl rfl ⟨hW, _, rfl, h⟩
          · replace h := h.2 hs4
            by_cases hs5 : a0 = 5
            · replace h := h.1 hs5
              refine V_tab 3 (v := 5) (off := 79) (tgt := 84) rfl (by rw [hs5]; rfl) (by decide) rfl (by decide) ?_
              refine V_aload_n 24 0 rfl rfl rfl ?_
              refine V_getR 25 6 rfl clX11 flX11_67 (by decide) (wsh hW rfl) (fun _ => rfl) (wrf hW 6 rfl) ?_
              refine V_get (v := .int (σ1.2.1 23 7)) 26 7 rfl clX5 flX11_284 (by decide) (wsh hW rfl) (fun _ => rfl) ?_
              exact V_iret 27 rfl rfl ⟨hW, _, rfl, h⟩
            · replace h := h.2 hs5
              refine V_tabOut 3 (tgt := 92) rfl (by have hq0 := lv_neT hs0 (show Int32.toInt 0 = 0 from by decide); have hq1 := lv_neT hs1 (show Int32.toInt 1 = 1 from by decide); have hq2 := lv_neT hs2 (show Int32.toInt 2 = 2 from by decide); have hq3 := lv_neT hs3 (show Int32.toInt 3 = 3 from by decide); have hq4 := lv_neT hs4 (show Int32.toInt 4 = 4 from by decide); have hq5 := lv_neT hs5 (show Int32.toInt 5 = 5 from by decide); omega) (by decide) ?_
              exact V_throw 28 rfl rfl rfl rfl xwX11_115_117 (by decide) (Nat.le_of_ble_eq_true rfl) (by decide) (by decide) rfl ⟨hW, h⟩

def wX11_alone (a0 : Int32) (Q : Int32 → ab_S → Prop) (E : String → ab_S → Prop) (σ : ab_S) : Prop := wX11_needMachine (fun σ1 => wX11_needIndex a0 (σ1.2.1 19 5) (fun σ2 => vp_in a0 96 ∧ (wX11_number (σ2.2.2.1 37 a0.toNatClampNeg) (fun u4 σ3 => Q u4 σ3) E σ2)) E σ1) E σ
set_option maxHeartbeats 4000000 in
set_option maxRecDepth 100000 in
theorem ceX11_alone {l : Launch} (hl : l.stackTraces = false) (B : Nat) {a0 : Int32}  {Q : Int32 → ab_S → Prop} {E : String → ab_S → Prop} {σ : ab_S} (hW : Wire σ) (h : wX11_alone a0 Q E σ) : ab_Mt l yX11_alone mdX11_alone B 7 121 3 18 [.ref 0, .int a0] σ (fun v σ' => Wire σ' ∧ ∃ r : Int32, v = some (.int r) ∧ Q r σ') (fun X σ' => Wire σ' ∧ E X σ') := by
  refine V_met hl ⟨rfl, rfl, by decide⟩ rfl dkX11_alone (Nat.le_of_ble_eq_true rfl) ?_
  show V l mdX11_alone B 7 121 3 18 (ab_End _ _) 0 [(0, .ref 0), (1, .int a0)] [] σ
  refine V_aload_n 0 0 rfl rfl rfl ?_
  refine V_callV 1 0 (as := []) (rest := []) rfl mlX11_300 yvX11_needMachine rfl rfl clX11 (wsh hW rfl) (by decide) (by decide) (Nat.le_of_ble_eq_true rfl) (by decide) (by decide) (fun B9 => ceX11_needMachine hl B9 hW h) (fun X9 τ9 h9 => VX_out rfl h9) ?_
  rintro v9 σ1 ⟨hW, rfl, h⟩
  refine V_iload_n 2 1 rfl rfl rfl ?_
  refine V_aload_n 3 0 rfl rfl rfl ?_
  refine V_getR 4 5 rfl clX11 flX11_58 (by decide) (wsh hW rfl) (fun _ => rfl) (wrf hW 5 rfl) ?_
  refine V_get (v := .int (σ1.2.1 19 5)) 5 5 rfl clX7 flX11_234 (by decide) (wsh hW rfl) (fun _ => rfl) ?_
  refine V_callS 6 2 (as := [.int a0, .int (σ1.2.1 19 5)]) (rest := []) rfl mlX11_285 yvX11_needIndex rfl rfl (by decide) (by decide) (Nat.le_of_ble_eq_true rfl) (by decide) (by decide) (fun B9 => ceX11_needIndex hl B9 hW h) (fun X9 τ9 h9 => VX_out rfl h9) ?_
  rintro v9 σ2 ⟨hW, rfl, h⟩
  refine V_aload_n 7 0 rfl rfl rfl ?_
  refine V_getR 8 8 rfl clX11 flX11_80 (by decide) (wsh hW rfl) (fun _ => rfl) (wrf hW 8 rfl) ?_
  refine V_getR 9 5 rfl clX2 flX11_319 (by decide) (wsh hW rfl) (fun _ => rfl) (wrf hW 45 rfl) ?_
  refine V_iload_n 10 1 rfl rfl rfl ?_
  obtain ⟨hin, h⟩ := h
  refine V_lald 11 rfl (wsh hW rfl) hin ?_
  refine V_pc 24 rfl ?_
  refine V_callS 12 1 (as := [.long (σ2.2.2.1 37 a0.toNatClampNeg)]) (rest := []) rfl mlX11_259 yvX11_number rfl rfl (by decide) (by decide) (Nat.le_of_ble_eq_true rfl) (by decide) (by decide) (fun B9 => ceX11_number hl B9 hW h) (fun X9 τ9 h9 => VX_out rfl h9) ?_
  rintro v9 σ3 ⟨hW, u4, rfl, h⟩
  exact V_iret 13 rfl rfl ⟨hW, _, rfl, h⟩

def wX11_top (a0 : Int32) (Q : Int32 → ab_S → Prop) (E : String → ab_S → Prop) (σ : ab_S) : Prop := wX11_needMachine (fun σ1 => wX11_needIndex a0 (σ1.2.1 35 12) (fun σ2 => vp_in (((σ2.2.1 35 12) - (1 : Int32)) - a0) 40 ∧ (wX11_number (σ2.2.2.1 38 (((σ2.2.1 35 12) - (1 : Int32)) - a0).toNatClampNeg) (fun u4 σ3 => Q u4 σ3) E σ2)) E σ1) E σ
set_option maxHeartbeats 4000000 in
set_option maxRecDepth 100000 in
theorem ceX11_top {l : Launch} (hl : l.stackTraces = false) (B : Nat) {a0 : Int32}  {Q : Int32 → ab_S → Prop} {E : String → ab_S → Prop} {σ : ab_S} (hW : Wire σ) (h : wX11_top a0 Q E σ) : ab_Mt l yX11_top mdX11_top B 7 121 3 18 [.ref 0, .int a0] σ (fun v σ' => Wire σ' ∧ ∃ r : Int32, v = some (.int r) ∧ Q r σ') (fun X σ' => Wire σ' ∧ E X σ') := by
  refine V_met hl ⟨rfl, rfl, by decide⟩ rfl dkX11_top (Nat.le_of_ble_eq_true rfl) ?_
  show V l mdX11_top B 7 121 3 18 (ab_End _ _) 0 [(0, .ref 0), (1, .int a0)] [] σ
  refine V_aload_n 0 0 rfl rfl rfl ?_
  refine V_callV 1 0 (as := []) (rest := []) rfl mlX11_300 yvX11_needMachine rfl rfl clX11 (wsh hW rfl) (by decide) (by decide) (Nat.le_of_ble_eq_true rfl) (by decide) (by decide) (fun B9 => ceX11_needMachine hl B9 hW h) (fun X9 τ9 h9 => VX_out rfl h9) ?_
  rintro v9 σ1 ⟨hW, rfl, h⟩
  refine V_iload_n 2 1 rfl rfl rfl ?_
  refine V_aload_n 3 0 rfl rfl rfl ?_
  refine V_getR 4 8 rfl clX11 flX11_80 (by decide) (wsh hW rfl) (fun _ => rfl) (wrf hW 8 rfl) ?_
  refine V_get (v := .int (σ1.2.1 35 12)) 5 12 rfl clX2 flX11_310 (by decide) (wsh hW rfl) (fun _ => rfl) ?_
  refine V_callS 6 2 (as := [.int a0, .int (σ1.2.1 35 12)]) (rest := []) rfl mlX11_285 yvX11_needIndex rfl rfl (by decide) (by decide) (Nat.le_of_ble_eq_true rfl) (by decide) (by decide) (fun B9 => ceX11_needIndex hl B9 hW h) (fun X9 τ9 h9 => VX_out rfl h9) ?_
  rintro v9 σ2 ⟨hW, rfl, h⟩
  refine V_aload_n 7 0 rfl rfl rfl ?_
  refine V_getR 8 8 rfl clX11 flX11_80 (by decide) (wsh hW rfl) (fun _ => rfl) (wrf hW 8 rfl) ?_
  refine V_getR 9 6 rfl clX2 flX11_321 (by decide) (wsh hW rfl) (fun _ => rfl) (wrf hW 46 rfl) ?_
  refine V_aload_n 10 0 rfl rfl rfl ?_
  refine V_getR 11 8 rfl clX11 flX11_80 (by decide) (wsh hW rfl) (fun _ => rfl) (wrf hW 8 rfl) ?_
  refine V_pc 26 rfl ?_
  refine V_get (v := .int (σ2.2.1 35 12)) 12 12 rfl clX2 flX11_310 (by decide) (wsh hW rfl) (fun _ => rfl) ?_
  refine V_iconst 13 (v := (1 : Int32)) rfl (by decide) ?_
  refine V_isub 14 rfl ?_
  refine V_iload_n 15 1 rfl rfl rfl ?_
  refine V_isub 16 rfl ?_
  obtain ⟨hin, h⟩ := h
  refine V_lald 17 rfl (wsh hW rfl) hin ?_
  refine V_pc 34 rfl ?_
  refine V_callS 18 1 (as := [.long (σ2.2.2.1 38 (((σ2.2.1 35 12) - (1 : Int32)) - a0).toNatClampNeg)]) (rest := []) rfl mlX11_259 yvX11_number rfl rfl (by decide) (by decide) (Nat.le_of_ble_eq_true rfl) (by decide) (by decide) (fun B9 => ceX11_number hl B9 hW h) (fun X9 τ9 h9 => VX_out rfl h9) ?_
  rintro v9 σ3 ⟨hW, u4, rfl, h⟩
  exact V_iret 19 rfl rfl ⟨hW, _, rfl, h⟩

def wX11_held (a0 : Int32) (a1 : Int32) (Q : Int32 → ab_S → Prop) (E : String → ab_S → Prop) (σ : ab_S) : Prop := wX11_needMachine (fun σ1 => wX11_needNodeAttribute a0 a1 (fun σ2 => wX11_symbolOf a0 (fun u4 σ3 => vp_in ((u4 * (8 : Int32)) + a1) 96 ∧ ((((σ3.2.1 21 ((u4 * (8 : Int32)) + a1).toNatClampNeg) = (2 : Int32)) → vp_in ((a0 * (8 : Int32)) + a1) 2000 ∧ (wX11_number (σ3.2.2.1 36 ((a0 * (8 : Int32)) + a1).toNatClampNeg) (fun u6 σ5 => Q u6 σ5) E σ3)) ∧ (¬ ((σ3.2.1 21 ((u4 * (8 : Int32)) + a1).toNatClampNeg) = (2 : Int32)) → E "java/lang/IllegalArgumentException" σ3))) E σ2) E σ1) E σ
set_option maxHeartbeats 4000000 in
set_option maxRecDepth 100000 in
theorem ceX11_held {l : Launch} (hl : l.stackTraces = false) (B : Nat) {a0 : Int32} {a1 : Int32}  {Q : Int32 → ab_S → Prop} {E : String → ab_S → Prop} {σ : ab_S} (hW : Wire σ) (h : wX11_held a0 a1 Q E σ) : ab_Mt l yX11_held mdX11_held B 9 164 4 24 [.ref 0, .int a0, .int a1] σ (fun v σ' => Wire σ' ∧ ∃ r : Int32, v = some (.int r) ∧ Q r σ') (fun X σ' => Wire σ' ∧ E X σ') := by
  refine V_met hl ⟨rfl, rfl, by decide⟩ rfl dkX11_held (Nat.le_of_ble_eq_true rfl) ?_
  show V l mdX11_held B 9 164 4 24 (ab_End _ _) 0 [(0, .ref 0), (1, .int a0), (2, .int a1)] [] σ
  refine V_aload_n 0 0 rfl rfl rfl ?_
  refine V_callV 1 0 (as := []) (rest := []) rfl mlX11_300 yvX11_needMachine rfl rfl clX11 (wsh hW rfl) (by decide) (by decide) (Nat.le_of_ble_eq_true rfl) (by decide) (by decide) (fun B9 => ceX11_needMachine hl B9 hW h) (fun X9 τ9 h9 => VX_out rfl h9) ?_
  rintro v9 σ1 ⟨hW, rfl, h⟩
  refine V_aload_n 2 0 rfl rfl rfl ?_
  refine V_iload_n 3 1 rfl rfl rfl ?_
  refine V_iload_n 4 2 rfl rfl rfl ?_
  refine V_callV 5 2 (as := [.int a0, .int a1]) (rest := []) rfl mlX11_253 yvX11_needNodeAttribute rfl rfl clX11 (wsh hW rfl) (by decide) (by decide) (Nat.le_of_ble_eq_true rfl) (by decide) (by decide) (fun B9 => ceX11_needNodeAttribute hl B9 hW h) (fun X9 τ9 h9 => VX_out rfl h9) ?_
  rintro v9 σ2 ⟨hW, rfl, h⟩
  refine V_aload_n 6 0 rfl rfl rfl ?_
  refine V_getR 7 5 rfl clX11 flX11_58 (by decide) (wsh hW rfl) (fun _ => rfl) (wrf hW 5 rfl) ?_
  refine V_getR 8 3 rfl clX7 flX11_203 (by decide) (wsh hW rfl) (fun _ => rfl) (wrf hW 28 rfl) ?_
  refine V_aload_n 9 0 rfl rfl rfl ?_
  refine V_iload_n 10 1 rfl rfl rfl ?_
  refine V_pc 19 rfl ?_
  refine V_callV 11 1 (as := [.int a0]) (rest := [.ref 21]) rfl mlX11_249 yvX11_symbolOf rfl rfl clX11 (wsh hW rfl) (by decide) (by decide) (Nat.le_of_ble_eq_true rfl) (by decide) (by decide) (fun B9 => ceX11_symbolOf hl B9 hW h) (fun X9 τ9 h9 => VX_out rfl h9) ?_
  rintro v9 σ3 ⟨hW, u4, rfl, h⟩
  refine V_bipush 12 (v := (8 : Int32)) rfl (by decide) ?_
  refine V_imul 13 rfl ?_
  refine V_iload_n 14 2 rfl rfl rfl ?_
  refine V_iadd 15 rfl ?_
  obtain ⟨hin, h⟩ := h
  refine V_iald 16 rfl (wsh hW rfl) hin ?_
  refine V_pc 28 rfl ?_
  refine V_iconst 17 (v := (2 : Int32)) rfl (by decide) ?_
  refine V_icmp_eq 18 (tgt := 40) rfl (by decide) (fun hc => ?_) (fun hc => ?_)
  · replace h := h.1 hc
    refine V_aload_n 23 0 rfl rfl rfl ?_
    refine V_getR 24 8 rfl clX11 flX11_80 (by decide) (wsh hW rfl) (fun _ => rfl) (wrf hW 8 rfl) ?_
    refine V_getR 25 4 rfl clX2 flX11_256 (by decide) (wsh hW rfl) (fun _ => rfl) (wrf hW 44 rfl) ?_
    refine V_iload_n 26 1 rfl rfl rfl ?_
    refine V_bipush 27 (v := (8 : Int32)) rfl (by decide) ?_
    refine V_imul 28 rfl ?_
    refine V_pc 51 rfl ?_
    refine V_iload_n 29 2 rfl rfl rfl ?_
    refine V_iadd 30 rfl ?_
    obtain ⟨hin, h⟩ := h
    refine V_lald 31 rfl (wsh hW rfl) hin ?_
    refine V_callS 32 1 (as := [.long (σ3.2.2.1 36 ((a0 * (8 : Int32)) + a1).toNatClampNeg)]) (rest := []) rfl mlX11_259 yvX11_number rfl rfl (by decide) (by decide) (Nat.le_of_ble_eq_true rfl) (by decide) (by decide) (fun B9 => ceX11_number hl B9 hW h) (fun X9 τ9 h9 => VX_out rfl h9) ?_
    rintro v9 σ5 ⟨hW, u6, rfl, h⟩
    exact V_iret 33 rfl rfl ⟨hW, _, rfl, h⟩
  · replace h := h.2 hc
    refine V_pc 32 rfl ?_
    exact V_throw 19 rfl rfl rfl rfl xwX11_115_117 (by decide) (Nat.le_of_ble_eq_true rfl) (by decide) (by decide) rfl ⟨hW, h⟩

def wX12_thrown  (Q : Int32 → ab_S → Prop) (E : String → ab_S → Prop) (σ : ab_S) : Prop := Q (σ.2.1 92 0) σ
set_option maxHeartbeats 4000000 in
set_option maxRecDepth 100000 in
theorem ceX12_thrown {l : Launch} (hl : l.stackTraces = false) (B : Nat)   {Q : Int32 → ab_S → Prop} {E : String → ab_S → Prop} {σ : ab_S} (hW : Wire σ) (h : wX12_thrown  Q E σ) : ab_Mt l yX12_thrown mdX12_thrown B 0 0 0 0 [.ref 92] σ (fun v σ' => Wire σ' ∧ ∃ r : Int32, v = some (.int r) ∧ Q r σ') (fun X σ' => Wire σ' ∧ E X σ') := by
  refine V_met hl ⟨rfl, rfl, by decide⟩ rfl dkX12_thrown (Nat.le_of_ble_eq_true rfl) ?_
  show V l mdX12_thrown B 0 0 0 0 (ab_End _ _) 0 [(0, .ref 92)] [] σ
  refine V_aload_n 0 0 rfl rfl rfl ?_
  refine V_get (v := .int (σ.2.1 92 0)) 1 0 rfl clX12 flX12_234 (by decide) (wsh hW rfl) (fun _ => rfl) ?_
  exact V_iret 2 rfl rfl ⟨hW, _, rfl, h⟩

def wX12_refuse_j26 (a0 : Int32) (a1 : Int32) (a2 : Int32) (Q : Int32 → ab_S → Prop) (E : String → ab_S → Prop) (y0 : Int32) (σ : ab_S) : Prop := (∀ σ1 : ab_S, σ1 = ab_I σ 92 0 y0 → (((σ1.2.1 92 0) ≤ 0) → Q (0 : Int32) σ1) ∧ (¬ ((σ1.2.1 92 0) ≤ 0) → Q (1 : Int32) σ1))
def wX12_refuse (a0 : Int32) (a1 : Int32) (a2 : Int32) (Q : Int32 → ab_S → Prop) (E : String → ab_S → Prop) (σ : ab_S) : Prop := ((a0 = 0) → ((a1 = 0) → ((a2 = 0) → wX12_refuse_j26 a0 a1 a2 Q E (0 : Int32) σ) ∧ (¬ (a2 = 0) → wX12_refuse_j26 a0 a1 a2 Q E (3 : Int32) σ)) ∧ (¬ (a1 = 0) → wX12_refuse_j26 a0 a1 a2 Q E (2 : Int32) σ)) ∧ (¬ (a0 = 0) → wX12_refuse_j26 a0 a1 a2 Q E (1 : Int32) σ)
set_option maxHeartbeats 4000000 in
set_option maxRecDepth 100000 in
theorem ceX12_refuse {l : Launch} (hl : l.stackTraces = false) (B : Nat) {a0 : Int32} {a1 : Int32} {a2 : Int32}  {Q : Int32 → ab_S → Prop} {E : String → ab_S → Prop} {σ : ab_S} (hW : Wire σ) (h : wX12_refuse a0 a1 a2 Q E σ) : ab_Mt l yX12_refuse mdX12_refuse B 0 0 0 0 [.ref 92, .int a0, .int a1, .int a2] σ (fun v σ' => Wire σ' ∧ ∃ r : Int32, v = some (.int r) ∧ Q r σ') (fun X σ' => Wire σ' ∧ E X σ') := by
  refine V_met hl ⟨rfl, rfl, by decide⟩ rfl dkX12_refuse (Nat.le_of_ble_eq_true rfl) ?_
  show V l mdX12_refuse B 0 0 0 0 (ab_End _ _) 0 [(0, .ref 92), (1, .int a0), (2, .int a1), (3, .int a2)] [] σ
  revert h hW
  revert σ
  have k_j26 : ∀ (y0 : Int32)  (σ : ab_S), Wire σ → wX12_refuse_j26 a0 a1 a2 Q E y0 σ → V l mdX12_refuse B 0 0 0 0 (ab_End (fun v σ' => Wire σ' ∧ ∃ r : Int32, v = some (.int r) ∧ Q r σ') (fun X σ' => Wire σ' ∧ E X σ')) 26 [(0, .ref 92)] [.int y0, .ref 92] σ := by
    intro y0  σ hW h
    refine V_putI 14 0 rfl clX12 flX12_234 (by decide) (wsh hW rfl) rfl (fun _ _ => rfl) rfl rfl ?_
    refine V_nm (fun σ1 eσ1 => ?_)
    replace h := h σ1 eσ1
    have hW := wire_I eσ1 hW
    refine V_aload_n 15 0 rfl rfl rfl ?_
    refine V_get (v := .int (σ1.2.1 92 0)) 16 0 rfl clX12 flX12_234 (by decide) (wsh hW rfl) (fun _ => rfl) ?_
    refine V_if_le 17 (tgt := 40) rfl (by decide) (fun hc => ?_) (fun hc => ?_)
    · replace h := h.1 hc
      refine V_iconst 20 (v := (0 : Int32)) rfl (by decide) ?_
      exact V_zret 21 rfl rfl rfl ⟨hW, _, rfl, h⟩
    · replace h := h.2 hc
      refine V_pc 36 rfl ?_
      refine V_iconst 18 (v := (1 : Int32)) rfl (by decide) ?_
      refine V_goto 19 (tgt := 41) rfl (by decide) ?_
      exact V_zret 21 rfl rfl rfl ⟨hW, _, rfl, h⟩
  intro σ hW h
  refine V_aload_n 0 0 rfl rfl rfl ?_
  refine V_iload_n 1 1 rfl rfl rfl ?_
  refine V_if_eq 2 (tgt := 9) rfl (by decide) (fun hc => ?_) (fun hc => ?_)
  · replace h := h.1 hc
    refine V_iload_n 5 2 rfl rfl rfl ?_
    refine V_if_eq 6 (tgt := 17) rfl (by decide) (fun hc => ?_) (fun hc => ?_)
    · replace h := h.1 hc
      refine V_iload_n 9 3 rfl rfl rfl ?_
      refine V_if_eq 10 (tgt := 25) rfl (by decide) (fun hc => ?_) (fun hc => ?_)
      · replace h := h.1 hc
        refine V_iconst 13 (v := (0 : Int32)) rfl (by decide) ?_
        refine V_sub [0] (lv' := [(0, .ref 92)]) rfl ?_
        exact k_j26 (0 : Int32) σ hW h
      · replace h := h.2 hc
        refine V_pc 21 rfl ?_
        refine V_iconst 11 (v := (3 : Int32)) rfl (by decide) ?_
        refine V_goto 12 (tgt := 26) rfl (by decide) ?_
        refine V_sub [0] (lv' := [(0, .ref 92)]) rfl ?_
        exact k_j26 (3 : Int32) σ hW h
    · replace h := h.2 hc
      refine V_pc 13 rfl ?_
      refine V_iconst 7 (v := (2 : Int32)) rfl (by decide) ?_
      refine V_goto 8 (tgt := 26) rfl (by decide) ?_
      refine V_sub [0] (lv' := [(0, .ref 92)]) rfl ?_
      exact k_j26 (2 : Int32) σ hW h
  · replace h := h.2 hc
    refine V_pc 5 rfl ?_
    refine V_iconst 3 (v := (1 : Int32)) rfl (by decide) ?_
    refine V_goto 4 (tgt := 26) rfl (by decide) ?_
    refine V_sub [0] (lv' := [(0, .ref 92)]) rfl ?_
    exact k_j26 (1 : Int32) σ hW h

def wX12_in (a0 : Int32) (a1 : Int32) (a2 : Int32) (Q : Int32 → ab_S → Prop) (E : String → ab_S → Prop) (σ : ab_S) : Prop := ((a0 < a1) → Q (0 : Int32) σ) ∧ (¬ (a0 < a1) → ((a2 < a0) → Q (0 : Int32) σ) ∧ (¬ (a2 < a0) → Q (1 : Int32) σ))
set_option maxHeartbeats 4000000 in
set_option maxRecDepth 100000 in
theorem ceX12_in {l : Launch} (hl : l.stackTraces = false) (B : Nat) {a0 : Int32} {a1 : Int32} {a2 : Int32}  {Q : Int32 → ab_S → Prop} {E : String → ab_S → Prop} {σ : ab_S} (hW : Wire σ) (h : wX12_in a0 a1 a2 Q E σ) : ab_Mt l yX12_in mdX12_in B 0 0 0 0 [.int a0, .int a1, .int a2] σ (fun v σ' => Wire σ' ∧ ∃ r : Int32, v = some (.int r) ∧ Q r σ') (fun X σ' => Wire σ' ∧ E X σ') := by
  refine V_met hl ⟨rfl, rfl, by decide⟩ rfl dkX12_in (Nat.le_of_ble_eq_true rfl) ?_
  show V l mdX12_in B 0 0 0 0 (ab_End _ _) 0 [(0, .int a0), (1, .int a1), (2, .int a2)] [] σ
  refine V_iload_n 0 0 rfl rfl rfl ?_
  refine V_iload_n 1 1 rfl rfl rfl ?_
  refine V_icmp_lt 2 (tgt := 14) rfl (by decide) (fun hc => ?_) (fun hc => ?_)
  · replace h := h.1 hc
    refine V_iconst 8 (v := (0 : Int32)) rfl (by decide) ?_
    exact V_zret 9 rfl rfl rfl ⟨hW, _, rfl, h⟩
  · replace h := h.2 hc
    refine V_pc 5 rfl ?_
    refine V_iload_n 3 0 rfl rfl rfl ?_
    refine V_iload_n 4 2 rfl rfl rfl ?_
    refine V_icmp_gt 5 (tgt := 14) rfl (by decide) (fun hc => ?_) (fun hc => ?_)
    · replace h := h.1 hc
      refine V_iconst 8 (v := (0 : Int32)) rfl (by decide) ?_
      exact V_zret 9 rfl rfl rfl ⟨hW, _, rfl, h⟩
    · replace h := h.2 hc
      refine V_pc 10 rfl ?_
      refine V_iconst 6 (v := (1 : Int32)) rfl (by decide) ?_
      refine V_goto 7 (tgt := 15) rfl (by decide) ?_
      exact V_zret 9 rfl rfl rfl ⟨hW, _, rfl, h⟩

def wX12_put_j169 (a0 : Int32) (Q : Int32 → ab_S → Prop) (E : String → ab_S → Prop)  (σ : ab_S) : Prop := Q (σ.2.1 92 2) σ
def wX12_put_j163 (a0 : Int32) (Q : Int32 → ab_S → Prop) (E : String → ab_S → Prop) (K169 : ab_S → Prop) (Bk : Int32 → ab_S → Prop) (x4 : Int32) (σ : ab_S) : Prop := ∀ v1 : Int32, v1 = (x4 + 1) → Bk v1 σ
def wX12_put_l118_b (a0 : Int32) (Q : Int32 → ab_S → Prop) (E : String → ab_S → Prop) (K169 : ab_S → Prop) (Bk : Int32 → ab_S → Prop) (x4 : Int32) (σ : ab_S) : Prop := (((4 : Int32) ≤ x4) → K169 σ) ∧ (¬ ((4 : Int32) ≤ x4) → ∀ v2 : Int32, v2 = ((a0 >>> (((8 : Int32) * x4) &&& 31)) &&& (255 : Int32)) → ((v2 ≤ 0) → wX12_put_j163 a0 Q E K169 Bk x4 σ) ∧ (¬ (v2 ≤ 0) → vp_in (σ.2.1 92 2) 2400 ∧ (∀ σ3 : ab_S, σ3 = ab_I σ 93 (σ.2.1 92 2).toNatClampNeg v2 → (∀ σ4 : ab_S, σ4 = ab_I σ3 92 2 ((σ3.2.1 92 2) + (1 : Int32)) → wX12_put_j163 a0 Q E K169 Bk x4 σ4))))
def wX12_put_l118 (a0 : Int32) (Q : Int32 → ab_S → Prop) (E : String → ab_S → Prop) (K169 : ab_S → Prop) : Nat → Int32 → ab_S → Prop
  | 0, _, _ => False
  | n + 1, x4, σ => wX12_put_l118_b a0 Q E K169 (wX12_put_l118 a0 Q E K169 n) x4 σ
def wX12_put_j106 (a0 : Int32) (Q : Int32 → ab_S → Prop) (E : String → ab_S → Prop) (y0 : Int32) (y1 : Int32) (σ : ab_S) : Prop := wX12_refuse y1 y0 (0 : Int32) (fun u6 σ5 => ((u6 = 0) → ∃ n, wX12_put_l118 a0 Q E (wX12_put_j169 a0 Q E) n (0 : Int32) σ5) ∧ (¬ (u6 = 0) → Q (0 : Int32) σ5)) E σ
def wX12_put_j89 (a0 : Int32) (Q : Int32 → ab_S → Prop) (E : String → ab_S → Prop) (x2 : Int32) (y0 : Int32) (σ : ab_S) : Prop := ((((σ.2.1 92 2) + x2) ≤ (2400 : Int32)) → wX12_put_j106 a0 Q E (0 : Int32) y0 σ) ∧ (¬ (((σ.2.1 92 2) + x2) ≤ (2400 : Int32)) → wX12_put_j106 a0 Q E (1 : Int32) y0 σ)
def wX12_put_j79 (a0 : Int32) (Q : Int32 → ab_S → Prop) (E : String → ab_S → Prop) (x2 : Int32) (x3 : Int32) (σ : ab_S) : Prop := ((¬ x3 = 0) → wX12_put_j89 a0 Q E x2 (0 : Int32) σ) ∧ (¬ (¬ x3 = 0) → wX12_put_j89 a0 Q E x2 (1 : Int32) σ)
def wX12_put_j72 (a0 : Int32) (Q : Int32 → ab_S → Prop) (E : String → ab_S → Prop) (K79 : Int32 → Int32 → ab_S → Prop) (Bk : Int32 → Int32 → Int32 → ab_S → Prop) (x3 : Int32) (x4 : Int32) (y0 : Int32) (σ : ab_S) : Prop := ∀ v7 : Int32, v7 = (x4 + 1) → Bk y0 x3 v7 σ
def wX12_put_j59 (a0 : Int32) (Q : Int32 → ab_S → Prop) (E : String → ab_S → Prop) (K79 : Int32 → Int32 → ab_S → Prop) (Bk : Int32 → Int32 → Int32 → ab_S → Prop) (x2 : Int32) (x4 : Int32) (x5 : Int32) (y0 : Int32) (σ : ab_S) : Prop := ((x5 ≤ 0) → wX12_put_j72 a0 Q E K79 Bk y0 x4 x2 σ) ∧ (¬ (x5 ≤ 0) → wX12_put_j72 a0 Q E K79 Bk y0 x4 (x2 + (1 : Int32)) σ)
def wX12_put_j54 (a0 : Int32) (Q : Int32 → ab_S → Prop) (E : String → ab_S → Prop) (K79 : Int32 → Int32 → ab_S → Prop) (Bk : Int32 → Int32 → Int32 → ab_S → Prop) (x2 : Int32) (x4 : Int32) (x5 : Int32) (σ : ab_S) : Prop := wX12_put_j59 a0 Q E K79 Bk x2 x4 x5 (1 : Int32) σ
def wX12_put_j58 (a0 : Int32) (Q : Int32 → ab_S → Prop) (E : String → ab_S → Prop) (K79 : Int32 → Int32 → ab_S → Prop) (Bk : Int32 → Int32 → Int32 → ab_S → Prop) (x2 : Int32) (x4 : Int32) (x5 : Int32) (σ : ab_S) : Prop := wX12_put_j59 a0 Q E K79 Bk x2 x4 x5 (0 : Int32) σ
def wX12_put_l7_b (a0 : Int32) (Q : Int32 → ab_S → Prop) (E : String → ab_S → Prop) (K79 : Int32 → Int32 → ab_S → Prop) (Bk : Int32 → Int32 → Int32 → ab_S → Prop) (x2 : Int32) (x3 : Int32) (x4 : Int32) (σ : ab_S) : Prop := (((4 : Int32) ≤ x4) → K79 x2 x3 σ) ∧ (¬ ((4 : Int32) ≤ x4) → ∀ v8 : Int32, v8 = ((a0 >>> (((8 : Int32) * x4) &&& 31)) &&& (255 : Int32)) → ((x3 = 0) → wX12_put_j58 a0 Q E K79 Bk x2 x4 v8 σ) ∧ (¬ (x3 = 0) → ((v8 = 0) → wX12_put_j54 a0 Q E K79 Bk x2 x4 v8 σ) ∧ (¬ (v8 = 0) → ((v8 = (10 : Int32)) → wX12_put_j54 a0 Q E K79 Bk x2 x4 v8 σ) ∧ (¬ (v8 = (10 : Int32)) → wX12_in v8 (32 : Int32) (126 : Int32) (fun u10 σ9 => ((u10 = 0) → wX12_put_j58 a0 Q E K79 Bk x2 x4 v8 σ9) ∧ (¬ (u10 = 0) → wX12_put_j54 a0 Q E K79 Bk x2 x4 v8 σ9)) E σ))))
def wX12_put_l7 (a0 : Int32) (Q : Int32 → ab_S → Prop) (E : String → ab_S → Prop) (K79 : Int32 → Int32 → ab_S → Prop) : Nat → Int32 → Int32 → Int32 → ab_S → Prop
  | 0, _, _, _, _ => False
  | n + 1, x2, x3, x4, σ => wX12_put_l7_b a0 Q E K79 (wX12_put_l7 a0 Q E K79 n) x2 x3 x4 σ
def wX12_put (a0 : Int32) (Q : Int32 → ab_S → Prop) (E : String → ab_S → Prop) (σ : ab_S) : Prop := ∃ n, wX12_put_l7 a0 Q E (wX12_put_j79 a0 Q E) n (0 : Int32) (1 : Int32) (0 : Int32) σ
set_option maxHeartbeats 4000000 in
set_option maxRecDepth 100000 in
theorem ceX12_put {l : Launch} (hl : l.stackTraces = false) (B : Nat) {a0 : Int32}  {Q : Int32 → ab_S → Prop} {E : String → ab_S → Prop} {σ : ab_S} (hW : Wire σ) (h : wX12_put a0 Q E σ) : ab_Mt l yX12_put mdX12_put B 1 23 0 0 [.ref 92, .int a0] σ (fun v σ' => Wire σ' ∧ ∃ r : Int32, v = some (.int r) ∧ Q r σ') (fun X σ' => Wire σ' ∧ E X σ') := by
  refine V_met hl ⟨rfl, rfl, by decide⟩ rfl dkX12_put (Nat.le_of_ble_eq_true rfl) ?_
  show V l mdX12_put B 1 23 0 0 (ab_End _ _) 0 [(0, .ref 92), (1, .int a0)] [] σ
  revert h hW
  revert σ
  have k_j169 : ∀   (σ : ab_S), Wire σ → wX12_put_j169 a0 Q E  σ → V l mdX12_put B 1 23 0 0 (ab_End (fun v σ' => Wire σ' ∧ ∃ r : Int32, v = some (.int r) ∧ Q r σ') (fun X σ' => Wire σ' ∧ E X σ')) 169 [(0, .ref 92)] [] σ := by
    intro   σ hW h
    refine V_aload_n 92 0 rfl rfl rfl ?_
    refine V_get (v := .int (σ.2.1 92 2)) 93 2 rfl clX12 flX12_242 (by decide) (wsh hW rfl) (fun _ => rfl) ?_
    exact V_iret 94 rfl rfl ⟨hW, _, rfl, h⟩
  have k_l118 : ∀ (n : Nat) (x4 : Int32)  (σ : ab_S), Wire σ → wX12_put_l118 a0 Q E (wX12_put_j169 a0 Q E) n x4 σ → V l mdX12_put B 1 23 0 0 (ab_End (fun v σ' => Wire σ' ∧ ∃ r : Int32, v = some (.int r) ∧ Q r σ') (fun X σ' => Wire σ' ∧ E X σ')) 118 [(0, .ref 92), (1, .int a0), (4, .int x4)] [] σ := by
    have step : ∀ (K169 : ab_S → Prop) (k_K169 : ∀   (σ : ab_S), Wire σ → K169  σ → V l mdX12_put B 1 23 0 0 (ab_End (fun v σ' => Wire σ' ∧ ∃ r : Int32, v = some (.int r) ∧ Q r σ') (fun X σ' => Wire σ' ∧ E X σ')) 169 [(0, .ref 92)] [] σ), ∀ (Bk : Int32 → ab_S → Prop) (k_Bk : ∀ (x4 : Int32)  (σ : ab_S), Wire σ → Bk x4 σ → V l mdX12_put B 1 23 0 0 (ab_End (fun v σ' => Wire σ' ∧ ∃ r : Int32, v = some (.int r) ∧ Q r σ') (fun X σ' => Wire σ' ∧ E X σ')) 118 [(0, .ref 92), (1, .int a0), (4, .int x4)] [] σ), ∀ (x4 : Int32)  (σ : ab_S), Wire σ → wX12_put_l118_b a0 Q E K169 Bk x4 σ → V l mdX12_put B 1 23 0 0 (ab_End (fun v σ' => Wire σ' ∧ ∃ r : Int32, v = some (.int r) ∧ Q r σ') (fun X σ' => Wire σ' ∧ E X σ')) 118 [(0, .ref 92), (1, .int a0), (4, .int x4)] [] σ := by
      intro K169 k_K169 Bk k_Bk
      have k_j163 : ∀ (x4 : Int32)  (σ : ab_S), Wire σ → wX12_put_j163 a0 Q E K169 Bk x4 σ → V l mdX12_put B 1 23 0 0 (ab_End (fun v σ' => Wire σ' ∧ ∃ r : Int32, v = some (.int r) ∧ Q r σ') (fun X σ' => Wire σ' ∧ E X σ')) 163 [(0, .ref 92), (1, .int a0), (4, .int x4)] [] σ := by
        intro x4  σ hW h
        obtain ⟨v1, ev1⟩ : ∃ z : Int32, z = (x4 + 1) := ⟨_, rfl⟩
        replace h := h v1 ev1
        refine V_iinc 90 2 (v := v1) (lv' := [(4, .int v1), (0, .ref 92), (1, .int a0)]) rfl rfl ((in_1 _).trans ev1.symm) (by decide) rfl ?_
        refine V_goto 91 (tgt := 118) rfl (by decide) ?_
        refine V_sub [1, 2, 0] (lv' := [(0, .ref 92), (1, .int a0), (4, .int v1)]) rfl ?_
        exact k_Bk v1  σ hW h
      intro x4  σ hW h
      refine V_iload 65 2 rfl rfl ?_
      refine V_iconst 66 (v := (4 : Int32)) rfl (by decide) ?_
      refine V_icmp_ge 67 (tgt := 169) rfl (by decide) (fun hc => ?_) (fun hc => ?_)
      · replace h := h.1 hc
        refine V_sub [0] (lv' := [(0, .ref 92)]) rfl ?_
        exact k_K169  σ hW h
      · replace h := h.2 hc
        refine V_pc 124 rfl ?_
        refine V_iload_n 68 1 rfl rfl rfl ?_
        refine V_bipush 69 (v := (8 : Int32)) rfl (by decide) ?_
        refine V_iload 70 2 rfl rfl ?_
        refine V_imul 71 rfl ?_
        refine V_ishr 72 rfl ?_
        refine V_sipush 73 (v := (255 : Int32)) rfl (by decide) ?_
        refine V_pc 134 rfl ?_
        refine V_iand 74 rfl ?_
        refine V_topi (fun v2 ev2 => ?_)
        replace h := h v2 ev2
        refine V_istore 75 (lv' := [(5, .int v2), (0, .ref 92), (1, .int a0), (4, .int x4)]) rfl (by decide) rfl ?_
        refine V_iload 76 0 rfl rfl ?_
        refine V_if_le 77 (tgt := 163) rfl (by decide) (fun hc => ?_) (fun hc => ?_)
        · replace h := h.1 hc
          refine V_sub [1, 2, 3] (lv' := [(0, .ref 92), (1, .int a0), (4, .int x4)]) rfl ?_
          exact k_j163 x4 σ hW h
        · replace h := h.2 hc
          refine V_pc 142 rfl ?_
          refine V_aload_n 78 1 rfl rfl rfl ?_
          refine V_getR 79 1 rfl clX12 flX12_7 (by decide) (wsh hW rfl) (fun _ => rfl) (wrf hW 94 rfl) ?_
          refine V_aload_n 80 1 rfl rfl rfl ?_
          refine V_get (v := .int (σ.2.1 92 2)) 81 2 rfl clX12 flX12_242 (by decide) (wsh hW rfl) (fun _ => rfl) ?_
          refine V_iload 82 0 rfl rfl ?_
          obtain ⟨hin, h⟩ := h
          refine V_iast 83 rfl (wsh hW rfl) hin ?_
          refine V_nm (fun σ3 eσ3 => ?_)
          replace h := h σ3 eσ3
          have hW := wire_I eσ3 hW
          refine V_pc 153 rfl ?_
          refine V_aload_n 84 1 rfl rfl rfl ?_
          refine V_dup 85 rfl rfl ?_
          refine V_get (v := .int (σ3.2.1 92 2)) 86 2 rfl clX12 flX12_242 (by decide) (wsh hW rfl) (fun _ => rfl) ?_
          refine V_iconst 87 (v := (1 : Int32)) rfl (by decide) ?_
          refine V_iadd 88 rfl ?_
          refine V_putI 89 2 rfl clX12 flX12_242 (by decide) (wsh hW rfl) rfl (fun _ _ => rfl) rfl rfl ?_
          refine V_nm (fun σ4 eσ4 => ?_)
          replace h := h σ4 eσ4
          have hW := wire_I eσ4 hW
          refine V_sub [1, 2, 3] (lv' := [(0, .ref 92), (1, .int a0), (4, .int x4)]) rfl ?_
          exact k_j163 x4 σ4 hW h
    intro n
    induction n with
    | zero => intro x4  σ hW h; exact absurd h id
    | succ n ih => exact step _ k_j169 _ ih
  have k_j106 : ∀ (y0 : Int32) (y1 : Int32)  (σ : ab_S), Wire σ → wX12_put_j106 a0 Q E y0 y1 σ → V l mdX12_put B 1 23 0 0 (ab_End (fun v σ' => Wire σ' ∧ ∃ r : Int32, v = some (.int r) ∧ Q r σ') (fun X σ' => Wire σ' ∧ E X σ')) 106 [(0, .ref 92), (1, .int a0)] [.int y0, .int y1, .ref 92] σ := by
    intro y0 y1  σ hW h
    refine V_iconst 58 (v := (0 : Int32)) rfl (by decide) ?_
    refine V_callV 59 3 (as := [.int y1, .int y0, .int (0 : Int32)]) (rest := []) rfl mlX12_245 yvX12_refuse rfl rfl clX12 (wsh hW rfl) (by decide) (by decide) (Nat.le_of_ble_eq_true rfl) (by decide) (by decide) (fun B9 => ceX12_refuse hl B9 hW h) (fun X9 τ9 h9 => VX_out rfl h9) ?_
    rintro v9 σ5 ⟨hW, u6, rfl, h⟩
    refine V_if_eq 60 (tgt := 115) rfl (by decide) (fun hc => ?_) (fun hc => ?_)
    · replace h := h.1 hc
      refine V_iconst 63 (v := (0 : Int32)) rfl (by decide) ?_
      refine V_istore 64 (lv' := [(4, .int (0 : Int32)), (0, .ref 92), (1, .int a0)]) rfl (by decide) rfl ?_
      refine V_sub [1, 2, 0] (lv' := [(0, .ref 92), (1, .int a0), (4, .int (0 : Int32))]) rfl ?_
      obtain ⟨n, h⟩ := h
      exact k_l118 n (0 : Int32) σ5 hW h
    · replace h := h.2 hc
      refine V_pc 113 rfl ?_
      refine V_iconst 61 (v := (0 : Int32)) rfl (by decide) ?_
      exact V_iret 62 rfl rfl ⟨hW, _, rfl, h⟩
  have k_j89 : ∀ (x2 : Int32) (y0 : Int32)  (σ : ab_S), Wire σ → wX12_put_j89 a0 Q E x2 y0 σ → V l mdX12_put B 1 23 0 0 (ab_End (fun v σ' => Wire σ' ∧ ∃ r : Int32, v = some (.int r) ∧ Q r σ') (fun X σ' => Wire σ' ∧ E X σ')) 89 [(0, .ref 92), (1, .int a0), (2, .int x2)] [.int y0, .ref 92] σ := by
    intro x2 y0  σ hW h
    refine V_aload_n 49 0 rfl rfl rfl ?_
    refine V_get (v := .int (σ.2.1 92 2)) 50 2 rfl clX12 flX12_242 (by decide) (wsh hW rfl) (fun _ => rfl) ?_
    refine V_iload_n 51 2 rfl rfl rfl ?_
    refine V_iadd 52 rfl ?_
    refine V_sipush 53 (v := (2400 : Int32)) rfl (by decide) ?_
    refine V_icmp_le 54 (tgt := 105) rfl (by decide) (fun hc => ?_) (fun hc => ?_)
    · replace h := h.1 hc
      refine V_iconst 57 (v := (0 : Int32)) rfl (by decide) ?_
      refine V_sub [0, 1] (lv' := [(0, .ref 92), (1, .int a0)]) rfl ?_
      exact k_j106 (0 : Int32) y0 σ hW h
    · replace h := h.2 hc
      refine V_pc 101 rfl ?_
      refine V_iconst 55 (v := (1 : Int32)) rfl (by decide) ?_
      refine V_goto 56 (tgt := 106) rfl (by decide) ?_
      refine V_sub [0, 1] (lv' := [(0, .ref 92), (1, .int a0)]) rfl ?_
      exact k_j106 (1 : Int32) y0 σ hW h
  have k_j79 : ∀ (x2 : Int32) (x3 : Int32)  (σ : ab_S), Wire σ → wX12_put_j79 a0 Q E x2 x3 σ → V l mdX12_put B 1 23 0 0 (ab_End (fun v σ' => Wire σ' ∧ ∃ r : Int32, v = some (.int r) ∧ Q r σ') (fun X σ' => Wire σ' ∧ E X σ')) 79 [(0, .ref 92), (1, .int a0), (2, .int x2), (3, .int x3)] [] σ := by
    intro x2 x3  σ hW h
    refine V_aload_n 43 0 rfl rfl rfl ?_
    refine V_iload_n 44 3 rfl rfl rfl ?_
    refine V_if_ne 45 (tgt := 88) rfl (by decide) (fun hc => ?_) (fun hc => ?_)
    · replace h := h.1 hc
      refine V_iconst 48 (v := (0 : Int32)) rfl (by decide) ?_
      refine V_sub [0, 1, 2] (lv' := [(0, .ref 92), (1, .int a0), (2, .int x2)]) rfl ?_
      exact k_j89 x2 (0 : Int32) σ hW h
    · replace h := h.2 hc
      refine V_pc 84 rfl ?_
      refine V_iconst 46 (v := (1 : Int32)) rfl (by decide) ?_
      refine V_goto 47 (tgt := 89) rfl (by decide) ?_
      refine V_sub [0, 1, 2] (lv' := [(0, .ref 92), (1, .int a0), (2, .int x2)]) rfl ?_
      exact k_j89 x2 (1 : Int32) σ hW h
  have k_l7 : ∀ (n : Nat) (x2 : Int32) (x3 : Int32) (x4 : Int32)  (σ : ab_S), Wire σ → wX12_put_l7 a0 Q E (wX12_put_j79 a0 Q E) n x2 x3 x4 σ → V l mdX12_put B 1 23 0 0 (ab_End (fun v σ' => Wire σ' ∧ ∃ r : Int32, v = some (.int r) ∧ Q r σ') (fun X σ' => Wire σ' ∧ E X σ')) 7 [(0, .ref 92), (1, .int a0), (2, .int x2), (3, .int x3), (4, .int x4)] [] σ := by
    have step : ∀ (K79 : Int32 → Int32 → ab_S → Prop) (k_K79 : ∀ (x2 : Int32) (x3 : Int32)  (σ : ab_S), Wire σ → K79 x2 x3 σ → V l mdX12_put B 1 23 0 0 (ab_End (fun v σ' => Wire σ' ∧ ∃ r : Int32, v = some (.int r) ∧ Q r σ') (fun X σ' => Wire σ' ∧ E X σ')) 79 [(0, .ref 92), (1, .int a0), (2, .int x2), (3, .int x3)] [] σ), ∀ (Bk : Int32 → Int32 → Int32 → ab_S → Prop) (k_Bk : ∀ (x2 : Int32) (x3 : Int32) (x4 : Int32)  (σ : ab_S), Wire σ → Bk x2 x3 x4 σ → V l mdX12_put B 1 23 0 0 (ab_End (fun v σ' => Wire σ' ∧ ∃ r : Int32, v = some (.int r) ∧ Q r σ') (fun X σ' => Wire σ' ∧ E X σ')) 7 [(0, .ref 92), (1, .int a0), (2, .int x2), (3, .int x3), (4, .int x4)] [] σ), ∀ (x2 : Int32) (x3 : Int32) (x4 : Int32)  (σ : ab_S), Wire σ → wX12_put_l7_b a0 Q E K79 Bk x2 x3 x4 σ → V l mdX12_put B 1 23 0 0 (ab_End (fun v σ' => Wire σ' ∧ ∃ r : Int32, v = some (.int r) ∧ Q r σ') (fun X σ' => Wire σ' ∧ E X σ')) 7 [(0, .ref 92), (1, .int a0), (2, .int x2), (3, .int x3), (4, .int x4)] [] σ := by
      intro K79 k_K79 Bk k_Bk
      have k_j72 : ∀ (x3 : Int32) (x4 : Int32) (y0 : Int32)  (σ : ab_S), Wire σ → wX12_put_j72 a0 Q E K79 Bk x3 x4 y0 σ → V l mdX12_put B 1 23 0 0 (ab_End (fun v σ' => Wire σ' ∧ ∃ r : Int32, v = some (.int r) ∧ Q r σ') (fun X σ' => Wire σ' ∧ E X σ')) 72 [(0, .ref 92), (1, .int a0), (3, .int x3), (4, .int x4)] [.int y0] σ := by
        intro x3 x4 y0  σ hW h
        refine V_istore_n 40 (lv' := [(2, .int y0), (0, .ref 92), (1, .int a0), (3, .int x3), (4, .int x4)]) rfl rfl (by decide) rfl ?_
        obtain ⟨v7, ev7⟩ : ∃ z : Int32, z = (x4 + 1) := ⟨_, rfl⟩
        replace h := h v7 ev7
        refine V_iinc 41 4 (v := v7) (lv' := [(4, .int v7), (2, .int y0), (0, .ref 92), (1, .int a0), (3, .int x3)]) rfl rfl ((in_1 _).trans ev7.symm) (by decide) rfl ?_
        refine V_goto 42 (tgt := 7) rfl (by decide) ?_
        refine V_sub [2, 3, 1, 4, 0] (lv' := [(0, .ref 92), (1, .int a0), (2, .int y0), (3, .int x3), (4, .int v7)]) rfl ?_
        exact k_Bk y0 x3 v7  σ hW h
      have k_j59 : ∀ (x2 : Int32) (x4 : Int32) (x5 : Int32) (y0 : Int32)  (σ : ab_S), Wire σ → wX12_put_j59 a0 Q E K79 Bk x2 x4 x5 y0 σ → V l mdX12_put B 1 23 0 0 (ab_End (fun v σ' => Wire σ' ∧ ∃ r : Int32, v = some (.int r) ∧ Q r σ') (fun X σ' => Wire σ' ∧ E X σ')) 59 [(0, .ref 92), (1, .int a0), (2, .int x2), (4, .int x4), (5, .int x5)] [.int y0] σ := by
        intro x2 x4 x5 y0  σ hW h
        refine V_istore_n 32 (lv' := [(3, .int y0), (0, .ref 92), (1, .int a0), (2, .int x2), (4, .int x4), (5, .int x5)]) rfl rfl (by decide) rfl ?_
        refine V_iload 33 5 rfl rfl ?_
        refine V_if_le 34 (tgt := 71) rfl (by decide) (fun hc => ?_) (fun hc => ?_)
        · replace h := h.1 hc
          refine V_iload_n 39 3 rfl rfl rfl ?_
          refine V_sub [1, 2, 0, 4] (lv' := [(0, .ref 92), (1, .int a0), (3, .int y0), (4, .int x4)]) rfl ?_
          exact k_j72 y0 x4 x2 σ hW h
        · replace h := h.2 hc
          refine V_pc 65 rfl ?_
          refine V_iload_n 35 3 rfl rfl rfl ?_
          refine V_iconst 36 (v := (1 : Int32)) rfl (by decide) ?_
          refine V_iadd 37 rfl ?_
          refine V_goto 38 (tgt := 72) rfl (by decide) ?_
          refine V_sub [1, 2, 0, 4] (lv' := [(0, .ref 92), (1, .int a0), (3, .int y0), (4, .int x4)]) rfl ?_
          exact k_j72 y0 x4 (x2 + (1 : Int32)) σ hW h
      have k_j54 : ∀ (x2 : Int32) (x4 : Int32) (x5 : Int32)  (σ : ab_S), Wire σ → wX12_put_j54 a0 Q E K79 Bk x2 x4 x5 σ → V l mdX12_put B 1 23 0 0 (ab_End (fun v σ' => Wire σ' ∧ ∃ r : Int32, v = some (.int r) ∧ Q r σ') (fun X σ' => Wire σ' ∧ E X σ')) 54 [(0, .ref 92), (1, .int a0), (2, .int x2), (4, .int x4), (5, .int x5)] [] σ := by
        intro x2 x4 x5  σ hW h
        refine V_iconst 29 (v := (1 : Int32)) rfl (by decide) ?_
        refine V_goto 30 (tgt := 59) rfl (by decide) ?_
        exact k_j59 x2 x4 x5 (1 : Int32) σ hW h
      have k_j58 : ∀ (x2 : Int32) (x4 : Int32) (x5 : Int32)  (σ : ab_S), Wire σ → wX12_put_j58 a0 Q E K79 Bk x2 x4 x5 σ → V l mdX12_put B 1 23 0 0 (ab_End (fun v σ' => Wire σ' ∧ ∃ r : Int32, v = some (.int r) ∧ Q r σ') (fun X σ' => Wire σ' ∧ E X σ')) 58 [(0, .ref 92), (1, .int a0), (2, .int x2), (4, .int x4), (5, .int x5)] [] σ := by
        intro x2 x4 x5  σ hW h
        refine V_iconst 31 (v := (0 : Int32)) rfl (by decide) ?_
        exact k_j59 x2 x4 x5 (0 : Int32) σ hW h
      intro x2 x3 x4  σ hW h
      refine V_iload 6 4 rfl rfl ?_
      refine V_iconst 7 (v := (4 : Int32)) rfl (by decide) ?_
      refine V_icmp_ge 8 (tgt := 79) rfl (by decide) (fun hc => ?_) (fun hc => ?_)
      · replace h := h.1 hc
        refine V_sub [0, 1, 2, 3] (lv' := [(0, .ref 92), (1, .int a0), (2, .int x2), (3, .int x3)]) rfl ?_
        exact k_K79 x2 x3  σ hW h
      · replace h := h.2 hc
        refine V_pc 13 rfl ?_
        refine V_iload_n 9 1 rfl rfl rfl ?_
        refine V_bipush 10 (v := (8 : Int32)) rfl (by decide) ?_
        refine V_iload 11 4 rfl rfl ?_
        refine V_imul 12 rfl ?_
        refine V_ishr 13 rfl ?_
        refine V_sipush 14 (v := (255 : Int32)) rfl (by decide) ?_
        refine V_pc 23 rfl ?_
        refine V_iand 15 rfl ?_
        refine V_topi (fun v8 ev8 => ?_)
        replace h := h v8 ev8
        refine V_istore 16 (lv' := [(5, .int v8), (0, .ref 92), (1, .int a0), (2, .int x2), (3, .int x3), (4, .int x4)]) rfl (by decide) rfl ?_
        refine V_iload_n 17 4 rfl rfl rfl ?_
        refine V_if_eq 18 (tgt := 58) rfl (by decide) (fun hc => ?_) (fun hc => ?_)
        · replace h := h.1 hc
          refine V_sub [1, 2, 3, 5, 0] (lv' := [(0, .ref 92), (1, .int a0), (2, .int x2), (4, .int x4), (5, .int v8)]) rfl ?_
          exact k_j58 x2 x4 v8 σ hW h
        · replace h := h.2 hc
          refine V_pc 30 rfl ?_
          refine V_iload 19 0 rfl rfl ?_
          refine V_if_eq 20 (tgt := 54) rfl (by decide) (fun hc => ?_) (fun hc => ?_)
          · replace h := h.1 hc
            refine V_sub [1, 2, 3, 5, 0] (lv' := [(0, .ref 92), (1, .int a0), (2, .int x2), (4, .int x4), (5, .int v8)]) rfl ?_
            exact k_j54 x2 x4 v8 σ hW h
          · replace h := h.2 hc
            refine V_pc 35 rfl ?_
            refine V_iload 21 0 rfl rfl ?_
            refine V_bipush 22 (v := (10 : Int32)) rfl (by decide) ?_
            refine V_icmp_eq 23 (tgt := 54) rfl (by decide) (fun hc => ?_) (fun hc => ?_)
            · replace h := h.1 hc
              refine V_sub [1, 2, 3, 5, 0] (lv' := [(0, .ref 92), (1, .int a0), (2, .int x2), (4, .int x4), (5, .int v8)]) rfl ?_
              exact k_j54 x2 x4 v8 σ hW h
            · replace h := h.2 hc
              refine V_pc 42 rfl ?_
              refine V_iload 24 0 rfl rfl ?_
              refine V_bipush 25 (v := (32 : Int32)) rfl (by decide) ?_
              refine V_bipush 26 (v := (126 : Int32)) rfl (by decide) ?_
              refine V_callS 27 3 (as := [.int v8, .int (32 : Int32), .int (126 : Int32)]) (rest := []) rfl mlX12_238 yvX12_in rfl rfl (by decide) (by decide) (Nat.le_of_ble_eq_true rfl) (by decide) (by decide) (fun B9 => ceX12_in hl B9 hW h) (fun X9 τ9 h9 => VX_out rfl h9) ?_
              rintro v9 σ9 ⟨hW, u10, rfl, h⟩
              refine V_if_eq 28 (tgt := 58) rfl (by decide) (fun hc => ?_) (fun hc => ?_)
              · replace h := h.1 hc
                refine V_sub [1, 2, 3, 5, 0] (lv' := [(0, .ref 92), (1, .int a0), (2, .int x2), (4, .int x4), (5, .int v8)]) rfl ?_
                exact k_j58 x2 x4 v8 σ9 hW h
              · replace h := h.2 hc
                refine V_pc 54 rfl ?_
                refine V_sub [1, 2, 3, 5, 0] (lv' := [(0, .ref 92), (1, .int a0), (2, .int x2), (4, .int x4), (5, .int v8)]) rfl ?_
                exact k_j54 x2 x4 v8 σ9 hW h
    intro n
    induction n with
    | zero => intro x2 x3 x4  σ hW h; exact absurd h id
    | succ n ih => exact step _ k_j79 _ ih
  intro σ hW h
  refine V_iconst 0 (v := (0 : Int32)) rfl (by decide) ?_
  refine V_istore_n 1 (lv' := [(2, .int (0 : Int32)), (0, .ref 92), (1, .int a0)]) rfl rfl (by decide) rfl ?_
  refine V_iconst 2 (v := (1 : Int32)) rfl (by decide) ?_
  refine V_istore_n 3 (lv' := [(3, .int (1 : Int32)), (2, .int (0 : Int32)), (0, .ref 92), (1, .int a0)]) rfl rfl (by decide) rfl ?_
  refine V_iconst 4 (v := (0 : Int32)) rfl (by decide) ?_
  refine V_istore 5 (lv' := [(4, .int (0 : Int32)), (3, .int (1 : Int32)), (2, .int (0 : Int32)), (0, .ref 92), (1, .int a0)]) rfl (by decide) rfl ?_
  refine V_sub [3, 4, 2, 1, 0] (lv' := [(0, .ref 92), (1, .int a0), (2, .int (0 : Int32)), (3, .int (1 : Int32)), (4, .int (0 : Int32))]) rfl ?_
  obtain ⟨n, h⟩ := h
  exact k_l7 n (0 : Int32) (1 : Int32) (0 : Int32) σ hW h

def wX12_end_j18 (a0 : Int32) (Q : ab_S → Prop) (E : String → ab_S → Prop) (y0 : Int32) (σ : ab_S) : Prop := wX12_refuse y0 (0 : Int32) (0 : Int32) (fun u2 σ1 => ((¬ u2 = 0) → Q σ1) ∧ (¬ (¬ u2 = 0) → (∀ σ3 : ab_S, σ3 = ab_I σ1 92 2 a0 → Q σ3))) E σ
def wX12_end (a0 : Int32) (Q : ab_S → Prop) (E : String → ab_S → Prop) (σ : ab_S) : Prop := wX12_in a0 (0 : Int32) (σ.2.1 92 2) (fun u5 σ4 => ((¬ u5 = 0) → wX12_end_j18 a0 Q E (0 : Int32) σ4) ∧ (¬ (¬ u5 = 0) → wX12_end_j18 a0 Q E (1 : Int32) σ4)) E σ
set_option maxHeartbeats 4000000 in
set_option maxRecDepth 100000 in
theorem ceX12_end {l : Launch} (hl : l.stackTraces = false) (B : Nat) {a0 : Int32}  {Q : ab_S → Prop} {E : String → ab_S → Prop} {σ : ab_S} (hW : Wire σ) (h : wX12_end a0 Q E σ) : ab_Mt l yX12_end mdX12_end B 1 23 0 0 [.ref 92, .int a0] σ (fun v σ' => Wire σ' ∧ v = none ∧ Q σ') (fun X σ' => Wire σ' ∧ E X σ') := by
  refine V_met hl ⟨rfl, rfl, by decide⟩ rfl dkX12_end (Nat.le_of_ble_eq_true rfl) ?_
  show V l mdX12_end B 1 23 0 0 (ab_End _ _) 0 [(0, .ref 92), (1, .int a0)] [] σ
  revert h hW
  revert σ
  have k_j18 : ∀ (y0 : Int32)  (σ : ab_S), Wire σ → wX12_end_j18 a0 Q E y0 σ → V l mdX12_end B 1 23 0 0 (ab_End (fun v σ' => Wire σ' ∧ v = none ∧ Q σ') (fun X σ' => Wire σ' ∧ E X σ')) 18 [(0, .ref 92), (1, .int a0)] [.int y0, .ref 92] σ := by
    intro y0  σ hW h
    refine V_iconst 10 (v := (0 : Int32)) rfl (by decide) ?_
    refine V_iconst 11 (v := (0 : Int32)) rfl (by decide) ?_
    refine V_callV 12 3 (as := [.int y0, .int (0 : Int32), .int (0 : Int32)]) (rest := []) rfl mlX12_245 yvX12_refuse rfl rfl clX12 (wsh hW rfl) (by decide) (by decide) (Nat.le_of_ble_eq_true rfl) (by decide) (by decide) (fun B9 => ceX12_refuse hl B9 hW h) (fun X9 τ9 h9 => VX_out rfl h9) ?_
    rintro v9 σ1 ⟨hW, u2, rfl, h⟩
    refine V_if_ne 13 (tgt := 31) rfl (by decide) (fun hc => ?_) (fun hc => ?_)
    · replace h := h.1 hc
      exact V_vret 17 rfl rfl ⟨hW, rfl, h⟩
    · replace h := h.2 hc
      refine V_pc 26 rfl ?_
      refine V_aload_n 14 0 rfl rfl rfl ?_
      refine V_iload_n 15 1 rfl rfl rfl ?_
      refine V_putI 16 2 rfl clX12 flX12_242 (by decide) (wsh hW rfl) rfl (fun _ _ => rfl) rfl rfl ?_
      refine V_nm (fun σ3 eσ3 => ?_)
      replace h := h σ3 eσ3
      have hW := wire_I eσ3 hW
      exact V_vret 17 rfl rfl ⟨hW, rfl, h⟩
  intro σ hW h
  refine V_aload_n 0 0 rfl rfl rfl ?_
  refine V_iload_n 1 1 rfl rfl rfl ?_
  refine V_iconst 2 (v := (0 : Int32)) rfl (by decide) ?_
  refine V_aload_n 3 0 rfl rfl rfl ?_
  refine V_get (v := .int (σ.2.1 92 2)) 4 2 rfl clX12 flX12_242 (by decide) (wsh hW rfl) (fun _ => rfl) ?_
  refine V_callS 5 3 (as := [.int a0, .int (0 : Int32), .int (σ.2.1 92 2)]) (rest := [.ref 92]) rfl mlX12_238 yvX12_in rfl rfl (by decide) (by decide) (Nat.le_of_ble_eq_true rfl) (by decide) (by decide) (fun B9 => ceX12_in hl B9 hW h) (fun X9 τ9 h9 => VX_out rfl h9) ?_
  rintro v9 σ4 ⟨hW, u5, rfl, h⟩
  refine V_if_ne 6 (tgt := 17) rfl (by decide) (fun hc => ?_) (fun hc => ?_)
  · replace h := h.1 hc
    refine V_iconst 9 (v := (0 : Int32)) rfl (by decide) ?_
    exact k_j18 (0 : Int32) σ4 hW h
  · replace h := h.2 hc
    refine V_pc 13 rfl ?_
    refine V_iconst 7 (v := (1 : Int32)) rfl (by decide) ?_
    refine V_goto 8 (tgt := 18) rfl (by decide) ?_
    exact k_j18 (1 : Int32) σ4 hW h

def wX12_signAt (a0 : Int32) (Q : Int32 → ab_S → Prop) (E : String → ab_S → Prop) (σ : ab_S) : Prop := (((σ.2.1 92 8) ≤ a0) → Q (0 : Int32) σ) ∧ (¬ ((σ.2.1 92 8) ≤ a0) → vp_in a0 2400 ∧ (Q (σ.2.1 96 a0.toNatClampNeg) σ))
set_option maxHeartbeats 4000000 in
set_option maxRecDepth 100000 in
theorem ceX12_signAt {l : Launch} (hl : l.stackTraces = false) (B : Nat) {a0 : Int32}  {Q : Int32 → ab_S → Prop} {E : String → ab_S → Prop} {σ : ab_S} (hW : Wire σ) (h : wX12_signAt a0 Q E σ) : ab_Mt l yX12_signAt mdX12_signAt B 0 0 0 0 [.ref 92, .int a0] σ (fun v σ' => Wire σ' ∧ ∃ r : Int32, v = some (.int r) ∧ Q r σ') (fun X σ' => Wire σ' ∧ E X σ') := by
  refine V_met hl ⟨rfl, rfl, by decide⟩ rfl dkX12_signAt (Nat.le_of_ble_eq_true rfl) ?_
  show V l mdX12_signAt B 0 0 0 0 (ab_End _ _) 0 [(0, .ref 92), (1, .int a0)] [] σ
  refine V_iload_n 0 1 rfl rfl rfl ?_
  refine V_aload_n 1 0 rfl rfl rfl ?_
  refine V_get (v := .int (σ.2.1 92 8)) 2 8 rfl clX12 flX12_249 (by decide) (wsh hW rfl) (fun _ => rfl) ?_
  refine V_icmp_ge 3 (tgt := 17) rfl (by decide) (fun hc => ?_) (fun hc => ?_)
  · replace h := h.1 hc
    refine V_iconst 9 (v := (0 : Int32)) rfl (by decide) ?_
    exact V_iret 10 rfl rfl ⟨hW, _, rfl, h⟩
  · replace h := h.2 hc
    refine V_pc 8 rfl ?_
    refine V_aload_n 4 0 rfl rfl rfl ?_
    refine V_getR 5 7 rfl clX12 flX12_20 (by decide) (wsh hW rfl) (fun _ => rfl) (wrf hW 97 rfl) ?_
    refine V_iload_n 6 1 rfl rfl rfl ?_
    obtain ⟨hin, h⟩ := h
    refine V_iald 7 rfl (wsh hW rfl) hin ?_
    refine V_goto 8 (tgt := 18) rfl (by decide) ?_
    exact V_iret 10 rfl rfl ⟨hW, _, rfl, h⟩

def wX12_isSmall (a0 : Int32) (Q : Int32 → ab_S → Prop) (E : String → ab_S → Prop) (σ : ab_S) : Prop := wX12_in a0 (97 : Int32) (122 : Int32) (fun u2 σ1 => (u2 = 0 ∨ u2 = 1) ∧ Q u2 σ1) E σ
set_option maxHeartbeats 4000000 in
set_option maxRecDepth 100000 in
theorem ceX12_isSmall {l : Launch} (hl : l.stackTraces = false) (B : Nat) {a0 : Int32}  {Q : Int32 → ab_S → Prop} {E : String → ab_S → Prop} {σ : ab_S} (hW : Wire σ) (h : wX12_isSmall a0 Q E σ) : ab_Mt l yX12_isSmall mdX12_isSmall B 1 22 0 0 [.int a0] σ (fun v σ' => Wire σ' ∧ ∃ r : Int32, v = some (.int r) ∧ Q r σ') (fun X σ' => Wire σ' ∧ E X σ') := by
  refine V_met hl ⟨rfl, rfl, by decide⟩ rfl dkX12_isSmall (Nat.le_of_ble_eq_true rfl) ?_
  show V l mdX12_isSmall B 1 22 0 0 (ab_End _ _) 0 [(0, .int a0)] [] σ
  refine V_iload_n 0 0 rfl rfl rfl ?_
  refine V_bipush 1 (v := (97 : Int32)) rfl (by decide) ?_
  refine V_bipush 2 (v := (122 : Int32)) rfl (by decide) ?_
  refine V_callS 3 3 (as := [.int a0, .int (97 : Int32), .int (122 : Int32)]) (rest := []) rfl mlX12_238 yvX12_in rfl rfl (by decide) (by decide) (Nat.le_of_ble_eq_true rfl) (by decide) (by decide) (fun B9 => ceX12_in hl B9 hW h) (fun X9 τ9 h9 => VX_out rfl h9) ?_
  rintro v9 σ1 ⟨hW, u2, rfl, h⟩
  exact V_zret 4 rfl rfl (nb1 h.1) ⟨hW, _, rfl, h.2⟩

def wX12_isDigit (a0 : Int32) (Q : Int32 → ab_S → Prop) (E : String → ab_S → Prop) (σ : ab_S) : Prop := wX12_in a0 (48 : Int32) (57 : Int32) (fun u2 σ1 => (u2 = 0 ∨ u2 = 1) ∧ Q u2 σ1) E σ
set_option maxHeartbeats 4000000 in
set_option maxRecDepth 100000 in
theorem ceX12_isDigit {l : Launch} (hl : l.stackTraces = false) (B : Nat) {a0 : Int32}  {Q : Int32 → ab_S → Prop} {E : String → ab_S → Prop} {σ : ab_S} (hW : Wire σ) (h : wX12_isDigit a0 Q E σ) : ab_Mt l yX12_isDigit mdX12_isDigit B 1 22 0 0 [.int a0] σ (fun v σ' => Wire σ' ∧ ∃ r : Int32, v = some (.int r) ∧ Q r σ') (fun X σ' => Wire σ' ∧ E X σ') := by
  refine V_met hl ⟨rfl, rfl, by decide⟩ rfl dkX12_isDigit (Nat.le_of_ble_eq_true rfl) ?_
  show V l mdX12_isDigit B 1 22 0 0 (ab_End _ _) 0 [(0, .int a0)] [] σ
  refine V_iload_n 0 0 rfl rfl rfl ?_
  refine V_bipush 1 (v := (48 : Int32)) rfl (by decide) ?_
  refine V_bipush 2 (v := (57 : Int32)) rfl (by decide) ?_
  refine V_callS 3 3 (as := [.int a0, .int (48 : Int32), .int (57 : Int32)]) (rest := []) rfl mlX12_238 yvX12_in rfl rfl (by decide) (by decide) (Nat.le_of_ble_eq_true rfl) (by decide) (by decide) (fun B9 => ceX12_in hl B9 hW h) (fun X9 τ9 h9 => VX_out rfl h9) ?_
  rintro v9 σ1 ⟨hW, u2, rfl, h⟩
  exact V_zret 4 rfl rfl (nb1 h.1) ⟨hW, _, rfl, h.2⟩

def wX12_wordHere_j89 (Q : Int32 → ab_S → Prop) (E : String → ab_S → Prop) (Bk : Int32 → Int32 → ab_S → Prop) (x2 : Int32) (y0 : Int32) (σ : ab_S) : Prop := ∀ v1 : Int32, v1 = (x2 + 1) → Bk y0 v1 σ
def wX12_wordHere_j88 (Q : Int32 → ab_S → Prop) (E : String → ab_S → Prop) (Bk : Int32 → Int32 → ab_S → Prop) (x1 : Int32) (x2 : Int32) (σ : ab_S) : Prop := wX12_wordHere_j89 Q E Bk x2 x1 σ
def wX12_wordHere_j69 (Q : Int32 → ab_S → Prop) (E : String → ab_S → Prop) (Bk : Int32 → Int32 → ab_S → Prop) (x1 : Int32) (x2 : Int32) (x3 : Int32) (x4 : Int64) (σ : ab_S) : Prop := ((¬ x3 = (σ.2.1 92 42)) → wX12_wordHere_j88 Q E Bk x1 x2 σ) ∧ (¬ (¬ x3 = (σ.2.1 92 42)) → ((¬ (lg_cmp x4 (0 : Int64)) = 0) → wX12_wordHere_j88 Q E Bk x1 x2 σ) ∧ (¬ (¬ (lg_cmp x4 (0 : Int64)) = 0) → wX12_wordHere_j89 Q E Bk x2 x2 σ))
def wX12_wordHere_l23_b (Q : Int32 → ab_S → Prop) (E : String → ab_S → Prop) (K69 : Int32 → Int32 → Int32 → Int64 → ab_S → Prop) (Bk : Int32 → Int32 → Int32 → Int64 → ab_S → Prop) (x1 : Int32) (x2 : Int32) (x3 : Int32) (x4 : Int64) (σ : ab_S) : Prop := (((σ.2.1 92 42) ≤ x3) → K69 x1 x2 x3 x4 σ) ∧ (¬ ((σ.2.1 92 42) ≤ x3) → (((lg_cmp x4 (0 : Int64)) ≤ 0) → K69 x1 x2 x3 x4 σ) ∧ (¬ ((lg_cmp x4 (0 : Int64)) ≤ 0) → vp_in x3 2400 ∧ (((¬ (σ.2.1 96 x3.toNatClampNeg) = ((96 : Int32) + ((x4 &&& (31 : Int64)).toInt32))) → K69 x1 x2 x3 x4 σ) ∧ (¬ (¬ (σ.2.1 96 x3.toNatClampNeg) = ((96 : Int32) + ((x4 &&& (31 : Int64)).toInt32))) → ∀ v2 : Int32, v2 = (x3 + 1) → ∀ v3 : Int64, v3 = (x4 >>> ((5 : Int32).toInt64 &&& 63)) → Bk x1 x2 v2 v3 σ))))
def wX12_wordHere_l23 (Q : Int32 → ab_S → Prop) (E : String → ab_S → Prop) (K69 : Int32 → Int32 → Int32 → Int64 → ab_S → Prop) : Nat → Int32 → Int32 → Int32 → Int64 → ab_S → Prop
  | 0, _, _, _, _, _ => False
  | n + 1, x1, x2, x3, x4, σ => wX12_wordHere_l23_b Q E K69 (wX12_wordHere_l23 Q E K69 n) x1 x2 x3 x4 σ
def wX12_wordHere_l4_b (Q : Int32 → ab_S → Prop) (E : String → ab_S → Prop) (Bk : Int32 → Int32 → ab_S → Prop) (x1 : Int32) (x2 : Int32) (σ : ab_S) : Prop := (((7 : Int32) ≤ x2) → Q x1 σ) ∧ (¬ ((7 : Int32) ≤ x2) → ∀ v4 : Int32, v4 = (σ.2.1 92 41) → vp_in x2 7 ∧ (∀ v5 : Int64, v5 = (σ.2.2.1 94 x2.toNatClampNeg) → ∃ n, wX12_wordHere_l23 Q E (wX12_wordHere_j69 Q E Bk) n x1 x2 v4 v5 σ))
def wX12_wordHere_l4 (Q : Int32 → ab_S → Prop) (E : String → ab_S → Prop) : Nat → Int32 → Int32 → ab_S → Prop
  | 0, _, _, _ => False
  | n + 1, x1, x2, σ => wX12_wordHere_l4_b Q E (wX12_wordHere_l4 Q E n) x1 x2 σ
def wX12_wordHere  (Q : Int32 → ab_S → Prop) (E : String → ab_S → Prop) (σ : ab_S) : Prop := ∃ n, wX12_wordHere_l4 Q E n (0 : Int32) (1 : Int32) σ
set_option maxHeartbeats 4000000 in
set_option maxRecDepth 100000 in
theorem ceX12_wordHere {l : Launch} (hl : l.stackTraces = false) (B : Nat)   {Q : Int32 → ab_S → Prop} {E : String → ab_S → Prop} {σ : ab_S} (hW : Wire σ) (h : wX12_wordHere  Q E σ) : ab_Mt l yX12_wordHere mdX12_wordHere B 0 0 0 0 [.ref 92] σ (fun v σ' => Wire σ' ∧ ∃ r : Int32, v = some (.int r) ∧ Q r σ') (fun X σ' => Wire σ' ∧ E X σ') := by
  refine V_met hl ⟨rfl, rfl, by decide⟩ rfl dkX12_wordHere (Nat.le_of_ble_eq_true rfl) ?_
  show V l mdX12_wordHere B 0 0 0 0 (ab_End _ _) 0 [(0, .ref 92)] [] σ
  revert h hW
  revert σ
  have k_l4 : ∀ (n : Nat) (x1 : Int32) (x2 : Int32)  (σ : ab_S), Wire σ → wX12_wordHere_l4 Q E n x1 x2 σ → V l mdX12_wordHere B 0 0 0 0 (ab_End (fun v σ' => Wire σ' ∧ ∃ r : Int32, v = some (.int r) ∧ Q r σ') (fun X σ' => Wire σ' ∧ E X σ')) 4 [(0, .ref 92), (1, .int x1), (2, .int x2)] [] σ := by
    have step : ∀ (Bk : Int32 → Int32 → ab_S → Prop) (k_Bk : ∀ (x1 : Int32) (x2 : Int32)  (σ : ab_S), Wire σ → Bk x1 x2 σ → V l mdX12_wordHere B 0 0 0 0 (ab_End (fun v σ' => Wire σ' ∧ ∃ r : Int32, v = some (.int r) ∧ Q r σ') (fun X σ' => Wire σ' ∧ E X σ')) 4 [(0, .ref 92), (1, .int x1), (2, .int x2)] [] σ), ∀ (x1 : Int32) (x2 : Int32)  (σ : ab_S), Wire σ → wX12_wordHere_l4_b Q E Bk x1 x2 σ → V l mdX12_wordHere B 0 0 0 0 (ab_End (fun v σ' => Wire σ' ∧ ∃ r : Int32, v = some (.int r) ∧ Q r σ') (fun X σ' => Wire σ' ∧ E X σ')) 4 [(0, .ref 92), (1, .int x1), (2, .int x2)] [] σ := by
      intro Bk k_Bk
      have k_j89 : ∀ (x2 : Int32) (y0 : Int32)  (σ : ab_S), Wire σ → wX12_wordHere_j89 Q E Bk x2 y0 σ → V l mdX12_wordHere B 0 0 0 0 (ab_End (fun v σ' => Wire σ' ∧ ∃ r : Int32, v = some (.int r) ∧ Q r σ') (fun X σ' => Wire σ' ∧ E X σ')) 89 [(0, .ref 92), (2, .int x2)] [.int y0] σ := by
        intro x2 y0  σ hW h
        refine V_istore_n 51 (lv' := [(1, .int y0), (0, .ref 92), (2, .int x2)]) rfl rfl (by decide) rfl ?_
        obtain ⟨v1, ev1⟩ : ∃ z : Int32, z = (x2 + 1) := ⟨_, rfl⟩
        replace h := h v1 ev1
        refine V_iinc 52 2 (v := v1) (lv' := [(2, .int v1), (1, .int y0), (0, .ref 92)]) rfl rfl ((in_1 _).trans ev1.symm) (by decide) rfl ?_
        refine V_goto 53 (tgt := 4) rfl (by decide) ?_
        refine V_sub [2, 1, 0] (lv' := [(0, .ref 92), (1, .int y0), (2, .int v1)]) rfl ?_
        exact k_Bk y0 v1  σ hW h
      have k_j88 : ∀ (x1 : Int32) (x2 : Int32)  (σ : ab_S), Wire σ → wX12_wordHere_j88 Q E Bk x1 x2 σ → V l mdX12_wordHere B 0 0 0 0 (ab_End (fun v σ' => Wire σ' ∧ ∃ r : Int32, v = some (.int r) ∧ Q r σ') (fun X σ' => Wire σ' ∧ E X σ')) 88 [(0, .ref 92), (1, .int x1), (2, .int x2)] [] σ := by
        intro x1 x2  σ hW h
        refine V_iload_n 50 1 rfl rfl rfl ?_
        refine V_sub [0, 2] (lv' := [(0, .ref 92), (2, .int x2)]) rfl ?_
        exact k_j89 x2 x1 σ hW h
      have k_j69 : ∀ (x1 : Int32) (x2 : Int32) (x3 : Int32) (x4 : Int64)  (σ : ab_S), Wire σ → wX12_wordHere_j69 Q E Bk x1 x2 x3 x4 σ → V l mdX12_wordHere B 0 0 0 0 (ab_End (fun v σ' => Wire σ' ∧ ∃ r : Int32, v = some (.int r) ∧ Q r σ') (fun X σ' => Wire σ' ∧ E X σ')) 69 [(0, .ref 92), (1, .int x1), (2, .int x2), (3, .int x3), (4, .long x4)] [] σ := by
        intro x1 x2 x3 x4  σ hW h
        refine V_iload_n 40 3 rfl rfl rfl ?_
        refine V_aload_n 41 0 rfl rfl rfl ?_
        refine V_get (v := .int (σ.2.1 92 42)) 42 42 rfl clX12 flX12_255 (by decide) (wsh hW rfl) (fun _ => rfl) ?_
        refine V_icmp_ne 43 (tgt := 88) rfl (by decide) (fun hc => ?_) (fun hc => ?_)
        · replace h := h.1 hc
          refine V_sub [0, 1, 2] (lv' := [(0, .ref 92), (1, .int x1), (2, .int x2)]) rfl ?_
          exact k_j88 x1 x2 σ hW h
        · replace h := h.2 hc
          refine V_pc 77 rfl ?_
          refine V_lload 44 4 rfl rfl ?_
          refine V_lconst 45 (v := (0 : Int64)) rfl (by decide) ?_
          refine V_lcmp 46 rfl ?_
          refine V_if_ne 47 (tgt := 88) rfl (by decide) (fun hc => ?_) (fun hc => ?_)
          · replace h := h.1 hc
            refine V_sub [0, 1, 2] (lv' := [(0, .ref 92), (1, .int x1), (2, .int x2)]) rfl ?_
            exact k_j88 x1 x2 σ hW h
          · replace h := h.2 hc
            refine V_pc 84 rfl ?_
            refine V_iload_n 48 2 rfl rfl rfl ?_
            refine V_goto 49 (tgt := 89) rfl (by decide) ?_
            refine V_sub [0, 2] (lv' := [(0, .ref 92), (2, .int x2)]) rfl ?_
            exact k_j89 x2 x2 σ hW h
      have k_l23 : ∀ (n : Nat) (x1 : Int32) (x2 : Int32) (x3 : Int32) (x4 : Int64)  (σ : ab_S), Wire σ → wX12_wordHere_l23 Q E (wX12_wordHere_j69 Q E Bk) n x1 x2 x3 x4 σ → V l mdX12_wordHere B 0 0 0 0 (ab_End (fun v σ' => Wire σ' ∧ ∃ r : Int32, v = some (.int r) ∧ Q r σ') (fun X σ' => Wire σ' ∧ E X σ')) 23 [(0, .ref 92), (1, .int x1), (2, .int x2), (3, .int x3), (4, .long x4)] [] σ := by
        have step : ∀ (K69 : Int32 → Int32 → Int32 → Int64 → ab_S → Prop) (k_K69 : ∀ (x1 : Int32) (x2 : Int32) (x3 : Int32) (x4 : Int64)  (σ : ab_S), Wire σ → K69 x1 x2 x3 x4 σ → V l mdX12_wordHere B 0 0 0 0 (ab_End (fun v σ' => Wire σ' ∧ ∃ r : Int32, v = some (.int r) ∧ Q r σ') (fun X σ' => Wire σ' ∧ E X σ')) 69 [(0, .ref 92), (1, .int x1), (2, .int x2), (3, .int x3), (4, .long x4)] [] σ), ∀ (Bk : Int32 → Int32 → Int32 → Int64 → ab_S → Prop) (k_Bk : ∀ (x1 : Int32) (x2 : Int32) (x3 : Int32) (x4 : Int64)  (σ : ab_S), Wire σ → Bk x1 x2 x3 x4 σ → V l mdX12_wordHere B 0 0 0 0 (ab_End (fun v σ' => Wire σ' ∧ ∃ r : Int32, v = some (.int r) ∧ Q r σ') (fun X σ' => Wire σ' ∧ E X σ')) 23 [(0, .ref 92), (1, .int x1), (2, .int x2), (3, .int x3), (4, .long x4)] [] σ), ∀ (x1 : Int32) (x2 : Int32) (x3 : Int32) (x4 : Int64)  (σ : ab_S), Wire σ → wX12_wordHere_l23_b Q E K69 Bk x1 x2 x3 x4 σ → V l mdX12_wordHere B 0 0 0 0 (ab_End (fun v σ' => Wire σ' ∧ ∃ r : Int32, v = some (.int r) ∧ Q r σ') (fun X σ' => Wire σ' ∧ E X σ')) 23 [(0, .ref 92), (1, .int x1), (2, .int x2), (3, .int x3), (4, .long x4)] [] σ := by
          intro K69 k_K69 Bk k_Bk
          intro x1 x2 x3 x4  σ hW h
          refine V_iload_n 15 3 rfl rfl rfl ?_
          refine V_aload_n 16 0 rfl rfl rfl ?_
          refine V_get (v := .int (σ.2.1 92 42)) 17 42 rfl clX12 flX12_255 (by decide) (wsh hW rfl) (fun _ => rfl) ?_
          refine V_icmp_ge 18 (tgt := 69) rfl (by decide) (fun hc => ?_) (fun hc => ?_)
          · replace h := h.1 hc
            exact k_K69 x1 x2 x3 x4  σ hW h
          · replace h := h.2 hc
            refine V_pc 31 rfl ?_
            refine V_lload 19 4 rfl rfl ?_
            refine V_lconst 20 (v := (0 : Int64)) rfl (by decide) ?_
            refine V_lcmp 21 rfl ?_
            refine V_if_le 22 (tgt := 69) rfl (by decide) (fun hc => ?_) (fun hc => ?_)
            · replace h := h.1 hc
              exact k_K69 x1 x2 x3 x4  σ hW h
            · replace h := h.2 hc
              refine V_pc 38 rfl ?_
              refine V_aload_n 23 0 rfl rfl rfl ?_
              refine V_getR 24 7 rfl clX12 flX12_20 (by decide) (wsh hW rfl) (fun _ => rfl) (wrf hW 97 rfl) ?_
              refine V_iload_n 25 3 rfl rfl rfl ?_
              obtain ⟨hin, h⟩ := h
              refine V_iald 26 rfl (wsh hW rfl) hin ?_
              refine V_bipush 27 (v := (96 : Int32)) rfl (by decide) ?_
              refine V_lload 28 4 rfl rfl ?_
              refine V_pc 48 rfl ?_
              refine V_ldc2 29 (v := (31 : Int64)) rfl ctX12_258 ?_
              refine V_land 30 rfl ?_
              refine V_l2i 31 rfl ?_
              refine V_iadd 32 rfl ?_
              refine V_icmp_ne 33 (tgt := 69) rfl (by decide) (fun hc => ?_) (fun hc => ?_)
              · replace h := h.1 hc
                exact k_K69 x1 x2 x3 x4  σ hW h
              · replace h := h.2 hc
                refine V_pc 57 rfl ?_
                obtain ⟨v2, ev2⟩ : ∃ z : Int32, z = (x3 + 1) := ⟨_, rfl⟩
                replace h := h v2 ev2
                refine V_iinc 34 3 (v := v2) (lv' := [(3, .int v2), (0, .ref 92), (1, .int x1), (2, .int x2), (4, .long x4)]) rfl rfl ((in_1 _).trans ev2.symm) (by decide) rfl ?_
                refine V_lload 35 4 rfl rfl ?_
                refine V_iconst 36 (v := (5 : Int32)) rfl (by decide) ?_
                refine V_lshr 37 rfl ?_
                refine V_topl (fun v3 ev3 => ?_)
                replace h := h v3 ev3
                refine V_lstore 38 (lv' := [(4, .long v3), (3, .int v2), (0, .ref 92), (1, .int x1), (2, .int x2)]) rfl (by decide) rfl ?_
                refine V_goto 39 (tgt := 23) rfl (by decide) ?_
                refine V_sub [2, 3, 4, 1, 0] (lv' := [(0, .ref 92), (1, .int x1), (2, .int x2), (3, .int v2), (4, .long v3)]) rfl ?_
                exact k_Bk x1 x2 v2 v3  σ hW h
        intro n
        induction n with
        | zero => intro x1 x2 x3 x4  σ hW h; exact absurd h id
        | succ n ih => exact step _ k_j69 _ ih
      intro x1 x2  σ hW h
      refine V_iload_n 4 2 rfl rfl rfl ?_
      refine V_bipush 5 (v := (7 : Int32)) rfl (by decide) ?_
      refine V_icmp_ge 6 (tgt := 96) rfl (by decide) (fun hc => ?_) (fun hc => ?_)
      · replace h := h.1 hc
        refine V_iload_n 54 1 rfl rfl rfl ?_
        exact V_iret 55 rfl rfl ⟨hW, _, rfl, h⟩
      · replace h := h.2 hc
        refine V_pc 10 rfl ?_
        refine V_aload_n 7 0 rfl rfl rfl ?_
        refine V_get (v := .int (σ.2.1 92 41)) 8 41 rfl clX12 flX12_252 (by decide) (wsh hW rfl) (fun _ => rfl) ?_
        refine V_topi (fun v4 ev4 => ?_)
        replace h := h v4 ev4
        refine V_istore_n 9 (lv' := [(3, .int v4), (0, .ref 92), (1, .int x1), (2, .int x2)]) rfl rfl (by decide) rfl ?_
        refine V_aload_n 10 1 rfl rfl rfl ?_
        refine V_getR 11 3 rfl clX12 flX12_13 (by decide) (wsh hW rfl) (fun _ => rfl) (wrf hW 95 rfl) ?_
        refine V_iload_n 12 3 rfl rfl rfl ?_
        refine V_pc 20 rfl ?_
        obtain ⟨hin, h⟩ := h
        refine V_lald 13 rfl (wsh hW rfl) hin ?_
        refine V_topl (fun v5 ev5 => ?_)
        replace h := h v5 ev5
        refine V_lstore 14 (lv' := [(4, .long v5), (3, .int v4), (0, .ref 92), (1, .int x1), (2, .int x2)]) rfl (by decide) rfl ?_
        refine V_sub [2, 3, 4, 1, 0] (lv' := [(0, .ref 92), (1, .int x1), (2, .int x2), (3, .int v4), (4, .long v5)]) rfl ?_
        obtain ⟨n, h⟩ := h
        exact k_l23 n x1 x2 v4 v5 σ hW h
    intro n
    induction n with
    | zero => intro x1 x2  σ hW h; exact absurd h id
    | succ n ih => exact step  _ ih
  intro σ hW h
  refine V_iconst 0 (v := (0 : Int32)) rfl (by decide) ?_
  refine V_istore_n 1 (lv' := [(1, .int (0 : Int32)), (0, .ref 92)]) rfl rfl (by decide) rfl ?_
  refine V_iconst 2 (v := (1 : Int32)) rfl (by decide) ?_
  refine V_istore_n 3 (lv' := [(2, .int (1 : Int32)), (1, .int (0 : Int32)), (0, .ref 92)]) rfl rfl (by decide) rfl ?_
  refine V_sub [2, 1, 0] (lv' := [(0, .ref 92), (1, .int (0 : Int32)), (2, .int (1 : Int32))]) rfl ?_
  obtain ⟨n, h⟩ := h
  exact k_l4 n (0 : Int32) (1 : Int32) σ hW h

def wX12_sign (a0 : Int32) (Q : Int32 → ab_S → Prop) (E : String → ab_S → Prop) (σ : ab_S) : Prop := (a0 = 35 → Q (12 : Int32) σ) ∧ (¬ a0 = 35 → (a0 = 40 → Q (10 : Int32) σ) ∧ (¬ a0 = 40 → (a0 = 41 → Q (11 : Int32) σ) ∧ (¬ a0 = 41 → (a0 = 42 → Q (15 : Int32) σ) ∧ (¬ a0 = 42 → (a0 = 43 → Q (13 : Int32) σ) ∧ (¬ a0 = 43 → (a0 = 44 → Q (6 : Int32) σ) ∧ (¬ a0 = 44 → (a0 = 45 → Q (14 : Int32) σ) ∧ (¬ a0 = 45 → (a0 = 46 → Q (7 : Int32) σ) ∧ (¬ a0 = 46 → (a0 = 47 → Q (16 : Int32) σ) ∧ (¬ a0 = 47 → (a0 = 58 → Q (3 : Int32) σ) ∧ (¬ a0 = 58 → (a0 = 59 → Q (5 : Int32) σ) ∧ (¬ a0 = 59 → (a0 = 60 → Q (17 : Int32) σ) ∧ (¬ a0 = 60 → (a0 = 61 → Q (4 : Int32) σ) ∧ (¬ a0 = 61 → (a0 = 123 → Q (8 : Int32) σ) ∧ (¬ a0 = 123 → (a0 = 125 → Q (9 : Int32) σ) ∧ (¬ a0 = 125 → Q (18 : Int32) σ)))))))))))))))
set_option maxHeartbeats 4000000 in
set_option maxRecDepth 100000 in
theorem ceX12_sign {l : Launch} (hl : l.stackTraces = false) (B : Nat) {a0 : Int32}  {Q : Int32 → ab_S → Prop} {E : String → ab_S → Prop} {σ : ab_S} (hW : Wire σ) (h : wX12_sign a0 Q E σ) : ab_Mt l yX12_sign mdX12_sign B 0 0 0 0 [.int a0] σ (fun v σ' => Wire σ' ∧ ∃ r : Int32, v = some (.int r) ∧ Q r σ') (fun X σ' => Wire σ' ∧ E X σ') := by
  refine V_met hl ⟨rfl, rfl, by decide⟩ rfl dkX12_sign (Nat.le_of_ble_eq_true rfl) ?_
  show V l mdX12_sign B 0 0 0 0 (ab_End _ _) 0 [(0, .int a0)] [] σ
  refine V_iload_n 0 0 rfl rfl rfl ?_
  by_cases hs0 : a0 = 35
  · replace h := h.1 hs0
    refine V_look 1 (off := 155) (tgt := 156) rfl (by decide) (by rw [hs0]; rfl) (by decide) ?_
    refine V_bipush 20 (v := (12 : Int32)) rfl (by decide) ?_
    exact V_iret 21 rfl rfl ⟨hW, _, rfl, h⟩
  · replace h := h.2 hs0
    by_cases hs1 : a0 = 40
    · replace h := h.1 hs1
      refine V_look 1 (off := 149) (tgt := 150) rfl (by decide) (by rw [hs1]; rfl) (by decide) ?_
      refine V_bipush 16 (v := (10 : Int32)) rfl (by decide) ?_
      exact V_iret 17 rfl rfl ⟨hW, _, rfl, h⟩
    · replace h := h.2 hs1
      by_cases hs2 : a0 = 41
      · replace h := h.1 hs2
        refine V_look 1 (off := 152) (tgt := 153) rfl (by decide) (by rw [hs2]; rfl) (by decide) ?_
        refine V_bipush 18 (v := (11 : Int32)) rfl (by decide) ?_
        exact V_iret 19 rfl rfl ⟨hW, _, rfl, h⟩
      · replace h := h.2 hs2
        by_cases hs3 : a0 = 42
        · replace h := h.1 hs3
          refine V_look 1 (off := 164) (tgt := 165) rfl (by decide) (by rw [hs3]; rfl) (by decide) ?_
          refine V_bipush 26 (v := (15 : Int32)) rfl (by decide) ?_
          exact V_iret 27 rfl rfl ⟨hW, _, rfl, h⟩
        · replace h := h.2 hs3
          by_cases hs4 : a0 = 43
          · replace h := h.1 hs4
            refine V_look 1 (off := 158) (tgt := 159) rfl (by decide) (by rw [hs4]; rfl) (by decide) ?_
            refine V_bipush 22 (v := (13 : Int32)) rfl (by decide) ?_
            exact V_iret 23 rfl rfl ⟨hW, _, rfl, h⟩
          · replace h := h.2 hs4
            by_cases hs5 : a0 = 44
            · replace h := h.1 hs5
              refine V_look 1 (off := 137) (tgt := 138) rfl (by decide) (by rw [hs5]; rfl) (by decide) ?_
              refine V_bipush 8 (v := (6 : Int32)) rfl (by decide) ?_
              exact V_iret 9 rfl rfl ⟨hW, _, rfl, h⟩
            · replace h := h.2 hs5
              by_cases hs6 : a0 = 45
              · replace h := h.1 hs6
                refine V_look 1 (off := 161) (tgt := 162) rfl (by decide) (by rw [hs6]; rfl) (by decide) ?_
                refine V_bipush 24 (v := (14 : Int32)) rfl (by decide) ?_
                exact V_iret 25 rfl rfl ⟨hW, _, rfl, h⟩
              · replace h := h.2 hs6
                by_cases hs7 : a0 = 46
                · replace h := h.1 hs7
                  refine V_look 1 (off := 140) (tgt := 141) rfl (by decide) (by rw [hs7]; rfl) (by decide) ?_
                  refine V_bipush 10 (v := (7 : Int32)) rfl (by decide) ?_
                  exact V_iret 11 rfl rfl ⟨hW, _, rfl, h⟩
                · replace h := h.2 hs7
                  by_cases hs8 : a0 = 47
                  · replace h := h.1 hs8
                    refine V_look 1 (off := 167) (tgt := 168) rfl (by decide) (by rw [hs8]; rfl) (by decide) ?_
                    refine V_bipush 28 (v := (16 : Int32)) rfl (by decide) ?_
                    exact V_iret 29 rfl rfl ⟨hW, _, rfl, h⟩
                  · replace h := h.2 hs8
                    by_cases hs9 : a0 = 58
                    · replace h := h.1 hs9
                      refine V_look 1 (off := 131) (tgt := 132) rfl (by decide) (by rw [hs9]; rfl) (by decide) ?_
                      refine V_iconst 2 (v := (3 : Int32)) rfl (by decide) ?_
                      exact V_iret 3 rfl rfl ⟨hW, _, rfl, h⟩
                    · replace h := h.2 hs9
                      by_cases hs10 : a0 = 59
                      · replace h := h.1 hs10
                        refine V_look 1 (off := 135) (tgt := 136) rfl (by decide) (by rw [hs10]; rfl) (by decide) ?_
                        refine V_iconst 6 (v := (5 : Int32)) rfl (by decide) ?_
                        exact V_iret 7 rfl rfl ⟨hW, _, rfl, h⟩
                      · replace h := h.2 hs10
                        by_cases hs11 : a0 = 60
                        · replace h := h.1 hs11
                          refine V_look 1 (off := 170) (tgt := 171) rfl (by decide) (by rw [hs11]; rfl) (by decide) ?_
                          refine V_bipush 30 (v := (17 : Int32)) rfl (by decide) ?_
                          exact V_iret 31 rfl rfl ⟨hW, _, rfl, h⟩
                        · replace h := h.2 hs11
                          by_cases hs12 : a0 = 61
                          · replace h := h.1 hs12
                            refine V_look 1 (off := 133) (tgt := 134) rfl (by decide) (by rw [hs12]; rfl) (by decide) ?_
                            refine V_iconst 4 (v := (4 : Int32)) rfl (by decide) ?_
                            exact V_iret 5 rfl rfl ⟨hW, _, rfl, h⟩
                          · replace h := h.2 hs12
                            by_cases hs13 : a0 = 123
                            · replace h := h.1 hs13
                              refine V_look 1 (off := 143) (tgt := 144) rfl (by decide) (by rw [hs13]; rfl) (by decide) ?_
                              refine V_bipush 12 (v := (8 : Int32)) rfl (by decide) ?_
                              exact V_iret 13 rfl rfl ⟨hW, _, rfl, h⟩
                            · replace h := h.2 hs13
                              by_cases hs14 : a0 = 125
                              · replace h := h.1 hs14
                                refine V_look 1 (off := 146) (tgt := 147) rfl (by decide) (by rw [hs14]; rfl) (by decide) ?_
                                refine V_bipush 14 (v := (9 : Int32)) rfl (by decide) ?_
                                exact V_iret 15 rfl rfl ⟨hW, _, rfl, h⟩
                              · replace h := h.2 hs14
                                refine V_look 1 (off := 173) (tgt := 174) rfl (by decide) (by refine (lv_osw hs0 (by decide)).trans ?_; refine (lv_osw hs1 (by decide)).trans ?_; refine (lv_osw hs2 (by decide)).trans ?_; refine (lv_osw hs3 (by decide)).trans ?_; refine (lv_osw hs4 (by decide)).trans ?_; refine (lv_osw hs5 (by decide)).trans ?_; refine (lv_osw hs6 (by decide)).trans ?_; refine (lv_osw hs7 (by decide)).trans ?_; refine (lv_osw hs8 (by decide)).trans ?_; refine (lv_osw hs9 (by decide)).trans ?_; refine (lv_osw hs10 (by decide)).trans ?_; refine (lv_osw hs11 (by decide)).trans ?_; refine (lv_osw hs12 (by decide)).trans ?_; refine (lv_osw hs13 (by decide)).trans ?_; refine (lv_osw hs14 (by decide)).trans ?_; rfl) (by decide) ?_
                                refine V_bipush 32 (v := (18 : Int32)) rfl (by decide) ?_
                                exact V_iret 33 rfl rfl ⟨hW, _, rfl, h⟩

def wX12_advance_j188 (Q : ab_S → Prop) (E : String → ab_S → Prop) (y0 : Int32) (σ : ab_S) : Prop := (∀ σ1 : ab_S, σ1 = ab_I σ 92 43 y0 → Q σ1)
def wX12_advance_j168 (Q : ab_S → Prop) (E : String → ab_S → Prop) (y0 : Int32) (σ : ab_S) : Prop := (∀ σ2 : ab_S, σ2 = ab_I σ 92 40 y0 → ((¬ (σ2.2.1 92 40) = (1 : Int32)) → wX12_advance_j188 Q E (0 : Int32) σ2) ∧ (¬ (¬ (σ2.2.1 92 40) = (1 : Int32)) → wX12_wordHere (fun u4 σ3 => wX12_advance_j188 Q E u4 σ3) E σ2))
def wX12_advance_j139 (Q : ab_S → Prop) (E : String → ab_S → Prop) (x1 : Int32) (x2 : Int32) (y0 : Int32) (σ : ab_S) : Prop := (((x1 - (σ.2.1 92 41)) ≤ y0) → wX12_isSmall x2 (fun u6 σ5 => ((u6 = 0) → wX12_advance_j168 Q E (2 : Int32) σ5) ∧ (¬ (u6 = 0) → wX12_advance_j168 Q E (1 : Int32) σ5)) E σ) ∧ (¬ ((x1 - (σ.2.1 92 41)) ≤ y0) → wX12_advance_j168 Q E (18 : Int32) σ)
def wX12_advance_j120 (Q : ab_S → Prop) (E : String → ab_S → Prop) (x1 : Int32) (x2 : Int32) (σ : ab_S) : Prop := (∀ σ7 : ab_S, σ7 = ab_I σ 92 42 x1 → wX12_isSmall x2 (fun u9 σ8 => ((u9 = 0) → wX12_advance_j139 Q E x1 x2 (6 : Int32) σ8) ∧ (¬ (u9 = 0) → wX12_advance_j139 Q E x1 x2 (8 : Int32) σ8)) E σ7)
def wX12_advance_j114 (Q : ab_S → Prop) (E : String → ab_S → Prop) (K120 : Int32 → Int32 → ab_S → Prop) (Bk : Int32 → Int32 → ab_S → Prop) (x1 : Int32) (x2 : Int32) (σ : ab_S) : Prop := ∀ v10 : Int32, v10 = (x1 + 1) → Bk v10 x2 σ
def wX12_advance_l82_b (Q : ab_S → Prop) (E : String → ab_S → Prop) (K120 : Int32 → Int32 → ab_S → Prop) (Bk : Int32 → Int32 → ab_S → Prop) (x1 : Int32) (x2 : Int32) (σ : ab_S) : Prop := wX12_isSmall x2 (fun u12 σ11 => ((u12 = 0) → wX12_signAt x1 (fun u14 σ13 => wX12_isDigit u14 (fun u16 σ15 => ((u16 = 0) → K120 x1 x2 σ15) ∧ (¬ (u16 = 0) → wX12_advance_j114 Q E K120 Bk x1 x2 σ15)) E σ13) E σ11) ∧ (¬ (u12 = 0) → wX12_signAt x1 (fun u18 σ17 => wX12_isSmall u18 (fun u20 σ19 => ((u20 = 0) → K120 x1 x2 σ19) ∧ (¬ (u20 = 0) → wX12_advance_j114 Q E K120 Bk x1 x2 σ19)) E σ17) E σ11)) E σ
def wX12_advance_l82 (Q : ab_S → Prop) (E : String → ab_S → Prop) (K120 : Int32 → Int32 → ab_S → Prop) : Nat → Int32 → Int32 → ab_S → Prop
  | 0, _, _, _ => False
  | n + 1, x1, x2, σ => wX12_advance_l82_b Q E K120 (wX12_advance_l82 Q E K120 n) x1 x2 σ
def wX12_advance_j31 (Q : ab_S → Prop) (E : String → ab_S → Prop) (x1 : Int32) (σ : ab_S) : Prop := (∀ σ21 : ab_S, σ21 = ab_I σ 92 41 x1 → (∀ σ22 : ab_S, σ22 = ab_I σ21 92 43 (0 : Int32) → wX12_signAt x1 (fun u24 σ23 => ((x1 < (σ23.2.1 92 8)) → wX12_isSmall u24 (fun u26 σ25 => ((¬ u26 = 0) → ∃ n, wX12_advance_l82 Q E (wX12_advance_j120 Q E) n x1 u24 σ25) ∧ (¬ (¬ u26 = 0) → wX12_isDigit u24 (fun u28 σ27 => ((u28 = 0) → wX12_sign u24 (fun u30 σ29 => (∀ σ31 : ab_S, σ31 = ab_I σ29 92 40 u30 → (∀ σ32 : ab_S, σ32 = ab_I σ31 92 42 (x1 + (1 : Int32)) → Q σ32))) E σ27) ∧ (¬ (u28 = 0) → ∃ n, wX12_advance_l82 Q E (wX12_advance_j120 Q E) n x1 u24 σ27)) E σ25)) E σ23) ∧ (¬ (x1 < (σ23.2.1 92 8)) → (∀ σ33 : ab_S, σ33 = ab_I σ23 92 40 (0 : Int32) → (∀ σ34 : ab_S, σ34 = ab_I σ33 92 42 x1 → Q σ34)))) E σ22))
def wX12_advance_j25 (Q : ab_S → Prop) (E : String → ab_S → Prop) (K31 : Int32 → ab_S → Prop) (Bk : Int32 → ab_S → Prop) (x1 : Int32) (σ : ab_S) : Prop := ∀ v35 : Int32, v35 = (x1 + 1) → Bk v35 σ
def wX12_advance_l5_b (Q : ab_S → Prop) (E : String → ab_S → Prop) (K31 : Int32 → ab_S → Prop) (Bk : Int32 → ab_S → Prop) (x1 : Int32) (σ : ab_S) : Prop := wX12_signAt x1 (fun u37 σ36 => ((u37 = (32 : Int32)) → wX12_advance_j25 Q E K31 Bk x1 σ36) ∧ (¬ (u37 = (32 : Int32)) → wX12_signAt x1 (fun u39 σ38 => ((¬ u39 = (10 : Int32)) → K31 x1 σ38) ∧ (¬ (¬ u39 = (10 : Int32)) → wX12_advance_j25 Q E K31 Bk x1 σ38)) E σ36)) E σ
def wX12_advance_l5 (Q : ab_S → Prop) (E : String → ab_S → Prop) (K31 : Int32 → ab_S → Prop) : Nat → Int32 → ab_S → Prop
  | 0, _, _ => False
  | n + 1, x1, σ => wX12_advance_l5_b Q E K31 (wX12_advance_l5 Q E K31 n) x1 σ
def wX12_advance  (Q : ab_S → Prop) (E : String → ab_S → Prop) (σ : ab_S) : Prop := ∀ v40 : Int32, v40 = (σ.2.1 92 42) → ∃ n, wX12_advance_l5 Q E (wX12_advance_j31 Q E) n v40 σ
set_option maxHeartbeats 4000000 in
set_option maxRecDepth 100000 in
theorem ceX12_advance {l : Launch} (hl : l.stackTraces = false) (B : Nat)   {Q : ab_S → Prop} {E : String → ab_S → Prop} {σ : ab_S} (hW : Wire σ) (h : wX12_advance  Q E σ) : ab_Mt l yX12_advance mdX12_advance B 2 42 0 0 [.ref 92] σ (fun v σ' => Wire σ' ∧ v = none ∧ Q σ') (fun X σ' => Wire σ' ∧ E X σ') := by
  refine V_met hl ⟨rfl, rfl, by decide⟩ rfl dkX12_advance (Nat.le_of_ble_eq_true rfl) ?_
  show V l mdX12_advance B 2 42 0 0 (ab_End _ _) 0 [(0, .ref 92)] [] σ
  revert h hW
  revert σ
  have k_j188 : ∀ (y0 : Int32)  (σ : ab_S), Wire σ → wX12_advance_j188 Q E y0 σ → V l mdX12_advance B 2 42 0 0 (ab_End (fun v σ' => Wire σ' ∧ v = none ∧ Q σ') (fun X σ' => Wire σ' ∧ E X σ')) 188 [] [.int y0, .ref 92] σ := by
    intro y0  σ hW h
    refine V_putI 93 43 rfl clX12 flX12_264 (by decide) (wsh hW rfl) rfl (fun _ _ => rfl) rfl rfl ?_
    refine V_nm (fun σ1 eσ1 => ?_)
    replace h := h σ1 eσ1
    have hW := wire_I eσ1 hW
    refine V_goto 94 (tgt := 209) rfl (by decide) ?_
    exact V_vret 104 rfl rfl ⟨hW, rfl, h⟩
  have k_j168 : ∀ (y0 : Int32)  (σ : ab_S), Wire σ → wX12_advance_j168 Q E y0 σ → V l mdX12_advance B 2 42 0 0 (ab_End (fun v σ' => Wire σ' ∧ v = none ∧ Q σ') (fun X σ' => Wire σ' ∧ E X σ')) 168 [(0, .ref 92)] [.int y0, .ref 92] σ := by
    intro y0  σ hW h
    refine V_putI 83 40 rfl clX12 flX12_267 (by decide) (wsh hW rfl) rfl (fun _ _ => rfl) rfl rfl ?_
    refine V_nm (fun σ2 eσ2 => ?_)
    replace h := h σ2 eσ2
    have hW := wire_I eσ2 hW
    refine V_aload_n 84 0 rfl rfl rfl ?_
    refine V_aload_n 85 0 rfl rfl rfl ?_
    refine V_get (v := .int (σ2.2.1 92 40)) 86 40 rfl clX12 flX12_267 (by decide) (wsh hW rfl) (fun _ => rfl) ?_
    refine V_iconst 87 (v := (1 : Int32)) rfl (by decide) ?_
    refine V_icmp_ne 88 (tgt := 187) rfl (by decide) (fun hc => ?_) (fun hc => ?_)
    · replace h := h.1 hc
      refine V_iconst 92 (v := (0 : Int32)) rfl (by decide) ?_
      refine V_sub [] (lv' := []) rfl ?_
      exact k_j188 (0 : Int32) σ2 hW h
    · replace h := h.2 hc
      refine V_pc 180 rfl ?_
      refine V_aload_n 89 0 rfl rfl rfl ?_
      refine V_callV 90 0 (as := []) (rest := [.ref 92]) rfl mlX12_277 yvX12_wordHere rfl rfl clX12 (wsh hW rfl) (by decide) (by decide) (Nat.le_of_ble_eq_true rfl) (by decide) (by decide) (fun B9 => ceX12_wordHere hl B9 hW h) (fun X9 τ9 h9 => VX_out rfl h9) ?_
      rintro v9 σ3 ⟨hW, u4, rfl, h⟩
      refine V_goto 91 (tgt := 188) rfl (by decide) ?_
      refine V_sub [] (lv' := []) rfl ?_
      exact k_j188 u4 σ3 hW h
  have k_j139 : ∀ (x1 : Int32) (x2 : Int32) (y0 : Int32)  (σ : ab_S), Wire σ → wX12_advance_j139 Q E x1 x2 y0 σ → V l mdX12_advance B 2 42 0 0 (ab_End (fun v σ' => Wire σ' ∧ v = none ∧ Q σ') (fun X σ' => Wire σ' ∧ E X σ')) 139 [(0, .ref 92), (1, .int x1), (2, .int x2)] [.int y0] σ := by
    intro x1 x2 y0  σ hW h
    refine V_istore_n 67 (lv' := [(3, .int y0), (0, .ref 92), (1, .int x1), (2, .int x2)]) rfl rfl (by decide) rfl ?_
    refine V_aload_n 68 1 rfl rfl rfl ?_
    refine V_iload_n 69 2 rfl rfl rfl ?_
    refine V_aload_n 70 1 rfl rfl rfl ?_
    refine V_get (v := .int (σ.2.1 92 41)) 71 41 rfl clX12 flX12_252 (by decide) (wsh hW rfl) (fun _ => rfl) ?_
    refine V_isub 72 rfl ?_
    refine V_pc 147 rfl ?_
    refine V_iload_n 73 0 rfl rfl rfl ?_
    refine V_icmp_le 74 (tgt := 156) rfl (by decide) (fun hc => ?_) (fun hc => ?_)
    · replace h := h.1 hc
      refine V_iload_n 77 3 rfl rfl rfl ?_
      refine V_callS 78 1 (as := [.int x2]) (rest := [.ref 92]) rfl mlX12_270 yvX12_isSmall rfl rfl (by decide) (by decide) (Nat.le_of_ble_eq_true rfl) (by decide) (by decide) (fun B9 => ceX12_isSmall hl B9 hW h) (fun X9 τ9 h9 => VX_out rfl h9) ?_
      rintro v9 σ5 ⟨hW, u6, rfl, h⟩
      refine V_if_eq 79 (tgt := 167) rfl (by decide) (fun hc => ?_) (fun hc => ?_)
      · replace h := h.1 hc
        refine V_iconst 82 (v := (2 : Int32)) rfl (by decide) ?_
        refine V_sub [1] (lv' := [(0, .ref 92)]) rfl ?_
        exact k_j168 (2 : Int32) σ5 hW h
      · replace h := h.2 hc
        refine V_pc 163 rfl ?_
        refine V_iconst 80 (v := (1 : Int32)) rfl (by decide) ?_
        refine V_goto 81 (tgt := 168) rfl (by decide) ?_
        refine V_sub [1] (lv' := [(0, .ref 92)]) rfl ?_
        exact k_j168 (1 : Int32) σ5 hW h
    · replace h := h.2 hc
      refine V_pc 151 rfl ?_
      refine V_bipush 75 (v := (18 : Int32)) rfl (by decide) ?_
      refine V_goto 76 (tgt := 168) rfl (by decide) ?_
      refine V_sub [1] (lv' := [(0, .ref 92)]) rfl ?_
      exact k_j168 (18 : Int32) σ hW h
  have k_j120 : ∀ (x1 : Int32) (x2 : Int32)  (σ : ab_S), Wire σ → wX12_advance_j120 Q E x1 x2 σ → V l mdX12_advance B 2 42 0 0 (ab_End (fun v σ' => Wire σ' ∧ v = none ∧ Q σ') (fun X σ' => Wire σ' ∧ E X σ')) 120 [(0, .ref 92), (1, .int x1), (2, .int x2)] [] σ := by
    intro x1 x2  σ hW h
    refine V_aload_n 58 0 rfl rfl rfl ?_
    refine V_iload_n 59 1 rfl rfl rfl ?_
    refine V_putI 60 42 rfl clX12 flX12_255 (by decide) (wsh hW rfl) rfl (fun _ _ => rfl) rfl rfl ?_
    refine V_nm (fun σ7 eσ7 => ?_)
    replace h := h σ7 eσ7
    have hW := wire_I eσ7 hW
    refine V_iload_n 61 2 rfl rfl rfl ?_
    refine V_callS 62 1 (as := [.int x2]) (rest := []) rfl mlX12_270 yvX12_isSmall rfl rfl (by decide) (by decide) (Nat.le_of_ble_eq_true rfl) (by decide) (by decide) (fun B9 => ceX12_isSmall hl B9 hW h) (fun X9 τ9 h9 => VX_out rfl h9) ?_
    rintro v9 σ8 ⟨hW, u9, rfl, h⟩
    refine V_if_eq 63 (tgt := 137) rfl (by decide) (fun hc => ?_) (fun hc => ?_)
    · replace h := h.1 hc
      refine V_bipush 66 (v := (6 : Int32)) rfl (by decide) ?_
      exact k_j139 x1 x2 (6 : Int32) σ8 hW h
    · replace h := h.2 hc
      refine V_pc 132 rfl ?_
      refine V_bipush 64 (v := (8 : Int32)) rfl (by decide) ?_
      refine V_goto 65 (tgt := 139) rfl (by decide) ?_
      exact k_j139 x1 x2 (8 : Int32) σ8 hW h
  have k_l82 : ∀ (n : Nat) (x1 : Int32) (x2 : Int32)  (σ : ab_S), Wire σ → wX12_advance_l82 Q E (wX12_advance_j120 Q E) n x1 x2 σ → V l mdX12_advance B 2 42 0 0 (ab_End (fun v σ' => Wire σ' ∧ v = none ∧ Q σ') (fun X σ' => Wire σ' ∧ E X σ')) 82 [(0, .ref 92), (1, .int x1), (2, .int x2)] [] σ := by
    have step : ∀ (K120 : Int32 → Int32 → ab_S → Prop) (k_K120 : ∀ (x1 : Int32) (x2 : Int32)  (σ : ab_S), Wire σ → K120 x1 x2 σ → V l mdX12_advance B 2 42 0 0 (ab_End (fun v σ' => Wire σ' ∧ v = none ∧ Q σ') (fun X σ' => Wire σ' ∧ E X σ')) 120 [(0, .ref 92), (1, .int x1), (2, .int x2)] [] σ), ∀ (Bk : Int32 → Int32 → ab_S → Prop) (k_Bk : ∀ (x1 : Int32) (x2 : Int32)  (σ : ab_S), Wire σ → Bk x1 x2 σ → V l mdX12_advance B 2 42 0 0 (ab_End (fun v σ' => Wire σ' ∧ v = none ∧ Q σ') (fun X σ' => Wire σ' ∧ E X σ')) 82 [(0, .ref 92), (1, .int x1), (2, .int x2)] [] σ), ∀ (x1 : Int32) (x2 : Int32)  (σ : ab_S), Wire σ → wX12_advance_l82_b Q E K120 Bk x1 x2 σ → V l mdX12_advance B 2 42 0 0 (ab_End (fun v σ' => Wire σ' ∧ v = none ∧ Q σ') (fun X σ' => Wire σ' ∧ E X σ')) 82 [(0, .ref 92), (1, .int x1), (2, .int x2)] [] σ := by
      intro K120 k_K120 Bk k_Bk
      have k_j114 : ∀ (x1 : Int32) (x2 : Int32)  (σ : ab_S), Wire σ → wX12_advance_j114 Q E K120 Bk x1 x2 σ → V l mdX12_advance B 2 42 0 0 (ab_End (fun v σ' => Wire σ' ∧ v = none ∧ Q σ') (fun X σ' => Wire σ' ∧ E X σ')) 114 [(0, .ref 92), (1, .int x1), (2, .int x2)] [] σ := by
        intro x1 x2  σ hW h
        obtain ⟨v10, ev10⟩ : ∃ z : Int32, z = (x1 + 1) := ⟨_, rfl⟩
        replace h := h v10 ev10
        refine V_iinc 56 1 (v := v10) (lv' := [(1, .int v10), (0, .ref 92), (2, .int x2)]) rfl rfl ((in_1 _).trans ev10.symm) (by decide) rfl ?_
        refine V_goto 57 (tgt := 82) rfl (by decide) ?_
        refine V_sub [1, 0, 2] (lv' := [(0, .ref 92), (1, .int v10), (2, .int x2)]) rfl ?_
        exact k_Bk v10 x2  σ hW h
      intro x1 x2  σ hW h
      refine V_iload_n 42 2 rfl rfl rfl ?_
      refine V_callS 43 1 (as := [.int x2]) (rest := []) rfl mlX12_270 yvX12_isSmall rfl rfl (by decide) (by decide) (Nat.le_of_ble_eq_true rfl) (by decide) (by decide) (fun B9 => ceX12_isSmall hl B9 hW h) (fun X9 τ9 h9 => VX_out rfl h9) ?_
      rintro v9 σ11 ⟨hW, u12, rfl, h⟩
      refine V_if_eq 44 (tgt := 103) rfl (by decide) (fun hc => ?_) (fun hc => ?_)
      · replace h := h.1 hc
        refine V_aload_n 51 0 rfl rfl rfl ?_
        refine V_iload_n 52 1 rfl rfl rfl ?_
        refine V_callV 53 1 (as := [.int x1]) (rest := []) rfl mlX12_260 yvX12_signAt rfl rfl clX12 (wsh hW rfl) (by decide) (by decide) (Nat.le_of_ble_eq_true rfl) (by decide) (by decide) (fun B9 => ceX12_signAt hl B9 hW h) (fun X9 τ9 h9 => VX_out rfl h9) ?_
        rintro v9 σ13 ⟨hW, u14, rfl, h⟩
        refine V_callS 54 1 (as := [.int u14]) (rest := []) rfl mlX12_274 yvX12_isDigit rfl rfl (by decide) (by decide) (Nat.le_of_ble_eq_true rfl) (by decide) (by decide) (fun B9 => ceX12_isDigit hl B9 hW h) (fun X9 τ9 h9 => VX_out rfl h9) ?_
        rintro v9 σ15 ⟨hW, u16, rfl, h⟩
        refine V_if_eq 55 (tgt := 120) rfl (by decide) (fun hc => ?_) (fun hc => ?_)
        · replace h := h.1 hc
          exact k_K120 x1 x2  σ15 hW h
        · replace h := h.2 hc
          refine V_pc 114 rfl ?_
          exact k_j114 x1 x2 σ15 hW h
      · replace h := h.2 hc
        refine V_pc 89 rfl ?_
        refine V_aload_n 45 0 rfl rfl rfl ?_
        refine V_iload_n 46 1 rfl rfl rfl ?_
        refine V_callV 47 1 (as := [.int x1]) (rest := []) rfl mlX12_260 yvX12_signAt rfl rfl clX12 (wsh hW rfl) (by decide) (by decide) (Nat.le_of_ble_eq_true rfl) (by decide) (by decide) (fun B9 => ceX12_signAt hl B9 hW h) (fun X9 τ9 h9 => VX_out rfl h9) ?_
        rintro v9 σ17 ⟨hW, u18, rfl, h⟩
        refine V_callS 48 1 (as := [.int u18]) (rest := []) rfl mlX12_270 yvX12_isSmall rfl rfl (by decide) (by decide) (Nat.le_of_ble_eq_true rfl) (by decide) (by decide) (fun B9 => ceX12_isSmall hl B9 hW h) (fun X9 τ9 h9 => VX_out rfl h9) ?_
        rintro v9 σ19 ⟨hW, u20, rfl, h⟩
        refine V_if_eq 49 (tgt := 120) rfl (by decide) (fun hc => ?_) (fun hc => ?_)
        · replace h := h.1 hc
          exact k_K120 x1 x2  σ19 hW h
        · replace h := h.2 hc
          refine V_pc 100 rfl ?_
          refine V_goto 50 (tgt := 114) rfl (by decide) ?_
          exact k_j114 x1 x2 σ19 hW h
    intro n
    induction n with
    | zero => intro x1 x2  σ hW h; exact absurd h id
    | succ n ih => exact step _ k_j120 _ ih
  have k_j31 : ∀ (x1 : Int32)  (σ : ab_S), Wire σ → wX12_advance_j31 Q E x1 σ → V l mdX12_advance B 2 42 0 0 (ab_End (fun v σ' => Wire σ' ∧ v = none ∧ Q σ') (fun X σ' => Wire σ' ∧ E X σ')) 31 [(0, .ref 92), (1, .int x1)] [] σ := by
    intro x1  σ hW h
    refine V_aload_n 15 0 rfl rfl rfl ?_
    refine V_iload_n 16 1 rfl rfl rfl ?_
    refine V_putI 17 41 rfl clX12 flX12_252 (by decide) (wsh hW rfl) rfl (fun _ _ => rfl) rfl rfl ?_
    refine V_nm (fun σ21 eσ21 => ?_)
    replace h := h σ21 eσ21
    have hW := wire_I eσ21 hW
    refine V_aload_n 18 0 rfl rfl rfl ?_
    refine V_iconst 19 (v := (0 : Int32)) rfl (by decide) ?_
    refine V_putI 20 43 rfl clX12 flX12_264 (by decide) (wsh hW rfl) rfl (fun _ _ => rfl) rfl rfl ?_
    refine V_nm (fun σ22 eσ22 => ?_)
    replace h := h σ22 eσ22
    have hW := wire_I eσ22 hW
    refine V_aload_n 21 0 rfl rfl rfl ?_
    refine V_iload_n 22 1 rfl rfl rfl ?_
    refine V_callV 23 1 (as := [.int x1]) (rest := []) rfl mlX12_260 yvX12_signAt rfl rfl clX12 (wsh hW rfl) (by decide) (by decide) (Nat.le_of_ble_eq_true rfl) (by decide) (by decide) (fun B9 => ceX12_signAt hl B9 hW h) (fun X9 τ9 h9 => VX_out rfl h9) ?_
    rintro v9 σ23 ⟨hW, u24, rfl, h⟩
    refine V_istore_n 24 (lv' := [(2, .int u24), (0, .ref 92), (1, .int x1)]) rfl rfl (by decide) rfl ?_
    refine V_iload_n 25 2 rfl rfl rfl ?_
    refine V_aload_n 26 1 rfl rfl rfl ?_
    refine V_get (v := .int (σ23.2.1 92 8)) 27 8 rfl clX12 flX12_249 (by decide) (wsh hW rfl) (fun _ => rfl) ?_
    refine V_icmp_lt 28 (tgt := 68) rfl (by decide) (fun hc => ?_) (fun hc => ?_)
    · replace h := h.1 hc
      refine V_iload_n 36 0 rfl rfl rfl ?_
      refine V_callS 37 1 (as := [.int u24]) (rest := []) rfl mlX12_270 yvX12_isSmall rfl rfl (by decide) (by decide) (Nat.le_of_ble_eq_true rfl) (by decide) (by decide) (fun B9 => ceX12_isSmall hl B9 hW h) (fun X9 τ9 h9 => VX_out rfl h9) ?_
      rintro v9 σ25 ⟨hW, u26, rfl, h⟩
      refine V_if_ne 38 (tgt := 82) rfl (by decide) (fun hc => ?_) (fun hc => ?_)
      · replace h := h.1 hc
        refine V_sub [1, 2, 0] (lv' := [(0, .ref 92), (1, .int x1), (2, .int u24)]) rfl ?_
        obtain ⟨n, h⟩ := h
        exact k_l82 n x1 u24 σ25 hW h
      · replace h := h.2 hc
        refine V_pc 75 rfl ?_
        refine V_iload_n 39 0 rfl rfl rfl ?_
        refine V_callS 40 1 (as := [.int u24]) (rest := []) rfl mlX12_274 yvX12_isDigit rfl rfl (by decide) (by decide) (Nat.le_of_ble_eq_true rfl) (by decide) (by decide) (fun B9 => ceX12_isDigit hl B9 hW h) (fun X9 τ9 h9 => VX_out rfl h9) ?_
        rintro v9 σ27 ⟨hW, u28, rfl, h⟩
        refine V_if_eq 41 (tgt := 194) rfl (by decide) (fun hc => ?_) (fun hc => ?_)
        · replace h := h.1 hc
          refine V_aload_n 95 1 rfl rfl rfl ?_
          refine V_iload_n 96 0 rfl rfl rfl ?_
          refine V_callS 97 1 (as := [.int u24]) (rest := [.ref 92]) rfl mlX12_281 yvX12_sign rfl rfl (by decide) (by decide) (Nat.le_of_ble_eq_true rfl) (by decide) (by decide) (fun B9 => ceX12_sign hl B9 hW h) (fun X9 τ9 h9 => VX_out rfl h9) ?_
          rintro v9 σ29 ⟨hW, u30, rfl, h⟩
          refine V_putI 98 40 rfl clX12 flX12_267 (by decide) (wsh hW rfl) rfl (fun _ _ => rfl) rfl rfl ?_
          refine V_nm (fun σ31 eσ31 => ?_)
          replace h := h σ31 eσ31
          have hW := wire_I eσ31 hW
          refine V_aload_n 99 1 rfl rfl rfl ?_
          refine V_iload_n 100 2 rfl rfl rfl ?_
          refine V_iconst 101 (v := (1 : Int32)) rfl (by decide) ?_
          refine V_iadd 102 rfl ?_
          refine V_putI 103 42 rfl clX12 flX12_255 (by decide) (wsh hW rfl) rfl (fun _ _ => rfl) rfl rfl ?_
          refine V_nm (fun σ32 eσ32 => ?_)
          replace h := h σ32 eσ32
          have hW := wire_I eσ32 hW
          exact V_vret 104 rfl rfl ⟨hW, rfl, h⟩
        · replace h := h.2 hc
          refine V_pc 82 rfl ?_
          refine V_sub [1, 2, 0] (lv' := [(0, .ref 92), (1, .int x1), (2, .int u24)]) rfl ?_
          obtain ⟨n, h⟩ := h
          exact k_l82 n x1 u24 σ27 hW h
    · replace h := h.2 hc
      refine V_pc 55 rfl ?_
      refine V_aload_n 29 1 rfl rfl rfl ?_
      refine V_iconst 30 (v := (0 : Int32)) rfl (by decide) ?_
      refine V_putI 31 40 rfl clX12 flX12_267 (by decide) (wsh hW rfl) rfl (fun _ _ => rfl) rfl rfl ?_
      refine V_nm (fun σ33 eσ33 => ?_)
      replace h := h σ33 eσ33
      have hW := wire_I eσ33 hW
      refine V_aload_n 32 1 rfl rfl rfl ?_
      refine V_iload_n 33 2 rfl rfl rfl ?_
      refine V_putI 34 42 rfl clX12 flX12_255 (by decide) (wsh hW rfl) rfl (fun _ _ => rfl) rfl rfl ?_
      refine V_nm (fun σ34 eσ34 => ?_)
      replace h := h σ34 eσ34
      have hW := wire_I eσ34 hW
      refine V_goto 35 (tgt := 209) rfl (by decide) ?_
      exact V_vret 104 rfl rfl ⟨hW, rfl, h⟩
  have k_l5 : ∀ (n : Nat) (x1 : Int32)  (σ : ab_S), Wire σ → wX12_advance_l5 Q E (wX12_advance_j31 Q E) n x1 σ → V l mdX12_advance B 2 42 0 0 (ab_End (fun v σ' => Wire σ' ∧ v = none ∧ Q σ') (fun X σ' => Wire σ' ∧ E X σ')) 5 [(0, .ref 92), (1, .int x1)] [] σ := by
    have step : ∀ (K31 : Int32 → ab_S → Prop) (k_K31 : ∀ (x1 : Int32)  (σ : ab_S), Wire σ → K31 x1 σ → V l mdX12_advance B 2 42 0 0 (ab_End (fun v σ' => Wire σ' ∧ v = none ∧ Q σ') (fun X σ' => Wire σ' ∧ E X σ')) 31 [(0, .ref 92), (1, .int x1)] [] σ), ∀ (Bk : Int32 → ab_S → Prop) (k_Bk : ∀ (x1 : Int32)  (σ : ab_S), Wire σ → Bk x1 σ → V l mdX12_advance B 2 42 0 0 (ab_End (fun v σ' => Wire σ' ∧ v = none ∧ Q σ') (fun X σ' => Wire σ' ∧ E X σ')) 5 [(0, .ref 92), (1, .int x1)] [] σ), ∀ (x1 : Int32)  (σ : ab_S), Wire σ → wX12_advance_l5_b Q E K31 Bk x1 σ → V l mdX12_advance B 2 42 0 0 (ab_End (fun v σ' => Wire σ' ∧ v = none ∧ Q σ') (fun X σ' => Wire σ' ∧ E X σ')) 5 [(0, .ref 92), (1, .int x1)] [] σ := by
      intro K31 k_K31 Bk k_Bk
      have k_j25 : ∀ (x1 : Int32)  (σ : ab_S), Wire σ → wX12_advance_j25 Q E K31 Bk x1 σ → V l mdX12_advance B 2 42 0 0 (ab_End (fun v σ' => Wire σ' ∧ v = none ∧ Q σ') (fun X σ' => Wire σ' ∧ E X σ')) 25 [(0, .ref 92), (1, .int x1)] [] σ := by
        intro x1  σ hW h
        obtain ⟨v35, ev35⟩ : ∃ z : Int32, z = (x1 + 1) := ⟨_, rfl⟩
        replace h := h v35 ev35
        refine V_iinc 13 1 (v := v35) (lv' := [(1, .int v35), (0, .ref 92)]) rfl rfl ((in_1 _).trans ev35.symm) (by decide) rfl ?_
        refine V_goto 14 (tgt := 5) rfl (by decide) ?_
        refine V_sub [1, 0] (lv' := [(0, .ref 92), (1, .int v35)]) rfl ?_
        exact k_Bk v35  σ hW h
      intro x1  σ hW h
      refine V_aload_n 3 0 rfl rfl rfl ?_
      refine V_iload_n 4 1 rfl rfl rfl ?_
      refine V_callV 5 1 (as := [.int x1]) (rest := []) rfl mlX12_260 yvX12_signAt rfl rfl clX12 (wsh hW rfl) (by decide) (by decide) (Nat.le_of_ble_eq_true rfl) (by decide) (by decide) (fun B9 => ceX12_signAt hl B9 hW h) (fun X9 τ9 h9 => VX_out rfl h9) ?_
      rintro v9 σ36 ⟨hW, u37, rfl, h⟩
      refine V_bipush 6 (v := (32 : Int32)) rfl (by decide) ?_
      refine V_icmp_eq 7 (tgt := 25) rfl (by decide) (fun hc => ?_) (fun hc => ?_)
      · replace h := h.1 hc
        exact k_j25 x1 σ36 hW h
      · replace h := h.2 hc
        refine V_pc 15 rfl ?_
        refine V_aload_n 8 0 rfl rfl rfl ?_
        refine V_iload_n 9 1 rfl rfl rfl ?_
        refine V_callV 10 1 (as := [.int x1]) (rest := []) rfl mlX12_260 yvX12_signAt rfl rfl clX12 (wsh hW rfl) (by decide) (by decide) (Nat.le_of_ble_eq_true rfl) (by decide) (by decide) (fun B9 => ceX12_signAt hl B9 hW h) (fun X9 τ9 h9 => VX_out rfl h9) ?_
        rintro v9 σ38 ⟨hW, u39, rfl, h⟩
        refine V_bipush 11 (v := (10 : Int32)) rfl (by decide) ?_
        refine V_icmp_ne 12 (tgt := 31) rfl (by decide) (fun hc => ?_) (fun hc => ?_)
        · replace h := h.1 hc
          exact k_K31 x1  σ38 hW h
        · replace h := h.2 hc
          refine V_pc 25 rfl ?_
          exact k_j25 x1 σ38 hW h
    intro n
    induction n with
    | zero => intro x1  σ hW h; exact absurd h id
    | succ n ih => exact step _ k_j31 _ ih
  intro σ hW h
  refine V_aload_n 0 0 rfl rfl rfl ?_
  refine V_get (v := .int (σ.2.1 92 42)) 1 42 rfl clX12 flX12_255 (by decide) (wsh hW rfl) (fun _ => rfl) ?_
  refine V_topi (fun v40 ev40 => ?_)
  replace h := h v40 ev40
  refine V_istore_n 2 (lv' := [(1, .int v40), (0, .ref 92)]) rfl rfl (by decide) rfl ?_
  refine V_sub [1, 0] (lv' := [(0, .ref 92), (1, .int v40)]) rfl ?_
  obtain ⟨n, h⟩ := h
  exact k_l5 n v40 σ hW h
