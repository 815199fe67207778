def wX12_change_j206 (a0 : Int32) (a1 : Int32) (Q : Int32 → ab_S → Prop) (E : String → ab_S → Prop) (Bk : Int32 → Int32 → ab_S → Prop) (x5 : Int32) (y0 : Int32) (σ : ab_S) : Prop := ∀ v1 : Int32, v1 = (x5 + 1) → Bk y0 v1 σ
def wX12_change_j197 (a0 : Int32) (a1 : Int32) (Q : Int32 → ab_S → Prop) (E : String → ab_S → Prop) (Bk : Int32 → Int32 → ab_S → Prop) (x4 : Int32) (x5 : Int32) (σ : ab_S) : Prop := wX12_change_j206 a0 a1 Q E Bk x5 (x4 + (1 : Int32)) σ
def wX12_change_l151_b (a0 : Int32) (a1 : Int32) (Q : Int32 → ab_S → Prop) (E : String → ab_S → Prop) (Bk : Int32 → Int32 → ab_S → Prop) (x4 : Int32) (x5 : Int32) (σ : ab_S) : Prop := ((((8 : Int32) * (σ.2.1 92 53)) ≤ x5) → Q x4 σ) ∧ (¬ (((8 : Int32) * (σ.2.1 92 53)) ≤ x5) → vp_in x5 2000 ∧ (vp_in x5 2000 ∧ (((¬ (σ.2.1 141 x5.toNatClampNeg) = (σ.2.1 143 x5.toNatClampNeg)) → wX12_change_j197 a0 a1 Q E Bk x4 x5 σ) ∧ (¬ (¬ (σ.2.1 141 x5.toNatClampNeg) = (σ.2.1 143 x5.toNatClampNeg)) → vp_in x5 2000 ∧ (vp_in x5 2000 ∧ ((((σ.2.1 139 x5.toNatClampNeg) = (σ.2.1 142 x5.toNatClampNeg)) → wX12_change_j206 a0 a1 Q E Bk x5 x4 σ) ∧ (¬ ((σ.2.1 139 x5.toNatClampNeg) = (σ.2.1 142 x5.toNatClampNeg)) → wX12_change_j197 a0 a1 Q E Bk x4 x5 σ)))))))
def wX12_change_l151 (a0 : Int32) (a1 : Int32) (Q : Int32 → ab_S → Prop) (E : String → ab_S → Prop) : Nat → Int32 → Int32 → ab_S → Prop
  | 0, _, _, _ => False
  | n + 1, x4, x5, σ => wX12_change_l151_b a0 a1 Q E (wX12_change_l151 a0 a1 Q E n) x4 x5 σ
def wX12_change_j134 (a0 : Int32) (a1 : Int32) (Q : Int32 → ab_S → Prop) (E : String → ab_S → Prop)  (σ : ab_S) : Prop := vp_in a0 251 ∧ (∀ σ2 : ab_S, σ2 = ab_I σ 131 a0.toNatClampNeg a1 → wX12_evaluate (fun σ3 => ∃ n, wX12_change_l151 a0 a1 Q E n (0 : Int32) (0 : Int32) σ3) E σ2)
def wX12_change_l92_b (a0 : Int32) (a1 : Int32) (Q : Int32 → ab_S → Prop) (E : String → ab_S → Prop) (K134 : ab_S → Prop) (Bk : Int32 → ab_S → Prop) (x4 : Int32) (σ : ab_S) : Prop := (((2000 : Int32) ≤ x4) → K134 σ) ∧ (¬ ((2000 : Int32) ≤ x4) → vp_in x4 2000 ∧ (vp_in x4 2000 ∧ (∀ σ4 : ab_S, σ4 = ab_I σ 142 x4.toNatClampNeg (σ.2.1 139 x4.toNatClampNeg) → vp_in x4 2000 ∧ (vp_in x4 2000 ∧ (∀ σ5 : ab_S, σ5 = ab_I σ4 143 x4.toNatClampNeg (vp_nar .boolean (σ4.2.1 141 x4.toNatClampNeg)) → ∀ v6 : Int32, v6 = (x4 + 1) → Bk v6 σ5)))))
def wX12_change_l92 (a0 : Int32) (a1 : Int32) (Q : Int32 → ab_S → Prop) (E : String → ab_S → Prop) (K134 : ab_S → Prop) : Nat → Int32 → ab_S → Prop
  | 0, _, _ => False
  | n + 1, x4, σ => wX12_change_l92_b a0 a1 Q E K134 (wX12_change_l92 a0 a1 Q E K134 n) x4 σ
def wX12_change_j81 (a0 : Int32) (a1 : Int32) (Q : Int32 → ab_S → Prop) (E : String → ab_S → Prop) (y0 : Int32) (y1 : Int32) (y2 : Int32) (σ : ab_S) : Prop := wX12_refuse y2 y1 y0 (fun u8 σ7 => ((u8 = 0) → ∃ n, wX12_change_l92 a0 a1 Q E (wX12_change_j134 a0 a1 Q E) n (0 : Int32) σ7) ∧ (¬ (u8 = 0) → Q (0 : Int32) σ7)) E σ
def wX12_change_j80 (a0 : Int32) (a1 : Int32) (Q : Int32 → ab_S → Prop) (E : String → ab_S → Prop) (y0 : Int32) (y1 : Int32) (σ : ab_S) : Prop := wX12_change_j81 a0 a1 Q E (0 : Int32) y0 y1 σ
def wX12_change_j71 (a0 : Int32) (a1 : Int32) (Q : Int32 → ab_S → Prop) (E : String → ab_S → Prop) (y0 : Int32) (y3 : Int32) (y4 : Int32) (σ : ab_S) : Prop := vp_in y0 251 ∧ (vp_in (σ.2.1 128 y0.toNatClampNeg) 31 ∧ (((¬ (σ.2.1 102 (σ.2.1 128 y0.toNatClampNeg).toNatClampNeg) = 0) → wX12_change_j80 a0 a1 Q E y3 y4 σ) ∧ (¬ (¬ (σ.2.1 102 (σ.2.1 128 y0.toNatClampNeg).toNatClampNeg) = 0) → wX12_change_j81 a0 a1 Q E (1 : Int32) y3 y4 σ)))
def wX12_change_j50 (a0 : Int32) (a1 : Int32) (Q : Int32 → ab_S → Prop) (E : String → ab_S → Prop) (x3 : Int32) (y0 : Int32) (y1 : Int32) (σ : ab_S) : Prop := ((x3 = 0) → wX12_change_j80 a0 a1 Q E y0 y1 σ) ∧ (¬ (x3 = 0) → ((x3 = 0) → wX12_change_j71 a0 a1 Q E (0 : Int32) y0 y1 σ) ∧ (¬ (x3 = 0) → wX12_change_j71 a0 a1 Q E a0 y0 y1 σ))
def wX12_change_j49 (a0 : Int32) (a1 : Int32) (Q : Int32 → ab_S → Prop) (E : String → ab_S → Prop) (x3 : Int32) (y0 : Int32) (σ : ab_S) : Prop := wX12_change_j50 a0 a1 Q E x3 (0 : Int32) y0 σ
def wX12_change_j34 (a0 : Int32) (a1 : Int32) (Q : Int32 → ab_S → Prop) (E : String → ab_S → Prop) (x3 : Int32) (y0 : Int32) (σ : ab_S) : Prop := (((σ.2.1 92 52) = 0) → wX12_change_j49 a0 a1 Q E x3 y0 σ) ∧ (¬ ((σ.2.1 92 52) = 0) → ((¬ x3 = 0) → wX12_change_j49 a0 a1 Q E x3 y0 σ) ∧ (¬ (¬ x3 = 0) → wX12_change_j50 a0 a1 Q E x3 (1 : Int32) y0 σ))
def wX12_change_j20 (a0 : Int32) (a1 : Int32) (Q : Int32 → ab_S → Prop) (E : String → ab_S → Prop) (y0 : Int32) (σ : ab_S) : Prop := ((¬ (σ.2.1 92 52) = 0) → wX12_change_j34 a0 a1 Q E y0 (0 : Int32) σ) ∧ (¬ (¬ (σ.2.1 92 52) = 0) → wX12_change_j34 a0 a1 Q E y0 (1 : Int32) σ)
def wX12_change_j19 (a0 : Int32) (a1 : Int32) (Q : Int32 → ab_S → Prop) (E : String → ab_S → Prop)  (σ : ab_S) : Prop := wX12_change_j20 a0 a1 Q E (0 : Int32) σ
def wX12_change (a0 : Int32) (a1 : Int32) (Q : Int32 → ab_S → Prop) (E : String → ab_S → Prop) (σ : ab_S) : Prop := (((σ.2.1 92 52) = 0) → wX12_change_j19 a0 a1 Q E σ) ∧ (¬ ((σ.2.1 92 52) = 0) → wX12_isNode a0 (fun u10 σ9 => ((u10 = 0) → wX12_change_j19 a0 a1 Q E σ9) ∧ (¬ (u10 = 0) → wX12_change_j20 a0 a1 Q E (1 : Int32) σ9)) E σ)
set_option maxHeartbeats 4000000 in
set_option maxRecDepth 100000 in
theorem ceX12_change {l : Launch} (hl : l.stackTraces = false) (B : Nat) {a0 : Int32} {a1 : Int32}  {Q : Int32 → ab_S → Prop} {E : String → ab_S → Prop} {σ : ab_S} (hW : Wire σ) (h : wX12_change a0 a1 Q E σ) : ab_Mt l yX12_change mdX12_change B 4 98 0 0 [.ref 92, .int a0, .int a1] σ (fun v σ' => Wire σ' ∧ ∃ r : Int32, v = some (.int r) ∧ Q r σ') (fun X σ' => Wire σ' ∧ E X σ') := by
  refine V_met hl ⟨rfl, rfl, by decide⟩ rfl dkX12_change (Nat.le_of_ble_eq_true rfl) ?_
  show V l mdX12_change B 4 98 0 0 (ab_End _ _) 0 [(0, .ref 92), (1, .int a0), (2, .int a1)] [] σ
  revert h hW
  revert σ
  have k_l151 : ∀ (n : Nat) (x4 : Int32) (x5 : Int32)  (σ : ab_S), Wire σ → wX12_change_l151 a0 a1 Q E n x4 x5 σ → V l mdX12_change B 4 98 0 0 (ab_End (fun v σ' => Wire σ' ∧ ∃ r : Int32, v = some (.int r) ∧ Q r σ') (fun X σ' => Wire σ' ∧ E X σ')) 151 [(0, .ref 92), (4, .int x4), (5, .int x5)] [] σ := by
    have step : ∀ (Bk : Int32 → Int32 → ab_S → Prop) (k_Bk : ∀ (x4 : Int32) (x5 : Int32)  (σ : ab_S), Wire σ → Bk x4 x5 σ → V l mdX12_change B 4 98 0 0 (ab_End (fun v σ' => Wire σ' ∧ ∃ r : Int32, v = some (.int r) ∧ Q r σ') (fun X σ' => Wire σ' ∧ E X σ')) 151 [(0, .ref 92), (4, .int x4), (5, .int x5)] [] σ), ∀ (x4 : Int32) (x5 : Int32)  (σ : ab_S), Wire σ → wX12_change_l151_b a0 a1 Q E Bk x4 x5 σ → V l mdX12_change B 4 98 0 0 (ab_End (fun v σ' => Wire σ' ∧ ∃ r : Int32, v = some (.int r) ∧ Q r σ') (fun X σ' => Wire σ' ∧ E X σ')) 151 [(0, .ref 92), (4, .int x4), (5, .int x5)] [] σ := by
      intro Bk k_Bk
      have k_j206 : ∀ (x5 : Int32) (y0 : Int32)  (σ : ab_S), Wire σ → wX12_change_j206 a0 a1 Q E Bk x5 y0 σ → V l mdX12_change B 4 98 0 0 (ab_End (fun v σ' => Wire σ' ∧ ∃ r : Int32, v = some (.int r) ∧ Q r σ') (fun X σ' => Wire σ' ∧ E X σ')) 206 [(0, .ref 92), (5, .int x5)] [.int y0] σ := by
        intro x5 y0  σ hW h
        refine V_istore 110 (lv' := [(4, .int y0), (0, .ref 92), (5, .int x5)]) rfl (by decide) rfl ?_
        obtain ⟨v1, ev1⟩ : ∃ z : Int32, z = (x5 + 1) := ⟨_, rfl⟩
        replace h := h v1 ev1
        refine V_iinc 111 2 (v := v1) (lv' := [(5, .int v1), (4, .int y0), (0, .ref 92)]) rfl rfl ((in_1 _).trans ev1.symm) (by decide) rfl ?_
        refine V_goto 112 (tgt := 151) rfl (by decide) ?_
        refine V_sub [2, 1, 0] (lv' := [(0, .ref 92), (4, .int y0), (5, .int v1)]) rfl ?_
        exact k_Bk y0 v1  σ hW h
      have k_j197 : ∀ (x4 : Int32) (x5 : Int32)  (σ : ab_S), Wire σ → wX12_change_j197 a0 a1 Q E Bk x4 x5 σ → V l mdX12_change B 4 98 0 0 (ab_End (fun v σ' => Wire σ' ∧ ∃ r : Int32, v = some (.int r) ∧ Q r σ') (fun X σ' => Wire σ' ∧ E X σ')) 197 [(0, .ref 92), (4, .int x4), (5, .int x5)] [] σ := by
        intro x4 x5  σ hW h
        refine V_iload 105 1 rfl rfl ?_
        refine V_iconst 106 (v := (1 : Int32)) rfl (by decide) ?_
        refine V_iadd 107 rfl ?_
        refine V_goto 108 (tgt := 206) rfl (by decide) ?_
        refine V_sub [0, 2] (lv' := [(0, .ref 92), (5, .int x5)]) rfl ?_
        exact k_j206 x5 (x4 + (1 : Int32)) σ hW h
      intro x4 x5  σ hW h
      refine V_iload 81 2 rfl rfl ?_
      refine V_bipush 82 (v := (8 : Int32)) rfl (by decide) ?_
      refine V_aload_n 83 0 rfl rfl rfl ?_
      refine V_get (v := .int (σ.2.1 92 53)) 84 53 rfl clX12 flX12_521 (by decide) (wsh hW rfl) (fun _ => rfl) ?_
      refine V_imul 85 rfl ?_
      refine V_icmp_ge 86 (tgt := 214) rfl (by decide) (fun hc => ?_) (fun hc => ?_)
      · replace h := h.1 hc
        refine V_iload 113 1 rfl rfl ?_
        exact V_iret 114 rfl rfl ⟨hW, _, rfl, h⟩
      · replace h := h.2 hc
        refine V_pc 163 rfl ?_
        refine V_aload_n 87 0 rfl rfl rfl ?_
        refine V_getR 88 69 rfl clX12 flX12_156 (by decide) (wsh hW rfl) (fun _ => rfl) (wrf hW 142 rfl) ?_
        refine V_iload 89 2 rfl rfl ?_
        obtain ⟨hin, h⟩ := h
        refine V_zald 90 rfl (wsh hW rfl) hin ?_
        refine V_aload_n 91 0 rfl rfl rfl ?_
        refine V_getR 92 71 rfl clX12 flX12_162 (by decide) (wsh hW rfl) (fun _ => rfl) (wrf hW 144 rfl) ?_
        refine V_pc 174 rfl ?_
        refine V_iload 93 2 rfl rfl ?_
        obtain ⟨hin, h⟩ := h
        refine V_zald 94 rfl (wsh hW rfl) hin ?_
        refine V_icmp_ne 95 (tgt := 197) rfl (by decide) (fun hc => ?_) (fun hc => ?_)
        · replace h := h.1 hc
          exact k_j197 x4 x5 σ hW h
        · replace h := h.2 hc
          refine V_pc 180 rfl ?_
          refine V_aload_n 96 0 rfl rfl rfl ?_
          refine V_getR 97 67 rfl clX12 flX12_150 (by decide) (wsh hW rfl) (fun _ => rfl) (wrf hW 140 rfl) ?_
          refine V_iload 98 2 rfl rfl ?_
          obtain ⟨hin, h⟩ := h
          refine V_iald 99 rfl (wsh hW rfl) hin ?_
          refine V_aload_n 100 0 rfl rfl rfl ?_
          refine V_getR 101 70 rfl clX12 flX12_159 (by decide) (wsh hW rfl) (fun _ => rfl) (wrf hW 143 rfl) ?_
          refine V_pc 191 rfl ?_
          refine V_iload 102 2 rfl rfl ?_
          obtain ⟨hin, h⟩ := h
          refine V_iald 103 rfl (wsh hW rfl) hin ?_
          refine V_icmp_eq 104 (tgt := 204) rfl (by decide) (fun hc => ?_) (fun hc => ?_)
          · replace h := h.1 hc
            refine V_iload 109 1 rfl rfl ?_
            refine V_sub [0, 2] (lv' := [(0, .ref 92), (5, .int x5)]) rfl ?_
            exact k_j206 x5 x4 σ hW h
          · replace h := h.2 hc
            refine V_pc 197 rfl ?_
            exact k_j197 x4 x5 σ hW h
    intro n
    induction n with
    | zero => intro x4 x5  σ hW h; exact absurd h id
    | succ n ih => exact step  _ ih
  have k_j134 : ∀   (σ : ab_S), Wire σ → wX12_change_j134 a0 a1 Q E  σ → V l mdX12_change B 4 98 0 0 (ab_End (fun v σ' => Wire σ' ∧ ∃ r : Int32, v = some (.int r) ∧ Q r σ') (fun X σ' => Wire σ' ∧ E X σ')) 134 [(0, .ref 92), (1, .int a0), (2, .int a1)] [] σ := by
    intro   σ hW h
    refine V_aload_n 70 0 rfl rfl rfl ?_
    refine V_getR 71 57 rfl clX12 flX12_126 (by decide) (wsh hW rfl) (fun _ => rfl) (wrf hW 132 rfl) ?_
    refine V_iload_n 72 1 rfl rfl rfl ?_
    refine V_iload_n 73 2 rfl rfl rfl ?_
    obtain ⟨hin, h⟩ := h
    refine V_iast 74 rfl (wsh hW rfl) hin ?_
    refine V_nm (fun σ2 eσ2 => ?_)
    replace h := h σ2 eσ2
    have hW := wire_I eσ2 hW
    refine V_aload_n 75 0 rfl rfl rfl ?_
    refine V_pc 142 rfl ?_
    refine V_callV 76 0 (as := []) (rest := []) rfl mlX12_524 yvX12_evaluate rfl rfl clX12 (wsh hW rfl) (by decide) (by decide) (Nat.le_of_ble_eq_true rfl) (by decide) (by decide) (fun B9 => ceX12_evaluate hl B9 hW h) (fun X9 τ9 h9 => VX_out rfl h9) ?_
    rintro v9 σ3 ⟨hW, rfl, h⟩
    refine V_iconst 77 (v := (0 : Int32)) rfl (by decide) ?_
    refine V_istore 78 (lv' := [(4, .int (0 : Int32)), (0, .ref 92), (1, .int a0), (2, .int a1)]) rfl (by decide) rfl ?_
    refine V_iconst 79 (v := (0 : Int32)) rfl (by decide) ?_
    refine V_istore 80 (lv' := [(5, .int (0 : Int32)), (4, .int (0 : Int32)), (0, .ref 92), (1, .int a0), (2, .int a1)]) rfl (by decide) rfl ?_
    refine V_sub [2, 1, 0] (lv' := [(0, .ref 92), (4, .int (0 : Int32)), (5, .int (0 : Int32))]) rfl ?_
    obtain ⟨n, h⟩ := h
    exact k_l151 n (0 : Int32) (0 : Int32) σ3 hW h
  have k_l92 : ∀ (n : Nat) (x4 : Int32)  (σ : ab_S), Wire σ → wX12_change_l92 a0 a1 Q E (wX12_change_j134 a0 a1 Q E) n x4 σ → V l mdX12_change B 4 98 0 0 (ab_End (fun v σ' => Wire σ' ∧ ∃ r : Int32, v = some (.int r) ∧ Q r σ') (fun X σ' => Wire σ' ∧ E X σ')) 92 [(0, .ref 92), (1, .int a0), (2, .int a1), (4, .int x4)] [] σ := by
    have step : ∀ (K134 : ab_S → Prop) (k_K134 : ∀   (σ : ab_S), Wire σ → K134  σ → V l mdX12_change B 4 98 0 0 (ab_End (fun v σ' => Wire σ' ∧ ∃ r : Int32, v = some (.int r) ∧ Q r σ') (fun X σ' => Wire σ' ∧ E X σ')) 134 [(0, .ref 92), (1, .int a0), (2, .int a1)] [] σ), ∀ (Bk : Int32 → ab_S → Prop) (k_Bk : ∀ (x4 : Int32)  (σ : ab_S), Wire σ → Bk x4 σ → V l mdX12_change B 4 98 0 0 (ab_End (fun v σ' => Wire σ' ∧ ∃ r : Int32, v = some (.int r) ∧ Q r σ') (fun X σ' => Wire σ' ∧ E X σ')) 92 [(0, .ref 92), (1, .int a0), (2, .int a1), (4, .int x4)] [] σ), ∀ (x4 : Int32)  (σ : ab_S), Wire σ → wX12_change_l92_b a0 a1 Q E K134 Bk x4 σ → V l mdX12_change B 4 98 0 0 (ab_End (fun v σ' => Wire σ' ∧ ∃ r : Int32, v = some (.int r) ∧ Q r σ') (fun X σ' => Wire σ' ∧ E X σ')) 92 [(0, .ref 92), (1, .int a0), (2, .int a1), (4, .int x4)] [] σ := by
      intro K134 k_K134 Bk k_Bk
      intro x4  σ hW h
      refine V_iload 49 3 rfl rfl ?_
      refine V_sipush 50 (v := (2000 : Int32)) rfl (by decide) ?_
      refine V_icmp_ge 51 (tgt := 134) rfl (by decide) (fun hc => ?_) (fun hc => ?_)
      · replace h := h.1 hc
        refine V_sub [0, 1, 2] (lv' := [(0, .ref 92), (1, .int a0), (2, .int a1)]) rfl ?_
        exact k_K134  σ hW h
      · replace h := h.2 hc
        refine V_pc 100 rfl ?_
        refine V_aload_n 52 0 rfl rfl rfl ?_
        refine V_getR 53 70 rfl clX12 flX12_159 (by decide) (wsh hW rfl) (fun _ => rfl) (wrf hW 143 rfl) ?_
        refine V_iload 54 3 rfl rfl ?_
        refine V_aload_n 55 0 rfl rfl rfl ?_
        refine V_getR 56 67 rfl clX12 flX12_150 (by decide) (wsh hW rfl) (fun _ => rfl) (wrf hW 140 rfl) ?_
        refine V_iload 57 3 rfl rfl ?_
        refine V_pc 112 rfl ?_
        obtain ⟨hin, h⟩ := h
        refine V_iald 58 rfl (wsh hW rfl) hin ?_
        obtain ⟨hin, h⟩ := h
        refine V_iast 59 rfl (wsh hW rfl) hin ?_
        refine V_nm (fun σ4 eσ4 => ?_)
        replace h := h σ4 eσ4
        have hW := wire_I eσ4 hW
        refine V_aload_n 60 0 rfl rfl rfl ?_
        refine V_getR 61 71 rfl clX12 flX12_162 (by decide) (wsh hW rfl) (fun _ => rfl) (wrf hW 144 rfl) ?_
        refine V_iload 62 3 rfl rfl ?_
        refine V_aload_n 63 0 rfl rfl rfl ?_
        refine V_pc 121 rfl ?_
        refine V_getR 64 69 rfl clX12 flX12_156 (by decide) (wsh hW rfl) (fun _ => rfl) (wrf hW 142 rfl) ?_
        refine V_iload 65 3 rfl rfl ?_
        obtain ⟨hin, h⟩ := h
        refine V_zald 66 rfl (wsh hW rfl) hin ?_
        obtain ⟨hin, h⟩ := h
        refine V_zast 67 rfl (wsh hW rfl) hin ?_
        refine V_nm (fun σ5 eσ5 => ?_)
        replace h := h σ5 eσ5
        have hW := wire_I eσ5 hW
        obtain ⟨v6, ev6⟩ : ∃ z : Int32, z = (x4 + 1) := ⟨_, rfl⟩
        replace h := h v6 ev6
        refine V_iinc 68 3 (v := v6) (lv' := [(4, .int v6), (0, .ref 92), (1, .int a0), (2, .int a1)]) rfl rfl ((in_1 _).trans ev6.symm) (by decide) rfl ?_
        refine V_goto 69 (tgt := 92) rfl (by decide) ?_
        refine V_sub [1, 2, 3, 0] (lv' := [(0, .ref 92), (1, .int a0), (2, .int a1), (4, .int v6)]) rfl ?_
        exact k_Bk v6  σ5 hW h
    intro n
    induction n with
    | zero => intro x4  σ hW h; exact absurd h id
    | succ n ih => exact step _ k_j134 _ ih
  have k_j81 : ∀ (y0 : Int32) (y1 : Int32) (y2 : Int32)  (σ : ab_S), Wire σ → wX12_change_j81 a0 a1 Q E y0 y1 y2 σ → V l mdX12_change B 4 98 0 0 (ab_End (fun v σ' => Wire σ' ∧ ∃ r : Int32, v = some (.int r) ∧ Q r σ') (fun X σ' => Wire σ' ∧ E X σ')) 81 [(0, .ref 92), (1, .int a0), (2, .int a1)] [.int y0, .int y1, .int y2, .ref 92] σ := by
    intro y0 y1 y2  σ hW h
    refine V_callV 43 3 (as := [.int y2, .int y1, .int y0]) (rest := []) rfl mlX12_245 yvX12_refuse rfl rfl clX12 (wsh hW rfl) (by decide) (by decide) (Nat.le_of_ble_eq_true rfl) (by decide) (by decide) (fun B9 => ceX12_refuse hl B9 hW h) (fun X9 τ9 h9 => VX_out rfl h9) ?_
    rintro v9 σ7 ⟨hW, u8, rfl, h⟩
    refine V_if_eq 44 (tgt := 89) rfl (by decide) (fun hc => ?_) (fun hc => ?_)
    · replace h := h.1 hc
      refine V_iconst 47 (v := (0 : Int32)) rfl (by decide) ?_
      refine V_istore 48 (lv' := [(4, .int (0 : Int32)), (0, .ref 92), (1, .int a0), (2, .int a1)]) rfl (by decide) rfl ?_
      refine V_sub [1, 2, 3, 0] (lv' := [(0, .ref 92), (1, .int a0), (2, .int a1), (4, .int (0 : Int32))]) rfl ?_
      obtain ⟨n, h⟩ := h
      exact k_l92 n (0 : Int32) σ7 hW h
    · replace h := h.2 hc
      refine V_pc 87 rfl ?_
      refine V_iconst 45 (v := (0 : Int32)) rfl (by decide) ?_
      exact V_iret 46 rfl rfl ⟨hW, _, rfl, h⟩
  have k_j80 : ∀ (y0 : Int32) (y1 : Int32)  (σ : ab_S), Wire σ → wX12_change_j80 a0 a1 Q E y0 y1 σ → V l mdX12_change B 4 98 0 0 (ab_End (fun v σ' => Wire σ' ∧ ∃ r : Int32, v = some (.int r) ∧ Q r σ') (fun X σ' => Wire σ' ∧ E X σ')) 80 [(0, .ref 92), (1, .int a0), (2, .int a1)] [.int y0, .int y1, .ref 92] σ := by
    intro y0 y1  σ hW h
    refine V_iconst 42 (v := (0 : Int32)) rfl (by decide) ?_
    exact k_j81 (0 : Int32) y0 y1 σ hW h
  have k_j71 : ∀ (y0 : Int32) (y3 : Int32) (y4 : Int32)  (σ : ab_S), Wire σ → wX12_change_j71 a0 a1 Q E y0 y3 y4 σ → V l mdX12_change B 4 98 0 0 (ab_End (fun v σ' => Wire σ' ∧ ∃ r : Int32, v = some (.int r) ∧ Q r σ') (fun X σ' => Wire σ' ∧ E X σ')) 71 [(0, .ref 92), (1, .int a0), (2, .int a1)] [.int y0, .ref 128, .ref 102, .int y3, .int y4, .ref 92] σ := by
    intro y0 y3 y4  σ hW h
    obtain ⟨hin, h⟩ := h
    refine V_iald 37 rfl (wsh hW rfl) hin ?_
    obtain ⟨hin, h⟩ := h
    refine V_zald 38 rfl (wsh hW rfl) hin ?_
    refine V_if_ne 39 (tgt := 80) rfl (by decide) (fun hc => ?_) (fun hc => ?_)
    · replace h := h.1 hc
      exact k_j80 y3 y4 σ hW h
    · replace h := h.2 hc
      refine V_pc 76 rfl ?_
      refine V_iconst 40 (v := (1 : Int32)) rfl (by decide) ?_
      refine V_goto 41 (tgt := 81) rfl (by decide) ?_
      exact k_j81 (1 : Int32) y3 y4 σ hW h
  have k_j50 : ∀ (x3 : Int32) (y0 : Int32) (y1 : Int32)  (σ : ab_S), Wire σ → wX12_change_j50 a0 a1 Q E x3 y0 y1 σ → V l mdX12_change B 4 98 0 0 (ab_End (fun v σ' => Wire σ' ∧ ∃ r : Int32, v = some (.int r) ∧ Q r σ') (fun X σ' => Wire σ' ∧ E X σ')) 50 [(0, .ref 92), (1, .int a0), (2, .int a1), (3, .int x3)] [.int y0, .int y1, .ref 92] σ := by
    intro x3 y0 y1  σ hW h
    refine V_iload_n 26 3 rfl rfl rfl ?_
    refine V_if_eq 27 (tgt := 80) rfl (by decide) (fun hc => ?_) (fun hc => ?_)
    · replace h := h.1 hc
      refine V_sub [0, 1, 2] (lv' := [(0, .ref 92), (1, .int a0), (2, .int a1)]) rfl ?_
      exact k_j80 y0 y1 σ hW h
    · replace h := h.2 hc
      refine V_pc 54 rfl ?_
      refine V_aload_n 28 0 rfl rfl rfl ?_
      refine V_getR 29 16 rfl clX12 flX12_38 (by decide) (wsh hW rfl) (fun _ => rfl) (wrf hW 103 rfl) ?_
      refine V_aload_n 30 0 rfl rfl rfl ?_
      refine V_getR 31 54 rfl clX12 flX12_117 (by decide) (wsh hW rfl) (fun _ => rfl) (wrf hW 129 rfl) ?_
      refine V_iload_n 32 3 rfl rfl rfl ?_
      refine V_if_eq 33 (tgt := 70) rfl (by decide) (fun hc => ?_) (fun hc => ?_)
      · replace h := h.1 hc
        refine V_iconst 36 (v := (0 : Int32)) rfl (by decide) ?_
        refine V_sub [0, 1, 2] (lv' := [(0, .ref 92), (1, .int a0), (2, .int a1)]) rfl ?_
        exact k_j71 (0 : Int32) y0 y1 σ hW h
      · replace h := h.2 hc
        refine V_pc 66 rfl ?_
        refine V_iload_n 34 1 rfl rfl rfl ?_
        refine V_goto 35 (tgt := 71) rfl (by decide) ?_
        refine V_sub [0, 1, 2] (lv' := [(0, .ref 92), (1, .int a0), (2, .int a1)]) rfl ?_
        exact k_j71 a0 y0 y1 σ hW h
  have k_j49 : ∀ (x3 : Int32) (y0 : Int32)  (σ : ab_S), Wire σ → wX12_change_j49 a0 a1 Q E x3 y0 σ → V l mdX12_change B 4 98 0 0 (ab_End (fun v σ' => Wire σ' ∧ ∃ r : Int32, v = some (.int r) ∧ Q r σ') (fun X σ' => Wire σ' ∧ E X σ')) 49 [(0, .ref 92), (1, .int a0), (2, .int a1), (3, .int x3)] [.int y0, .ref 92] σ := by
    intro x3 y0  σ hW h
    refine V_iconst 25 (v := (0 : Int32)) rfl (by decide) ?_
    exact k_j50 x3 (0 : Int32) y0 σ hW h
  have k_j34 : ∀ (x3 : Int32) (y0 : Int32)  (σ : ab_S), Wire σ → wX12_change_j34 a0 a1 Q E x3 y0 σ → V l mdX12_change B 4 98 0 0 (ab_End (fun v σ' => Wire σ' ∧ ∃ r : Int32, v = some (.int r) ∧ Q r σ') (fun X σ' => Wire σ' ∧ E X σ')) 34 [(0, .ref 92), (1, .int a0), (2, .int a1), (3, .int x3)] [.int y0, .ref 92] σ := by
    intro x3 y0  σ hW h
    refine V_aload_n 18 0 rfl rfl rfl ?_
    refine V_get (v := .int (σ.2.1 92 52)) 19 52 rfl clX12 flX12_502 (by decide) (wsh hW rfl) (fun _ => rfl) ?_
    refine V_if_eq 20 (tgt := 49) rfl (by decide) (fun hc => ?_) (fun hc => ?_)
    · replace h := h.1 hc
      exact k_j49 x3 y0 σ hW h
    · replace h := h.2 hc
      refine V_pc 41 rfl ?_
      refine V_iload_n 21 3 rfl rfl rfl ?_
      refine V_if_ne 22 (tgt := 49) rfl (by decide) (fun hc => ?_) (fun hc => ?_)
      · replace h := h.1 hc
        exact k_j49 x3 y0 σ hW h
      · replace h := h.2 hc
        refine V_pc 45 rfl ?_
        refine V_iconst 23 (v := (1 : Int32)) rfl (by decide) ?_
        refine V_goto 24 (tgt := 50) rfl (by decide) ?_
        exact k_j50 x3 (1 : Int32) y0 σ hW h
  have k_j20 : ∀ (y0 : Int32)  (σ : ab_S), Wire σ → wX12_change_j20 a0 a1 Q E y0 σ → V l mdX12_change B 4 98 0 0 (ab_End (fun v σ' => Wire σ' ∧ ∃ r : Int32, v = some (.int r) ∧ Q r σ') (fun X σ' => Wire σ' ∧ E X σ')) 20 [(0, .ref 92), (1, .int a0), (2, .int a1)] [.int y0] σ := by
    intro y0  σ hW h
    refine V_istore_n 10 (lv' := [(3, .int y0), (0, .ref 92), (1, .int a0), (2, .int a1)]) rfl rfl (by decide) rfl ?_
    refine V_aload_n 11 1 rfl rfl rfl ?_
    refine V_aload_n 12 1 rfl rfl rfl ?_
    refine V_get (v := .int (σ.2.1 92 52)) 13 52 rfl clX12 flX12_502 (by decide) (wsh hW rfl) (fun _ => rfl) ?_
    refine V_if_ne 14 (tgt := 33) rfl (by decide) (fun hc => ?_) (fun hc => ?_)
    · replace h := h.1 hc
      refine V_iconst 17 (v := (0 : Int32)) rfl (by decide) ?_
      refine V_sub [1, 2, 3, 0] (lv' := [(0, .ref 92), (1, .int a0), (2, .int a1), (3, .int y0)]) rfl ?_
      exact k_j34 y0 (0 : Int32) σ hW h
    · replace h := h.2 hc
      refine V_pc 29 rfl ?_
      refine V_iconst 15 (v := (1 : Int32)) rfl (by decide) ?_
      refine V_goto 16 (tgt := 34) rfl (by decide) ?_
      refine V_sub [1, 2, 3, 0] (lv' := [(0, .ref 92), (1, .int a0), (2, .int a1), (3, .int y0)]) rfl ?_
      exact k_j34 y0 (1 : Int32) σ hW h
  have k_j19 : ∀   (σ : ab_S), Wire σ → wX12_change_j19 a0 a1 Q E  σ → V l mdX12_change B 4 98 0 0 (ab_End (fun v σ' => Wire σ' ∧ ∃ r : Int32, v = some (.int r) ∧ Q r σ') (fun X σ' => Wire σ' ∧ E X σ')) 19 [(0, .ref 92), (1, .int a0), (2, .int a1)] [] σ := by
    intro   σ hW h
    refine V_iconst 9 (v := (0 : Int32)) rfl (by decide) ?_
    exact k_j20 (0 : Int32) σ hW h
  intro σ hW h
  refine V_aload_n 0 0 rfl rfl rfl ?_
  refine V_get (v := .int (σ.2.1 92 52)) 1 52 rfl clX12 flX12_502 (by decide) (wsh hW rfl) (fun _ => rfl) ?_
  refine V_if_eq 2 (tgt := 19) rfl (by decide) (fun hc => ?_) (fun hc => ?_)
  · replace h := h.1 hc
    exact k_j19 σ hW h
  · replace h := h.2 hc
    refine V_pc 7 rfl ?_
    refine V_aload_n 3 0 rfl rfl rfl ?_
    refine V_iload_n 4 1 rfl rfl rfl ?_
    refine V_callV 5 1 (as := [.int a0]) (rest := []) rfl mlX12_548 yvX12_isNode rfl rfl clX12 (wsh hW rfl) (by decide) (by decide) (Nat.le_of_ble_eq_true rfl) (by decide) (by decide) (fun B9 => ceX12_isNode hl B9 hW h) (fun X9 τ9 h9 => VX_out rfl h9) ?_
    rintro v9 σ9 ⟨hW, u10, rfl, h⟩
    refine V_if_eq 6 (tgt := 19) rfl (by decide) (fun hc => ?_) (fun hc => ?_)
    · replace h := h.1 hc
      exact k_j19 σ9 hW h
    · replace h := h.2 hc
      refine V_pc 15 rfl ?_
      refine V_iconst 7 (v := (1 : Int32)) rfl (by decide) ?_
      refine V_goto 8 (tgt := 20) rfl (by decide) ?_
      exact k_j20 (1 : Int32) σ9 hW h

def wX12_code_j74 (a0 : Int32) (a1 : Int32) (Q : Int32 → ab_S → Prop) (E : String → ab_S → Prop) (y0 : Int32) (y1 : Int32) (y2 : Int32) (σ : ab_S) : Prop := wX12_refuse y2 y1 y0 (fun u2 σ1 => ((u2 = 0) → ((¬ a1 = 0) → vp_in a0 7000 ∧ (Q (σ1.2.1 147 a0.toNatClampNeg) σ1)) ∧ (¬ (¬ a1 = 0) → vp_in a0 7000 ∧ (Q (σ1.2.1 146 a0.toNatClampNeg) σ1))) ∧ (¬ (u2 = 0) → Q (0 : Int32) σ1)) E σ
def wX12_code_j73 (a0 : Int32) (a1 : Int32) (Q : Int32 → ab_S → Prop) (E : String → ab_S → Prop) (y0 : Int32) (y1 : Int32) (σ : ab_S) : Prop := wX12_code_j74 a0 a1 Q E (0 : Int32) y0 y1 σ
def wX12_code_j56 (a0 : Int32) (a1 : Int32) (Q : Int32 → ab_S → Prop) (E : String → ab_S → Prop) (x3 : Int32) (y0 : Int32) (y1 : Int32) (σ : ab_S) : Prop := ((x3 = 0) → wX12_code_j73 a0 a1 Q E y0 y1 σ) ∧ (¬ (x3 = 0) → wX12_in a1 (0 : Int32) (1 : Int32) (fun u4 σ3 => ((¬ u4 = 0) → wX12_code_j73 a0 a1 Q E y0 y1 σ3) ∧ (¬ (¬ u4 = 0) → wX12_code_j74 a0 a1 Q E (1 : Int32) y0 y1 σ3)) E σ)
def wX12_code_j55 (a0 : Int32) (a1 : Int32) (Q : Int32 → ab_S → Prop) (E : String → ab_S → Prop) (x3 : Int32) (y0 : Int32) (σ : ab_S) : Prop := wX12_code_j56 a0 a1 Q E x3 (0 : Int32) y0 σ
def wX12_code_j40 (a0 : Int32) (a1 : Int32) (Q : Int32 → ab_S → Prop) (E : String → ab_S → Prop) (x3 : Int32) (y0 : Int32) (σ : ab_S) : Prop := (((σ.2.1 92 4) = 0) → wX12_code_j55 a0 a1 Q E x3 y0 σ) ∧ (¬ ((σ.2.1 92 4) = 0) → ((¬ x3 = 0) → wX12_code_j55 a0 a1 Q E x3 y0 σ) ∧ (¬ (¬ x3 = 0) → wX12_code_j56 a0 a1 Q E x3 (1 : Int32) y0 σ))
def wX12_code_j26 (a0 : Int32) (a1 : Int32) (Q : Int32 → ab_S → Prop) (E : String → ab_S → Prop) (y0 : Int32) (σ : ab_S) : Prop := ((¬ (σ.2.1 92 4) = 0) → wX12_code_j40 a0 a1 Q E y0 (0 : Int32) σ) ∧ (¬ (¬ (σ.2.1 92 4) = 0) → wX12_code_j40 a0 a1 Q E y0 (1 : Int32) σ)
def wX12_code_j25 (a0 : Int32) (a1 : Int32) (Q : Int32 → ab_S → Prop) (E : String → ab_S → Prop)  (σ : ab_S) : Prop := wX12_code_j26 a0 a1 Q E (0 : Int32) σ
def wX12_code (a0 : Int32) (a1 : Int32) (Q : Int32 → ab_S → Prop) (E : String → ab_S → Prop) (σ : ab_S) : Prop := (((σ.2.1 92 4) = 0) → wX12_code_j25 a0 a1 Q E σ) ∧ (¬ ((σ.2.1 92 4) = 0) → wX12_in a0 (0 : Int32) ((σ.2.1 92 74) - (1 : Int32)) (fun u6 σ5 => ((u6 = 0) → wX12_code_j25 a0 a1 Q E σ5) ∧ (¬ (u6 = 0) → wX12_code_j26 a0 a1 Q E (1 : Int32) σ5)) E σ)
set_option maxHeartbeats 4000000 in
set_option maxRecDepth 100000 in
theorem ceX12_code {l : Launch} (hl : l.stackTraces = false) (B : Nat) {a0 : Int32} {a1 : Int32}  {Q : Int32 → ab_S → Prop} {E : String → ab_S → Prop} {σ : ab_S} (hW : Wire σ) (h : wX12_code a0 a1 Q E σ) : ab_Mt l yX12_code mdX12_code B 1 23 0 0 [.ref 92, .int a0, .int a1] σ (fun v σ' => Wire σ' ∧ ∃ r : Int32, v = some (.int r) ∧ Q r σ') (fun X σ' => Wire σ' ∧ E X σ') := by
  refine V_met hl ⟨rfl, rfl, by decide⟩ rfl dkX12_code (Nat.le_of_ble_eq_true rfl) ?_
  show V l mdX12_code B 1 23 0 0 (ab_End _ _) 0 [(0, .ref 92), (1, .int a0), (2, .int a1)] [] σ
  revert h hW
  revert σ
  have k_j74 : ∀ (y0 : Int32) (y1 : Int32) (y2 : Int32)  (σ : ab_S), Wire σ → wX12_code_j74 a0 a1 Q E y0 y1 y2 σ → V l mdX12_code B 1 23 0 0 (ab_End (fun v σ' => Wire σ' ∧ ∃ r : Int32, v = some (.int r) ∧ Q r σ') (fun X σ' => Wire σ' ∧ E X σ')) 74 [(0, .ref 92), (1, .int a0), (2, .int a1)] [.int y0, .int y1, .int y2, .ref 92] σ := by
    intro y0 y1 y2  σ hW h
    refine V_callV 40 3 (as := [.int y2, .int y1, .int y0]) (rest := []) rfl mlX12_245 yvX12_refuse rfl rfl clX12 (wsh hW rfl) (by decide) (by decide) (Nat.le_of_ble_eq_true rfl) (by decide) (by decide) (fun B9 => ceX12_refuse hl B9 hW h) (fun X9 τ9 h9 => VX_out rfl h9) ?_
    rintro v9 σ1 ⟨hW, u2, rfl, h⟩
    refine V_if_eq 41 (tgt := 82) rfl (by decide) (fun hc => ?_) (fun hc => ?_)
    · replace h := h.1 hc
      refine V_iload_n 44 2 rfl rfl rfl ?_
      refine V_if_ne 45 (tgt := 95) rfl (by decide) (fun hc => ?_) (fun hc => ?_)
      · replace h := h.1 hc
        refine V_aload_n 51 0 rfl rfl rfl ?_
        refine V_getR 52 76 rfl clX12 flX12_174 (by decide) (wsh hW rfl) (fun _ => rfl) (wrf hW 148 rfl) ?_
        refine V_iload_n 53 1 rfl rfl rfl ?_
        obtain ⟨hin, h⟩ := h
        refine V_iald 54 rfl (wsh hW rfl) hin ?_
        exact V_iret 55 rfl rfl ⟨hW, _, rfl, h⟩
      · replace h := h.2 hc
        refine V_pc 86 rfl ?_
        refine V_aload_n 46 0 rfl rfl rfl ?_
        refine V_getR 47 75 rfl clX12 flX12_171 (by decide) (wsh hW rfl) (fun _ => rfl) (wrf hW 147 rfl) ?_
        refine V_iload_n 48 1 rfl rfl rfl ?_
        obtain ⟨hin, h⟩ := h
        refine V_iald 49 rfl (wsh hW rfl) hin ?_
        refine V_goto 50 (tgt := 101) rfl (by decide) ?_
        exact V_iret 55 rfl rfl ⟨hW, _, rfl, h⟩
    · replace h := h.2 hc
      refine V_pc 80 rfl ?_
      refine V_iconst 42 (v := (0 : Int32)) rfl (by decide) ?_
      exact V_iret 43 rfl rfl ⟨hW, _, rfl, h⟩
  have k_j73 : ∀ (y0 : Int32) (y1 : Int32)  (σ : ab_S), Wire σ → wX12_code_j73 a0 a1 Q E y0 y1 σ → V l mdX12_code B 1 23 0 0 (ab_End (fun v σ' => Wire σ' ∧ ∃ r : Int32, v = some (.int r) ∧ Q r σ') (fun X σ' => Wire σ' ∧ E X σ')) 73 [(0, .ref 92), (1, .int a0), (2, .int a1)] [.int y0, .int y1, .ref 92] σ := by
    intro y0 y1  σ hW h
    refine V_iconst 39 (v := (0 : Int32)) rfl (by decide) ?_
    exact k_j74 (0 : Int32) y0 y1 σ hW h
  have k_j56 : ∀ (x3 : Int32) (y0 : Int32) (y1 : Int32)  (σ : ab_S), Wire σ → wX12_code_j56 a0 a1 Q E x3 y0 y1 σ → V l mdX12_code B 1 23 0 0 (ab_End (fun v σ' => Wire σ' ∧ ∃ r : Int32, v = some (.int r) ∧ Q r σ') (fun X σ' => Wire σ' ∧ E X σ')) 56 [(0, .ref 92), (1, .int a0), (2, .int a1), (3, .int x3)] [.int y0, .int y1, .ref 92] σ := by
    intro x3 y0 y1  σ hW h
    refine V_iload_n 30 3 rfl rfl rfl ?_
    refine V_if_eq 31 (tgt := 73) rfl (by decide) (fun hc => ?_) (fun hc => ?_)
    · replace h := h.1 hc
      refine V_sub [0, 1, 2] (lv' := [(0, .ref 92), (1, .int a0), (2, .int a1)]) rfl ?_
      exact k_j73 y0 y1 σ hW h
    · replace h := h.2 hc
      refine V_pc 60 rfl ?_
      refine V_iload_n 32 2 rfl rfl rfl ?_
      refine V_iconst 33 (v := (0 : Int32)) rfl (by decide) ?_
      refine V_iconst 34 (v := (1 : Int32)) rfl (by decide) ?_
      refine V_callS 35 3 (as := [.int a1, .int (0 : Int32), .int (1 : Int32)]) (rest := [.int y0, .int y1, .ref 92]) rfl mlX12_238 yvX12_in rfl rfl (by decide) (by decide) (Nat.le_of_ble_eq_true rfl) (by decide) (by decide) (fun B9 => ceX12_in hl B9 hW h) (fun X9 τ9 h9 => VX_out rfl h9) ?_
      rintro v9 σ3 ⟨hW, u4, rfl, h⟩
      refine V_if_ne 36 (tgt := 73) rfl (by decide) (fun hc => ?_) (fun hc => ?_)
      · replace h := h.1 hc
        refine V_sub [0, 1, 2] (lv' := [(0, .ref 92), (1, .int a0), (2, .int a1)]) rfl ?_
        exact k_j73 y0 y1 σ3 hW h
      · replace h := h.2 hc
        refine V_pc 69 rfl ?_
        refine V_iconst 37 (v := (1 : Int32)) rfl (by decide) ?_
        refine V_goto 38 (tgt := 74) rfl (by decide) ?_
        refine V_sub [0, 1, 2] (lv' := [(0, .ref 92), (1, .int a0), (2, .int a1)]) rfl ?_
        exact k_j74 (1 : Int32) y0 y1 σ3 hW h
  have k_j55 : ∀ (x3 : Int32) (y0 : Int32)  (σ : ab_S), Wire σ → wX12_code_j55 a0 a1 Q E x3 y0 σ → V l mdX12_code B 1 23 0 0 (ab_End (fun v σ' => Wire σ' ∧ ∃ r : Int32, v = some (.int r) ∧ Q r σ') (fun X σ' => Wire σ' ∧ E X σ')) 55 [(0, .ref 92), (1, .int a0), (2, .int a1), (3, .int x3)] [.int y0, .ref 92] σ := by
    intro x3 y0  σ hW h
    refine V_iconst 29 (v := (0 : Int32)) rfl (by decide) ?_
    exact k_j56 x3 (0 : Int32) y0 σ hW h
  have k_j40 : ∀ (x3 : Int32) (y0 : Int32)  (σ : ab_S), Wire σ → wX12_code_j40 a0 a1 Q E x3 y0 σ → V l mdX12_code B 1 23 0 0 (ab_End (fun v σ' => Wire σ' ∧ ∃ r : Int32, v = some (.int r) ∧ Q r σ') (fun X σ' => Wire σ' ∧ E X σ')) 40 [(0, .ref 92), (1, .int a0), (2, .int a1), (3, .int x3)] [.int y0, .ref 92] σ := by
    intro x3 y0  σ hW h
    refine V_aload_n 22 0 rfl rfl rfl ?_
    refine V_get (v := .int (σ.2.1 92 4)) 23 4 rfl clX12 flX12_452 (by decide) (wsh hW rfl) (fun _ => rfl) ?_
    refine V_if_eq 24 (tgt := 55) rfl (by decide) (fun hc => ?_) (fun hc => ?_)
    · replace h := h.1 hc
      exact k_j55 x3 y0 σ hW h
    · replace h := h.2 hc
      refine V_pc 47 rfl ?_
      refine V_iload_n 25 3 rfl rfl rfl ?_
      refine V_if_ne 26 (tgt := 55) rfl (by decide) (fun hc => ?_) (fun hc => ?_)
      · replace h := h.1 hc
        exact k_j55 x3 y0 σ hW h
      · replace h := h.2 hc
        refine V_pc 51 rfl ?_
        refine V_iconst 27 (v := (1 : Int32)) rfl (by decide) ?_
        refine V_goto 28 (tgt := 56) rfl (by decide) ?_
        exact k_j56 x3 (1 : Int32) y0 σ hW h
  have k_j26 : ∀ (y0 : Int32)  (σ : ab_S), Wire σ → wX12_code_j26 a0 a1 Q E y0 σ → V l mdX12_code B 1 23 0 0 (ab_End (fun v σ' => Wire σ' ∧ ∃ r : Int32, v = some (.int r) ∧ Q r σ') (fun X σ' => Wire σ' ∧ E X σ')) 26 [(0, .ref 92), (1, .int a0), (2, .int a1)] [.int y0] σ := by
    intro y0  σ hW h
    refine V_istore_n 14 (lv' := [(3, .int y0), (0, .ref 92), (1, .int a0), (2, .int a1)]) rfl rfl (by decide) rfl ?_
    refine V_aload_n 15 1 rfl rfl rfl ?_
    refine V_aload_n 16 1 rfl rfl rfl ?_
    refine V_get (v := .int (σ.2.1 92 4)) 17 4 rfl clX12 flX12_452 (by decide) (wsh hW rfl) (fun _ => rfl) ?_
    refine V_if_ne 18 (tgt := 39) rfl (by decide) (fun hc => ?_) (fun hc => ?_)
    · replace h := h.1 hc
      refine V_iconst 21 (v := (0 : Int32)) rfl (by decide) ?_
      refine V_sub [1, 2, 3, 0] (lv' := [(0, .ref 92), (1, .int a0), (2, .int a1), (3, .int y0)]) rfl ?_
      exact k_j40 y0 (0 : Int32) σ hW h
    · replace h := h.2 hc
      refine V_pc 35 rfl ?_
      refine V_iconst 19 (v := (1 : Int32)) rfl (by decide) ?_
      refine V_goto 20 (tgt := 40) rfl (by decide) ?_
      refine V_sub [1, 2, 3, 0] (lv' := [(0, .ref 92), (1, .int a0), (2, .int a1), (3, .int y0)]) rfl ?_
      exact k_j40 y0 (1 : Int32) σ hW h
  have k_j25 : ∀   (σ : ab_S), Wire σ → wX12_code_j25 a0 a1 Q E  σ → V l mdX12_code B 1 23 0 0 (ab_End (fun v σ' => Wire σ' ∧ ∃ r : Int32, v = some (.int r) ∧ Q r σ') (fun X σ' => Wire σ' ∧ E X σ')) 25 [(0, .ref 92), (1, .int a0), (2, .int a1)] [] σ := by
    intro   σ hW h
    refine V_iconst 13 (v := (0 : Int32)) rfl (by decide) ?_
    exact k_j26 (0 : Int32) σ hW h
  intro σ hW h
  refine V_aload_n 0 0 rfl rfl rfl ?_
  refine V_get (v := .int (σ.2.1 92 4)) 1 4 rfl clX12 flX12_452 (by decide) (wsh hW rfl) (fun _ => rfl) ?_
  refine V_if_eq 2 (tgt := 25) rfl (by decide) (fun hc => ?_) (fun hc => ?_)
  · replace h := h.1 hc
    exact k_j25 σ hW h
  · replace h := h.2 hc
    refine V_pc 7 rfl ?_
    refine V_iload_n 3 1 rfl rfl rfl ?_
    refine V_iconst 4 (v := (0 : Int32)) rfl (by decide) ?_
    refine V_aload_n 5 0 rfl rfl rfl ?_
    refine V_get (v := .int (σ.2.1 92 74)) 6 74 rfl clX12 flX12_551 (by decide) (wsh hW rfl) (fun _ => rfl) ?_
    refine V_iconst 7 (v := (1 : Int32)) rfl (by decide) ?_
    refine V_isub 8 rfl ?_
    refine V_pc 15 rfl ?_
    refine V_callS 9 3 (as := [.int a0, .int (0 : Int32), .int ((σ.2.1 92 74) - (1 : Int32))]) (rest := []) rfl mlX12_238 yvX12_in rfl rfl (by decide) (by decide) (Nat.le_of_ble_eq_true rfl) (by decide) (by decide) (fun B9 => ceX12_in hl B9 hW h) (fun X9 τ9 h9 => VX_out rfl h9) ?_
    rintro v9 σ5 ⟨hW, u6, rfl, h⟩
    refine V_if_eq 10 (tgt := 25) rfl (by decide) (fun hc => ?_) (fun hc => ?_)
    · replace h := h.1 hc
      exact k_j25 σ5 hW h
    · replace h := h.2 hc
      refine V_pc 21 rfl ?_
      refine V_iconst 11 (v := (1 : Int32)) rfl (by decide) ?_
      refine V_goto 12 (tgt := 26) rfl (by decide) ?_
      exact k_j26 (1 : Int32) σ5 hW h

def wX12_start_j97 (a0 : Int32) (a1 : Int32) (Q : Int32 → ab_S → Prop) (E : String → ab_S → Prop) (y0 : Int32) (y1 : Int32) (σ : ab_S) : Prop := wX12_refuse y1 y0 (0 : Int32) (fun u2 σ1 => ((u2 = 0) → vp_in (((6 : Int32) * a0) + a1) 187 ∧ (Q (σ1.2.1 148 (((6 : Int32) * a0) + a1).toNatClampNeg) σ1)) ∧ (¬ (u2 = 0) → Q (0 : Int32) σ1)) E σ
def wX12_start_j96 (a0 : Int32) (a1 : Int32) (Q : Int32 → ab_S → Prop) (E : String → ab_S → Prop) (y0 : Int32) (σ : ab_S) : Prop := wX12_start_j97 a0 a1 Q E (0 : Int32) y0 σ
def wX12_start_j80 (a0 : Int32) (a1 : Int32) (Q : Int32 → ab_S → Prop) (E : String → ab_S → Prop) (x4 : Int32) (y0 : Int32) (σ : ab_S) : Prop := (((σ.2.1 92 4) = 0) → wX12_start_j96 a0 a1 Q E y0 σ) ∧ (¬ ((σ.2.1 92 4) = 0) → ((¬ x4 = 0) → wX12_start_j96 a0 a1 Q E y0 σ) ∧ (¬ (¬ x4 = 0) → wX12_start_j97 a0 a1 Q E (1 : Int32) y0 σ))
def wX12_start_j65 (a0 : Int32) (a1 : Int32) (Q : Int32 → ab_S → Prop) (E : String → ab_S → Prop) (y0 : Int32) (σ : ab_S) : Prop := ((¬ (σ.2.1 92 4) = 0) → wX12_start_j80 a0 a1 Q E y0 (0 : Int32) σ) ∧ (¬ (¬ (σ.2.1 92 4) = 0) → wX12_start_j80 a0 a1 Q E y0 (1 : Int32) σ)
def wX12_start_j64 (a0 : Int32) (a1 : Int32) (Q : Int32 → ab_S → Prop) (E : String → ab_S → Prop)  (σ : ab_S) : Prop := wX12_start_j65 a0 a1 Q E (0 : Int32) σ
def wX12_start_j51 (a0 : Int32) (a1 : Int32) (Q : Int32 → ab_S → Prop) (E : String → ab_S → Prop) (y0 : Int32) (y1 : Int32) (y4 : Int32) (σ : ab_S) : Prop := vp_in (y1 * y0) 124 ∧ (vp_in (σ.2.1 104 (y1 * y0).toNatClampNeg) 13 ∧ (wX12_in a1 y4 (σ.2.1 112 (σ.2.1 104 (y1 * y0).toNatClampNeg).toNatClampNeg) (fun u4 σ3 => ((u4 = 0) → wX12_start_j64 a0 a1 Q E σ3) ∧ (¬ (u4 = 0) → wX12_start_j65 a0 a1 Q E (1 : Int32) σ3)) E σ))
def wX12_start_j26 (a0 : Int32) (a1 : Int32) (Q : Int32 → ab_S → Prop) (E : String → ab_S → Prop) (y0 : Int32) (σ : ab_S) : Prop := ((y0 = 0) → wX12_start_j64 a0 a1 Q E σ) ∧ (¬ (y0 = 0) → ((y0 = 0) → wX12_start_j51 a0 a1 Q E (0 : Int32) (4 : Int32) (1 : Int32) σ) ∧ (¬ (y0 = 0) → wX12_start_j51 a0 a1 Q E a0 (4 : Int32) (1 : Int32) σ))
def wX12_start_j25 (a0 : Int32) (a1 : Int32) (Q : Int32 → ab_S → Prop) (E : String → ab_S → Prop)  (σ : ab_S) : Prop := wX12_start_j26 a0 a1 Q E (0 : Int32) σ
def wX12_start (a0 : Int32) (a1 : Int32) (Q : Int32 → ab_S → Prop) (E : String → ab_S → Prop) (σ : ab_S) : Prop := (((σ.2.1 92 4) = 0) → wX12_start_j25 a0 a1 Q E σ) ∧ (¬ ((σ.2.1 92 4) = 0) → wX12_in a0 (0 : Int32) ((σ.2.1 92 14) - (1 : Int32)) (fun u6 σ5 => ((u6 = 0) → wX12_start_j25 a0 a1 Q E σ5) ∧ (¬ (u6 = 0) → wX12_start_j26 a0 a1 Q E (1 : Int32) σ5)) E σ)
set_option maxHeartbeats 4000000 in
set_option maxRecDepth 100000 in
theorem ceX12_start {l : Launch} (hl : l.stackTraces = false) (B : Nat) {a0 : Int32} {a1 : Int32}  {Q : Int32 → ab_S → Prop} {E : String → ab_S → Prop} {σ : ab_S} (hW : Wire σ) (h : wX12_start a0 a1 Q E σ) : ab_Mt l yX12_start mdX12_start B 1 23 0 0 [.ref 92, .int a0, .int a1] σ (fun v σ' => Wire σ' ∧ ∃ r : Int32, v = some (.int r) ∧ Q r σ') (fun X σ' => Wire σ' ∧ E X σ') := by
  refine V_met hl ⟨rfl, rfl, by decide⟩ rfl dkX12_start (Nat.le_of_ble_eq_true rfl) ?_
  show V l mdX12_start B 1 23 0 0 (ab_End _ _) 0 [(0, .ref 92), (1, .int a0), (2, .int a1)] [] σ
  revert h hW
  revert σ
  have k_j97 : ∀ (y0 : Int32) (y1 : Int32)  (σ : ab_S), Wire σ → wX12_start_j97 a0 a1 Q E y0 y1 σ → V l mdX12_start B 1 23 0 0 (ab_End (fun v σ' => Wire σ' ∧ ∃ r : Int32, v = some (.int r) ∧ Q r σ') (fun X σ' => Wire σ' ∧ E X σ')) 97 [(0, .ref 92), (1, .int a0), (2, .int a1)] [.int y0, .int y1, .ref 92] σ := by
    intro y0 y1  σ hW h
    refine V_iconst 53 (v := (0 : Int32)) rfl (by decide) ?_
    refine V_callV 54 3 (as := [.int y1, .int y0, .int (0 : Int32)]) (rest := []) rfl mlX12_245 yvX12_refuse rfl rfl clX12 (wsh hW rfl) (by decide) (by decide) (Nat.le_of_ble_eq_true rfl) (by decide) (by decide) (fun B9 => ceX12_refuse hl B9 hW h) (fun X9 τ9 h9 => VX_out rfl h9) ?_
    rintro v9 σ1 ⟨hW, u2, rfl, h⟩
    refine V_if_eq 55 (tgt := 106) rfl (by decide) (fun hc => ?_) (fun hc => ?_)
    · replace h := h.1 hc
      refine V_aload_n 58 0 rfl rfl rfl ?_
      refine V_getR 59 77 rfl clX12 flX12_177 (by decide) (wsh hW rfl) (fun _ => rfl) (wrf hW 149 rfl) ?_
      refine V_bipush 60 (v := (6 : Int32)) rfl (by decide) ?_
      refine V_iload_n 61 1 rfl rfl rfl ?_
      refine V_imul 62 rfl ?_
      refine V_iload_n 63 2 rfl rfl rfl ?_
      refine V_pc 115 rfl ?_
      refine V_iadd 64 rfl ?_
      obtain ⟨hin, h⟩ := h
      refine V_iald 65 rfl (wsh hW rfl) hin ?_
      exact V_iret 66 rfl rfl ⟨hW, _, rfl, h⟩
    · replace h := h.2 hc
      refine V_pc 104 rfl ?_
      refine V_iconst 56 (v := (0 : Int32)) rfl (by decide) ?_
      exact V_iret 57 rfl rfl ⟨hW, _, rfl, h⟩
  have k_j96 : ∀ (y0 : Int32)  (σ : ab_S), Wire σ → wX12_start_j96 a0 a1 Q E y0 σ → V l mdX12_start B 1 23 0 0 (ab_End (fun v σ' => Wire σ' ∧ ∃ r : Int32, v = some (.int r) ∧ Q r σ') (fun X σ' => Wire σ' ∧ E X σ')) 96 [(0, .ref 92), (1, .int a0), (2, .int a1)] [.int y0, .ref 92] σ := by
    intro y0  σ hW h
    refine V_iconst 52 (v := (0 : Int32)) rfl (by decide) ?_
    exact k_j97 (0 : Int32) y0 σ hW h
  have k_j80 : ∀ (x4 : Int32) (y0 : Int32)  (σ : ab_S), Wire σ → wX12_start_j80 a0 a1 Q E x4 y0 σ → V l mdX12_start B 1 23 0 0 (ab_End (fun v σ' => Wire σ' ∧ ∃ r : Int32, v = some (.int r) ∧ Q r σ') (fun X σ' => Wire σ' ∧ E X σ')) 80 [(0, .ref 92), (1, .int a0), (2, .int a1), (4, .int x4)] [.int y0, .ref 92] σ := by
    intro x4 y0  σ hW h
    refine V_aload_n 45 0 rfl rfl rfl ?_
    refine V_get (v := .int (σ.2.1 92 4)) 46 4 rfl clX12 flX12_452 (by decide) (wsh hW rfl) (fun _ => rfl) ?_
    refine V_if_eq 47 (tgt := 96) rfl (by decide) (fun hc => ?_) (fun hc => ?_)
    · replace h := h.1 hc
      refine V_sub [0, 1, 2] (lv' := [(0, .ref 92), (1, .int a0), (2, .int a1)]) rfl ?_
      exact k_j96 y0 σ hW h
    · replace h := h.2 hc
      refine V_pc 87 rfl ?_
      refine V_iload 48 3 rfl rfl ?_
      refine V_if_ne 49 (tgt := 96) rfl (by decide) (fun hc => ?_) (fun hc => ?_)
      · replace h := h.1 hc
        refine V_sub [0, 1, 2] (lv' := [(0, .ref 92), (1, .int a0), (2, .int a1)]) rfl ?_
        exact k_j96 y0 σ hW h
      · replace h := h.2 hc
        refine V_pc 92 rfl ?_
        refine V_iconst 50 (v := (1 : Int32)) rfl (by decide) ?_
        refine V_goto 51 (tgt := 97) rfl (by decide) ?_
        refine V_sub [0, 1, 2] (lv' := [(0, .ref 92), (1, .int a0), (2, .int a1)]) rfl ?_
        exact k_j97 (1 : Int32) y0 σ hW h
  have k_j65 : ∀ (y0 : Int32)  (σ : ab_S), Wire σ → wX12_start_j65 a0 a1 Q E y0 σ → V l mdX12_start B 1 23 0 0 (ab_End (fun v σ' => Wire σ' ∧ ∃ r : Int32, v = some (.int r) ∧ Q r σ') (fun X σ' => Wire σ' ∧ E X σ')) 65 [(0, .ref 92), (1, .int a0), (2, .int a1)] [.int y0] σ := by
    intro y0  σ hW h
    refine V_istore 37 (lv' := [(4, .int y0), (0, .ref 92), (1, .int a0), (2, .int a1)]) rfl (by decide) rfl ?_
    refine V_aload_n 38 1 rfl rfl rfl ?_
    refine V_aload_n 39 1 rfl rfl rfl ?_
    refine V_get (v := .int (σ.2.1 92 4)) 40 4 rfl clX12 flX12_452 (by decide) (wsh hW rfl) (fun _ => rfl) ?_
    refine V_if_ne 41 (tgt := 79) rfl (by decide) (fun hc => ?_) (fun hc => ?_)
    · replace h := h.1 hc
      refine V_iconst 44 (v := (0 : Int32)) rfl (by decide) ?_
      refine V_sub [1, 2, 3, 0] (lv' := [(0, .ref 92), (1, .int a0), (2, .int a1), (4, .int y0)]) rfl ?_
      exact k_j80 y0 (0 : Int32) σ hW h
    · replace h := h.2 hc
      refine V_pc 75 rfl ?_
      refine V_iconst 42 (v := (1 : Int32)) rfl (by decide) ?_
      refine V_goto 43 (tgt := 80) rfl (by decide) ?_
      refine V_sub [1, 2, 3, 0] (lv' := [(0, .ref 92), (1, .int a0), (2, .int a1), (4, .int y0)]) rfl ?_
      exact k_j80 y0 (1 : Int32) σ hW h
  have k_j64 : ∀   (σ : ab_S), Wire σ → wX12_start_j64 a0 a1 Q E  σ → V l mdX12_start B 1 23 0 0 (ab_End (fun v σ' => Wire σ' ∧ ∃ r : Int32, v = some (.int r) ∧ Q r σ') (fun X σ' => Wire σ' ∧ E X σ')) 64 [(0, .ref 92), (1, .int a0), (2, .int a1)] [] σ := by
    intro   σ hW h
    refine V_iconst 36 (v := (0 : Int32)) rfl (by decide) ?_
    exact k_j65 (0 : Int32) σ hW h
  have k_j51 : ∀ (y0 : Int32) (y1 : Int32) (y4 : Int32)  (σ : ab_S), Wire σ → wX12_start_j51 a0 a1 Q E y0 y1 y4 σ → V l mdX12_start B 1 23 0 0 (ab_End (fun v σ' => Wire σ' ∧ ∃ r : Int32, v = some (.int r) ∧ Q r σ') (fun X σ' => Wire σ' ∧ E X σ')) 51 [(0, .ref 92), (1, .int a0), (2, .int a1)] [.int y0, .int y1, .ref 104, .ref 112, .int y4, .int a1] σ := by
    intro y0 y1 y4  σ hW h
    refine V_imul 29 rfl ?_
    obtain ⟨hin, h⟩ := h
    refine V_iald 30 rfl (wsh hW rfl) hin ?_
    obtain ⟨hin, h⟩ := h
    refine V_iald 31 rfl (wsh hW rfl) hin ?_
    refine V_callS 32 3 (as := [.int a1, .int y4, .int (σ.2.1 112 (σ.2.1 104 (y1 * y0).toNatClampNeg).toNatClampNeg)]) (rest := []) rfl mlX12_238 yvX12_in rfl rfl (by decide) (by decide) (Nat.le_of_ble_eq_true rfl) (by decide) (by decide) (fun B9 => ceX12_in hl B9 hW h) (fun X9 τ9 h9 => VX_out rfl h9) ?_
    rintro v9 σ3 ⟨hW, u4, rfl, h⟩
    refine V_if_eq 33 (tgt := 64) rfl (by decide) (fun hc => ?_) (fun hc => ?_)
    · replace h := h.1 hc
      exact k_j64 σ3 hW h
    · replace h := h.2 hc
      refine V_pc 60 rfl ?_
      refine V_iconst 34 (v := (1 : Int32)) rfl (by decide) ?_
      refine V_goto 35 (tgt := 65) rfl (by decide) ?_
      exact k_j65 (1 : Int32) σ3 hW h
  have k_j26 : ∀ (y0 : Int32)  (σ : ab_S), Wire σ → wX12_start_j26 a0 a1 Q E y0 σ → V l mdX12_start B 1 23 0 0 (ab_End (fun v σ' => Wire σ' ∧ ∃ r : Int32, v = some (.int r) ∧ Q r σ') (fun X σ' => Wire σ' ∧ E X σ')) 26 [(0, .ref 92), (1, .int a0), (2, .int a1)] [.int y0] σ := by
    intro y0  σ hW h
    refine V_istore_n 14 (lv' := [(3, .int y0), (0, .ref 92), (1, .int a0), (2, .int a1)]) rfl rfl (by decide) rfl ?_
    refine V_iload_n 15 0 rfl rfl rfl ?_
    refine V_if_eq 16 (tgt := 64) rfl (by decide) (fun hc => ?_) (fun hc => ?_)
    · replace h := h.1 hc
      refine V_sub [1, 2, 3] (lv' := [(0, .ref 92), (1, .int a0), (2, .int a1)]) rfl ?_
      exact k_j64 σ hW h
    · replace h := h.2 hc
      refine V_pc 31 rfl ?_
      refine V_iload_n 17 3 rfl rfl rfl ?_
      refine V_iconst 18 (v := (1 : Int32)) rfl (by decide) ?_
      refine V_aload_n 19 1 rfl rfl rfl ?_
      refine V_getR 20 27 rfl clX12 flX12_69 (by decide) (wsh hW rfl) (fun _ => rfl) (wrf hW 113 rfl) ?_
      refine V_aload_n 21 1 rfl rfl rfl ?_
      refine V_getR 22 18 rfl clX12 flX12_45 (by decide) (wsh hW rfl) (fun _ => rfl) (wrf hW 105 rfl) ?_
      refine V_pc 41 rfl ?_
      refine V_iconst 23 (v := (4 : Int32)) rfl (by decide) ?_
      refine V_iload_n 24 0 rfl rfl rfl ?_
      refine V_if_eq 25 (tgt := 50) rfl (by decide) (fun hc => ?_) (fun hc => ?_)
      · replace h := h.1 hc
        refine V_iconst 28 (v := (0 : Int32)) rfl (by decide) ?_
        refine V_sub [1, 2, 3] (lv' := [(0, .ref 92), (1, .int a0), (2, .int a1)]) rfl ?_
        exact k_j51 (0 : Int32) (4 : Int32) (1 : Int32) σ hW h
      · replace h := h.2 hc
        refine V_pc 46 rfl ?_
        refine V_iload_n 26 2 rfl rfl rfl ?_
        refine V_goto 27 (tgt := 51) rfl (by decide) ?_
        refine V_sub [1, 2, 3] (lv' := [(0, .ref 92), (1, .int a0), (2, .int a1)]) rfl ?_
        exact k_j51 a0 (4 : Int32) (1 : Int32) σ hW h
  have k_j25 : ∀   (σ : ab_S), Wire σ → wX12_start_j25 a0 a1 Q E  σ → V l mdX12_start B 1 23 0 0 (ab_End (fun v σ' => Wire σ' ∧ ∃ r : Int32, v = some (.int r) ∧ Q r σ') (fun X σ' => Wire σ' ∧ E X σ')) 25 [(0, .ref 92), (1, .int a0), (2, .int a1)] [] σ := by
    intro   σ hW h
    refine V_iconst 13 (v := (0 : Int32)) rfl (by decide) ?_
    exact k_j26 (0 : Int32) σ hW h
  intro σ hW h
  refine V_aload_n 0 0 rfl rfl rfl ?_
  refine V_get (v := .int (σ.2.1 92 4)) 1 4 rfl clX12 flX12_452 (by decide) (wsh hW rfl) (fun _ => rfl) ?_
  refine V_if_eq 2 (tgt := 25) rfl (by decide) (fun hc => ?_) (fun hc => ?_)
  · replace h := h.1 hc
    exact k_j25 σ hW h
  · replace h := h.2 hc
    refine V_pc 7 rfl ?_
    refine V_iload_n 3 1 rfl rfl rfl ?_
    refine V_iconst 4 (v := (0 : Int32)) rfl (by decide) ?_
    refine V_aload_n 5 0 rfl rfl rfl ?_
    refine V_get (v := .int (σ.2.1 92 14)) 6 14 rfl clX12 flX12_316 (by decide) (wsh hW rfl) (fun _ => rfl) ?_
    refine V_iconst 7 (v := (1 : Int32)) rfl (by decide) ?_
    refine V_isub 8 rfl ?_
    refine V_pc 15 rfl ?_
    refine V_callS 9 3 (as := [.int a0, .int (0 : Int32), .int ((σ.2.1 92 14) - (1 : Int32))]) (rest := []) rfl mlX12_238 yvX12_in rfl rfl (by decide) (by decide) (Nat.le_of_ble_eq_true rfl) (by decide) (by decide) (fun B9 => ceX12_in hl B9 hW h) (fun X9 τ9 h9 => VX_out rfl h9) ?_
    rintro v9 σ5 ⟨hW, u6, rfl, h⟩
    refine V_if_eq 10 (tgt := 25) rfl (by decide) (fun hc => ?_) (fun hc => ?_)
    · replace h := h.1 hc
      exact k_j25 σ5 hW h
    · replace h := h.2 hc
      refine V_pc 21 rfl ?_
      refine V_iconst 11 (v := (1 : Int32)) rfl (by decide) ?_
      refine V_goto 12 (tgt := 26) rfl (by decide) ?_
      exact k_j26 (1 : Int32) σ5 hW h

def wX12_visits (a0 : Int32) (Q : ab_S → Prop) (E : String → ab_S → Prop) (σ : ab_S) : Prop := vp_in a0 251 ∧ (vp_in a0 251 ∧ (∀ σ1 : ab_S, σ1 = ab_I σ 156 a0.toNatClampNeg ((σ.2.1 156 a0.toNatClampNeg) + (1 : Int32)) → vp_in a0 251 ∧ (vp_in a0 251 ∧ (vp_in (((6 : Int32) * (σ1.2.1 128 a0.toNatClampNeg)) + (σ1.2.1 156 a0.toNatClampNeg)) 187 ∧ ((∀ σ2 : ab_S, σ2 = ab_I σ1 92 84 (σ1.2.1 148 (((6 : Int32) * (σ1.2.1 128 a0.toNatClampNeg)) + (σ1.2.1 156 a0.toNatClampNeg)).toNatClampNeg) → Q σ2))))))
set_option maxHeartbeats 4000000 in
set_option maxRecDepth 100000 in
theorem ceX12_visits {l : Launch} (hl : l.stackTraces = false) (B : Nat) {a0 : Int32}  {Q : ab_S → Prop} {E : String → ab_S → Prop} {σ : ab_S} (hW : Wire σ) (h : wX12_visits a0 Q E σ) : ab_Mt l yX12_visits mdX12_visits B 0 0 0 0 [.ref 92, .int a0] σ (fun v σ' => Wire σ' ∧ v = none ∧ Q σ') (fun X σ' => Wire σ' ∧ E X σ') := by
  refine V_met hl ⟨rfl, rfl, by decide⟩ rfl dkX12_visits (Nat.le_of_ble_eq_true rfl) ?_
  show V l mdX12_visits B 0 0 0 0 (ab_End _ _) 0 [(0, .ref 92), (1, .int a0)] [] σ
  refine V_aload_n 0 0 rfl rfl rfl ?_
  refine V_getR 1 89 rfl clX12 flX12_201 (by decide) (wsh hW rfl) (fun _ => rfl) (wrf hW 157 rfl) ?_
  refine V_iload_n 2 1 rfl rfl rfl ?_
  refine V_dup2 3 rfl rfl rfl ?_
  obtain ⟨hin, h⟩ := h
  refine V_iald 4 rfl (wsh hW rfl) hin ?_
  refine V_iconst 5 (v := (1 : Int32)) rfl (by decide) ?_
  refine V_pc 8 rfl ?_
  refine V_iadd 6 rfl ?_
  obtain ⟨hin, h⟩ := h
  refine V_iast 7 rfl (wsh hW rfl) hin ?_
  refine V_nm (fun σ1 eσ1 => ?_)
  replace h := h σ1 eσ1
  have hW := wire_I eσ1 hW
  refine V_aload_n 8 0 rfl rfl rfl ?_
  refine V_aload_n 9 0 rfl rfl rfl ?_
  refine V_getR 10 77 rfl clX12 flX12_177 (by decide) (wsh hW rfl) (fun _ => rfl) (wrf hW 149 rfl) ?_
  refine V_bipush 11 (v := (6 : Int32)) rfl (by decide) ?_
  refine V_pc 17 rfl ?_
  refine V_aload_n 12 0 rfl rfl rfl ?_
  refine V_getR 13 54 rfl clX12 flX12_117 (by decide) (wsh hW rfl) (fun _ => rfl) (wrf hW 129 rfl) ?_
  refine V_iload_n 14 1 rfl rfl rfl ?_
  obtain ⟨hin, h⟩ := h
  refine V_iald 15 rfl (wsh hW rfl) hin ?_
  refine V_imul 16 rfl ?_
  refine V_aload_n 17 0 rfl rfl rfl ?_
  refine V_pc 25 rfl ?_
  refine V_getR 18 89 rfl clX12 flX12_201 (by decide) (wsh hW rfl) (fun _ => rfl) (wrf hW 157 rfl) ?_
  refine V_iload_n 19 1 rfl rfl rfl ?_
  obtain ⟨hin, h⟩ := h
  refine V_iald 20 rfl (wsh hW rfl) hin ?_
  refine V_iadd 21 rfl ?_
  obtain ⟨hin, h⟩ := h
  refine V_iald 22 rfl (wsh hW rfl) hin ?_
  refine V_putI 23 84 rfl clX12 flX12_575 (by decide) (wsh hW rfl) rfl (fun _ _ => rfl) rfl rfl ?_
  refine V_nm (fun σ2 eσ2 => ?_)
  replace h := h σ2 eσ2
  have hW := wire_I eσ2 hW
  exact V_vret 24 rfl rfl ⟨hW, rfl, h⟩

def wX12_begin_j118 (Q : Int32 → ab_S → Prop) (E : String → ab_S → Prop)  (σ : ab_S) : Prop := (∀ σ1 : ab_S, σ1 = ab_I σ 92 86 (1 : Int32) → vp_in (0 : Int32) 251 ∧ (∀ σ2 : ab_S, σ2 = ab_I σ1 154 (0 : Int32).toNatClampNeg (0 : Int32) → wX12_visits (0 : Int32) (fun σ3 => Q (σ3.2.1 92 84) σ3) E σ2))
def wX12_begin_l97_b (Q : Int32 → ab_S → Prop) (E : String → ab_S → Prop) (K118 : ab_S → Prop) (Bk : Int32 → ab_S → Prop) (x1 : Int32) (σ : ab_S) : Prop := (((σ.2.1 92 53) ≤ x1) → K118 σ) ∧ (¬ ((σ.2.1 92 53) ≤ x1) → vp_in x1 251 ∧ (∀ σ4 : ab_S, σ4 = ab_I σ 156 x1.toNatClampNeg (0 : Int32) → ∀ v5 : Int32, v5 = (x1 + 1) → Bk v5 σ4))
def wX12_begin_l97 (Q : Int32 → ab_S → Prop) (E : String → ab_S → Prop) (K118 : ab_S → Prop) : Nat → Int32 → ab_S → Prop
  | 0, _, _ => False
  | n + 1, x1, σ => wX12_begin_l97_b Q E K118 (wX12_begin_l97 Q E K118 n) x1 σ
def wX12_begin_j95 (Q : Int32 → ab_S → Prop) (E : String → ab_S → Prop)  (σ : ab_S) : Prop := ∃ n, wX12_begin_l97 Q E (wX12_begin_j118 Q E) n (0 : Int32) σ
def wX12_begin_l68_b (Q : Int32 → ab_S → Prop) (E : String → ab_S → Prop) (K95 : ab_S → Prop) (Bk : Int32 → ab_S → Prop) (x1 : Int32) (σ : ab_S) : Prop := (((2008 : Int32) ≤ x1) → K95 σ) ∧ (¬ ((2008 : Int32) ≤ x1) → vp_in x1 2008 ∧ (∀ σ6 : ab_S, σ6 = ab_I σ 161 x1.toNatClampNeg (0 : Int32) → vp_in x1 2008 ∧ (∀ σ7 : ab_S, σ7 = ab_I σ6 162 x1.toNatClampNeg (vp_nar .boolean (0 : Int32)) → ∀ v8 : Int32, v8 = (x1 + 1) → Bk v8 σ7)))
def wX12_begin_l68 (Q : Int32 → ab_S → Prop) (E : String → ab_S → Prop) (K95 : ab_S → Prop) : Nat → Int32 → ab_S → Prop
  | 0, _, _ => False
  | n + 1, x1, σ => wX12_begin_l68_b Q E K95 (wX12_begin_l68 Q E K95 n) x1 σ
def wX12_begin_j66 (Q : Int32 → ab_S → Prop) (E : String → ab_S → Prop)  (σ : ab_S) : Prop := ∃ n, wX12_begin_l68 Q E (wX12_begin_j95 Q E) n (0 : Int32) σ
def wX12_begin_l40_b (Q : Int32 → ab_S → Prop) (E : String → ab_S → Prop) (K66 : ab_S → Prop) (Bk : Int32 → ab_S → Prop) (x1 : Int32) (σ : ab_S) : Prop := (((104 : Int32) ≤ x1) → K66 σ) ∧ (¬ ((104 : Int32) ≤ x1) → vp_in x1 104 ∧ (∀ σ9 : ab_S, σ9 = ab_I σ 159 x1.toNatClampNeg (0 : Int32) → vp_in x1 104 ∧ (∀ σ10 : ab_S, σ10 = ab_I σ9 160 x1.toNatClampNeg (vp_nar .boolean (0 : Int32)) → ∀ v11 : Int32, v11 = (x1 + 1) → Bk v11 σ10)))
def wX12_begin_l40 (Q : Int32 → ab_S → Prop) (E : String → ab_S → Prop) (K66 : ab_S → Prop) : Nat → Int32 → ab_S → Prop
  | 0, _, _ => False
  | n + 1, x1, σ => wX12_begin_l40_b Q E K66 (wX12_begin_l40 Q E K66 n) x1 σ
def wX12_begin_j13 (Q : Int32 → ab_S → Prop) (E : String → ab_S → Prop) (y0 : Int32) (σ : ab_S) : Prop := wX12_refuse y0 (0 : Int32) (0 : Int32) (fun u13 σ12 => ((u13 = 0) → (∀ σ14 : ab_S, σ14 = ab_I σ12 92 83 (1 : Int32) → (∀ σ15 : ab_S, σ15 = ab_I σ14 92 85 (0 : Int32) → (∀ σ16 : ab_S, σ16 = ab_I σ15 92 90 (0 : Int32) → ∃ n, wX12_begin_l40 Q E (wX12_begin_j66 Q E) n (0 : Int32) σ16)))) ∧ (¬ (u13 = 0) → Q (0 : Int32) σ12)) E σ
def wX12_begin  (Q : Int32 → ab_S → Prop) (E : String → ab_S → Prop) (σ : ab_S) : Prop := ((¬ (σ.2.1 92 52) = 0) → wX12_begin_j13 Q E (0 : Int32) σ) ∧ (¬ (¬ (σ.2.1 92 52) = 0) → wX12_begin_j13 Q E (1 : Int32) σ)
set_option maxHeartbeats 4000000 in
set_option maxRecDepth 100000 in
theorem ceX12_begin {l : Launch} (hl : l.stackTraces = false) (B : Nat)   {Q : Int32 → ab_S → Prop} {E : String → ab_S → Prop} {σ : ab_S} (hW : Wire σ) (h : wX12_begin  Q E σ) : ab_Mt l yX12_begin mdX12_begin B 1 23 0 0 [.ref 92] σ (fun v σ' => Wire σ' ∧ ∃ r : Int32, v = some (.int r) ∧ Q r σ') (fun X σ' => Wire σ' ∧ E X σ') := by
  refine V_met hl ⟨rfl, rfl, by decide⟩ rfl dkX12_begin (Nat.le_of_ble_eq_true rfl) ?_
  show V l mdX12_begin B 1 23 0 0 (ab_End _ _) 0 [(0, .ref 92)] [] σ
  revert h hW
  revert σ
  have k_j118 : ∀   (σ : ab_S), Wire σ → wX12_begin_j118 Q E  σ → V l mdX12_begin B 1 23 0 0 (ab_End (fun v σ' => Wire σ' ∧ ∃ r : Int32, v = some (.int r) ∧ Q r σ') (fun X σ' => Wire σ' ∧ E X σ')) 118 [(0, .ref 92)] [] σ := by
    intro   σ hW h
    refine V_aload_n 69 0 rfl rfl rfl ?_
    refine V_iconst 70 (v := (1 : Int32)) rfl (by decide) ?_
    refine V_putI 71 86 rfl clX12 flX12_584 (by decide) (wsh hW rfl) rfl (fun _ _ => rfl) rfl rfl ?_
    refine V_nm (fun σ1 eσ1 => ?_)
    replace h := h σ1 eσ1
    have hW := wire_I eσ1 hW
    refine V_aload_n 72 0 rfl rfl rfl ?_
    refine V_getR 73 87 rfl clX12 flX12_195 (by decide) (wsh hW rfl) (fun _ => rfl) (wrf hW 155 rfl) ?_
    refine V_iconst 74 (v := (0 : Int32)) rfl (by decide) ?_
    refine V_iconst 75 (v := (0 : Int32)) rfl (by decide) ?_
    obtain ⟨hin, h⟩ := h
    refine V_iast 76 rfl (wsh hW rfl) hin ?_
    refine V_nm (fun σ2 eσ2 => ?_)
    replace h := h σ2 eσ2
    have hW := wire_I eσ2 hW
    refine V_pc 130 rfl ?_
    refine V_aload_n 77 0 rfl rfl rfl ?_
    refine V_iconst 78 (v := (0 : Int32)) rfl (by decide) ?_
    refine V_callV 79 1 (as := [.int (0 : Int32)]) (rest := []) rfl mlX12_587 yvX12_visits rfl rfl clX12 (wsh hW rfl) (by decide) (by decide) (Nat.le_of_ble_eq_true rfl) (by decide) (by decide) (fun B9 => ceX12_visits hl B9 hW h) (fun X9 τ9 h9 => VX_out rfl h9) ?_
    rintro v9 σ3 ⟨hW, rfl, h⟩
    refine V_aload_n 80 0 rfl rfl rfl ?_
    refine V_get (v := .int (σ3.2.1 92 84)) 81 84 rfl clX12 flX12_575 (by decide) (wsh hW rfl) (fun _ => rfl) ?_
    exact V_iret 82 rfl rfl ⟨hW, _, rfl, h⟩
  have k_l97 : ∀ (n : Nat) (x1 : Int32)  (σ : ab_S), Wire σ → wX12_begin_l97 Q E (wX12_begin_j118 Q E) n x1 σ → V l mdX12_begin B 1 23 0 0 (ab_End (fun v σ' => Wire σ' ∧ ∃ r : Int32, v = some (.int r) ∧ Q r σ') (fun X σ' => Wire σ' ∧ E X σ')) 97 [(0, .ref 92), (1, .int x1)] [] σ := by
    have step : ∀ (K118 : ab_S → Prop) (k_K118 : ∀   (σ : ab_S), Wire σ → K118  σ → V l mdX12_begin B 1 23 0 0 (ab_End (fun v σ' => Wire σ' ∧ ∃ r : Int32, v = some (.int r) ∧ Q r σ') (fun X σ' => Wire σ' ∧ E X σ')) 118 [(0, .ref 92)] [] σ), ∀ (Bk : Int32 → ab_S → Prop) (k_Bk : ∀ (x1 : Int32)  (σ : ab_S), Wire σ → Bk x1 σ → V l mdX12_begin B 1 23 0 0 (ab_End (fun v σ' => Wire σ' ∧ ∃ r : Int32, v = some (.int r) ∧ Q r σ') (fun X σ' => Wire σ' ∧ E X σ')) 97 [(0, .ref 92), (1, .int x1)] [] σ), ∀ (x1 : Int32)  (σ : ab_S), Wire σ → wX12_begin_l97_b Q E K118 Bk x1 σ → V l mdX12_begin B 1 23 0 0 (ab_End (fun v σ' => Wire σ' ∧ ∃ r : Int32, v = some (.int r) ∧ Q r σ') (fun X σ' => Wire σ' ∧ E X σ')) 97 [(0, .ref 92), (1, .int x1)] [] σ := by
      intro K118 k_K118 Bk k_Bk
      intro x1  σ hW h
      refine V_iload_n 58 1 rfl rfl rfl ?_
      refine V_aload_n 59 0 rfl rfl rfl ?_
      refine V_get (v := .int (σ.2.1 92 53)) 60 53 rfl clX12 flX12_521 (by decide) (wsh hW rfl) (fun _ => rfl) ?_
      refine V_icmp_ge 61 (tgt := 118) rfl (by decide) (fun hc => ?_) (fun hc => ?_)
      · replace h := h.1 hc
        refine V_sub [0] (lv' := [(0, .ref 92)]) rfl ?_
        exact k_K118  σ hW h
      · replace h := h.2 hc
        refine V_pc 105 rfl ?_
        refine V_aload_n 62 0 rfl rfl rfl ?_
        refine V_getR 63 89 rfl clX12 flX12_201 (by decide) (wsh hW rfl) (fun _ => rfl) (wrf hW 157 rfl) ?_
        refine V_iload_n 64 1 rfl rfl rfl ?_
        refine V_iconst 65 (v := (0 : Int32)) rfl (by decide) ?_
        obtain ⟨hin, h⟩ := h
        refine V_iast 66 rfl (wsh hW rfl) hin ?_
        refine V_nm (fun σ4 eσ4 => ?_)
        replace h := h σ4 eσ4
        have hW := wire_I eσ4 hW
        obtain ⟨v5, ev5⟩ : ∃ z : Int32, z = (x1 + 1) := ⟨_, rfl⟩
        replace h := h v5 ev5
        refine V_iinc 67 1 (v := v5) (lv' := [(1, .int v5), (0, .ref 92)]) rfl rfl ((in_1 _).trans ev5.symm) (by decide) rfl ?_
        refine V_pc 115 rfl ?_
        refine V_goto 68 (tgt := 97) rfl (by decide) ?_
        refine V_sub [1, 0] (lv' := [(0, .ref 92), (1, .int v5)]) rfl ?_
        exact k_Bk v5  σ4 hW h
    intro n
    induction n with
    | zero => intro x1  σ hW h; exact absurd h id
    | succ n ih => exact step _ k_j118 _ ih
  have k_j95 : ∀   (σ : ab_S), Wire σ → wX12_begin_j95 Q E  σ → V l mdX12_begin B 1 23 0 0 (ab_End (fun v σ' => Wire σ' ∧ ∃ r : Int32, v = some (.int r) ∧ Q r σ') (fun X σ' => Wire σ' ∧ E X σ')) 95 [(0, .ref 92)] [] σ := by
    intro   σ hW h
    refine V_iconst 56 (v := (0 : Int32)) rfl (by decide) ?_
    refine V_istore_n 57 (lv' := [(1, .int (0 : Int32)), (0, .ref 92)]) rfl rfl (by decide) rfl ?_
    refine V_sub [1, 0] (lv' := [(0, .ref 92), (1, .int (0 : Int32))]) rfl ?_
    obtain ⟨n, h⟩ := h
    exact k_l97 n (0 : Int32) σ hW h
  have k_l68 : ∀ (n : Nat) (x1 : Int32)  (σ : ab_S), Wire σ → wX12_begin_l68 Q E (wX12_begin_j95 Q E) n x1 σ → V l mdX12_begin B 1 23 0 0 (ab_End (fun v σ' => Wire σ' ∧ ∃ r : Int32, v = some (.int r) ∧ Q r σ') (fun X σ' => Wire σ' ∧ E X σ')) 68 [(0, .ref 92), (1, .int x1)] [] σ := by
    have step : ∀ (K95 : ab_S → Prop) (k_K95 : ∀   (σ : ab_S), Wire σ → K95  σ → V l mdX12_begin B 1 23 0 0 (ab_End (fun v σ' => Wire σ' ∧ ∃ r : Int32, v = some (.int r) ∧ Q r σ') (fun X σ' => Wire σ' ∧ E X σ')) 95 [(0, .ref 92)] [] σ), ∀ (Bk : Int32 → ab_S → Prop) (k_Bk : ∀ (x1 : Int32)  (σ : ab_S), Wire σ → Bk x1 σ → V l mdX12_begin B 1 23 0 0 (ab_End (fun v σ' => Wire σ' ∧ ∃ r : Int32, v = some (.int r) ∧ Q r σ') (fun X σ' => Wire σ' ∧ E X σ')) 68 [(0, .ref 92), (1, .int x1)] [] σ), ∀ (x1 : Int32)  (σ : ab_S), Wire σ → wX12_begin_l68_b Q E K95 Bk x1 σ → V l mdX12_begin B 1 23 0 0 (ab_End (fun v σ' => Wire σ' ∧ ∃ r : Int32, v = some (.int r) ∧ Q r σ') (fun X σ' => Wire σ' ∧ E X σ')) 68 [(0, .ref 92), (1, .int x1)] [] σ := by
      intro K95 k_K95 Bk k_Bk
      intro x1  σ hW h
      refine V_iload_n 41 1 rfl rfl rfl ?_
      refine V_sipush 42 (v := (2008 : Int32)) rfl (by decide) ?_
      refine V_icmp_ge 43 (tgt := 95) rfl (by decide) (fun hc => ?_) (fun hc => ?_)
      · replace h := h.1 hc
        refine V_sub [0] (lv' := [(0, .ref 92)]) rfl ?_
        exact k_K95  σ hW h
      · replace h := h.2 hc
        refine V_pc 75 rfl ?_
        refine V_aload_n 44 0 rfl rfl rfl ?_
        refine V_getR 45 95 rfl clX12 flX12_216 (by decide) (wsh hW rfl) (fun _ => rfl) (wrf hW 162 rfl) ?_
        refine V_iload_n 46 1 rfl rfl rfl ?_
        refine V_iconst 47 (v := (0 : Int32)) rfl (by decide) ?_
        obtain ⟨hin, h⟩ := h
        refine V_iast 48 rfl (wsh hW rfl) hin ?_
        refine V_nm (fun σ6 eσ6 => ?_)
        replace h := h σ6 eσ6
        have hW := wire_I eσ6 hW
        refine V_aload_n 49 0 rfl rfl rfl ?_
        refine V_pc 83 rfl ?_
        refine V_getR 50 96 rfl clX12 flX12_219 (by decide) (wsh hW rfl) (fun _ => rfl) (wrf hW 163 rfl) ?_
        refine V_iload_n 51 1 rfl rfl rfl ?_
        refine V_iconst 52 (v := (0 : Int32)) rfl (by decide) ?_
        obtain ⟨hin, h⟩ := h
        refine V_zast 53 rfl (wsh hW rfl) hin ?_
        refine V_nm (fun σ7 eσ7 => ?_)
        replace h := h σ7 eσ7
        have hW := wire_I eσ7 hW
        obtain ⟨v8, ev8⟩ : ∃ z : Int32, z = (x1 + 1) := ⟨_, rfl⟩
        replace h := h v8 ev8
        refine V_iinc 54 1 (v := v8) (lv' := [(1, .int v8), (0, .ref 92)]) rfl rfl ((in_1 _).trans ev8.symm) (by decide) rfl ?_
        refine V_goto 55 (tgt := 68) rfl (by decide) ?_
        refine V_sub [1, 0] (lv' := [(0, .ref 92), (1, .int v8)]) rfl ?_
        exact k_Bk v8  σ7 hW h
    intro n
    induction n with
    | zero => intro x1  σ hW h; exact absurd h id
    | succ n ih => exact step _ k_j95 _ ih
  have k_j66 : ∀   (σ : ab_S), Wire σ → wX12_begin_j66 Q E  σ → V l mdX12_begin B 1 23 0 0 (ab_End (fun v σ' => Wire σ' ∧ ∃ r : Int32, v = some (.int r) ∧ Q r σ') (fun X σ' => Wire σ' ∧ E X σ')) 66 [(0, .ref 92)] [] σ := by
    intro   σ hW h
    refine V_iconst 39 (v := (0 : Int32)) rfl (by decide) ?_
    refine V_istore_n 40 (lv' := [(1, .int (0 : Int32)), (0, .ref 92)]) rfl rfl (by decide) rfl ?_
    refine V_sub [1, 0] (lv' := [(0, .ref 92), (1, .int (0 : Int32))]) rfl ?_
    obtain ⟨n, h⟩ := h
    exact k_l68 n (0 : Int32) σ hW h
  have k_l40 : ∀ (n : Nat) (x1 : Int32)  (σ : ab_S), Wire σ → wX12_begin_l40 Q E (wX12_begin_j66 Q E) n x1 σ → V l mdX12_begin B 1 23 0 0 (ab_End (fun v σ' => Wire σ' ∧ ∃ r : Int32, v = some (.int r) ∧ Q r σ') (fun X σ' => Wire σ' ∧ E X σ')) 40 [(0, .ref 92), (1, .int x1)] [] σ := by
    have step : ∀ (K66 : ab_S → Prop) (k_K66 : ∀   (σ : ab_S), Wire σ → K66  σ → V l mdX12_begin B 1 23 0 0 (ab_End (fun v σ' => Wire σ' ∧ ∃ r : Int32, v = some (.int r) ∧ Q r σ') (fun X σ' => Wire σ' ∧ E X σ')) 66 [(0, .ref 92)] [] σ), ∀ (Bk : Int32 → ab_S → Prop) (k_Bk : ∀ (x1 : Int32)  (σ : ab_S), Wire σ → Bk x1 σ → V l mdX12_begin B 1 23 0 0 (ab_End (fun v σ' => Wire σ' ∧ ∃ r : Int32, v = some (.int r) ∧ Q r σ') (fun X σ' => Wire σ' ∧ E X σ')) 40 [(0, .ref 92), (1, .int x1)] [] σ), ∀ (x1 : Int32)  (σ : ab_S), Wire σ → wX12_begin_l40_b Q E K66 Bk x1 σ → V l mdX12_begin B 1 23 0 0 (ab_End (fun v σ' => Wire σ' ∧ ∃ r : Int32, v = some (.int r) ∧ Q r σ') (fun X σ' => Wire σ' ∧ E X σ')) 40 [(0, .ref 92), (1, .int x1)] [] σ := by
      intro K66 k_K66 Bk k_Bk
      intro x1  σ hW h
      refine V_iload_n 24 1 rfl rfl rfl ?_
      refine V_bipush 25 (v := (104 : Int32)) rfl (by decide) ?_
      refine V_icmp_ge 26 (tgt := 66) rfl (by decide) (fun hc => ?_) (fun hc => ?_)
      · replace h := h.1 hc
        refine V_sub [0] (lv' := [(0, .ref 92)]) rfl ?_
        exact k_K66  σ hW h
      · replace h := h.2 hc
        refine V_pc 46 rfl ?_
        refine V_aload_n 27 0 rfl rfl rfl ?_
        refine V_getR 28 93 rfl clX12 flX12_210 (by decide) (wsh hW rfl) (fun _ => rfl) (wrf hW 160 rfl) ?_
        refine V_iload_n 29 1 rfl rfl rfl ?_
        refine V_iconst 30 (v := (0 : Int32)) rfl (by decide) ?_
        obtain ⟨hin, h⟩ := h
        refine V_iast 31 rfl (wsh hW rfl) hin ?_
        refine V_nm (fun σ9 eσ9 => ?_)
        replace h := h σ9 eσ9
        have hW := wire_I eσ9 hW
        refine V_aload_n 32 0 rfl rfl rfl ?_
        refine V_pc 54 rfl ?_
        refine V_getR 33 94 rfl clX12 flX12_213 (by decide) (wsh hW rfl) (fun _ => rfl) (wrf hW 161 rfl) ?_
        refine V_iload_n 34 1 rfl rfl rfl ?_
        refine V_iconst 35 (v := (0 : Int32)) rfl (by decide) ?_
        obtain ⟨hin, h⟩ := h
        refine V_zast 36 rfl (wsh hW rfl) hin ?_
        refine V_nm (fun σ10 eσ10 => ?_)
        replace h := h σ10 eσ10
        have hW := wire_I eσ10 hW
        obtain ⟨v11, ev11⟩ : ∃ z : Int32, z = (x1 + 1) := ⟨_, rfl⟩
        replace h := h v11 ev11
        refine V_iinc 37 1 (v := v11) (lv' := [(1, .int v11), (0, .ref 92)]) rfl rfl ((in_1 _).trans ev11.symm) (by decide) rfl ?_
        refine V_goto 38 (tgt := 40) rfl (by decide) ?_
        refine V_sub [1, 0] (lv' := [(0, .ref 92), (1, .int v11)]) rfl ?_
        exact k_Bk v11  σ10 hW h
    intro n
    induction n with
    | zero => intro x1  σ hW h; exact absurd h id
    | succ n ih => exact step _ k_j66 _ ih
  have k_j13 : ∀ (y0 : Int32)  (σ : ab_S), Wire σ → wX12_begin_j13 Q E y0 σ → V l mdX12_begin B 1 23 0 0 (ab_End (fun v σ' => Wire σ' ∧ ∃ r : Int32, v = some (.int r) ∧ Q r σ') (fun X σ' => Wire σ' ∧ E X σ')) 13 [(0, .ref 92)] [.int y0, .ref 92] σ := by
    intro y0  σ hW h
    refine V_iconst 7 (v := (0 : Int32)) rfl (by decide) ?_
    refine V_iconst 8 (v := (0 : Int32)) rfl (by decide) ?_
    refine V_callV 9 3 (as := [.int y0, .int (0 : Int32), .int (0 : Int32)]) (rest := []) rfl mlX12_245 yvX12_refuse rfl rfl clX12 (wsh hW rfl) (by decide) (by decide) (Nat.le_of_ble_eq_true rfl) (by decide) (by decide) (fun B9 => ceX12_refuse hl B9 hW h) (fun X9 τ9 h9 => VX_out rfl h9) ?_
    rintro v9 σ12 ⟨hW, u13, rfl, h⟩
    refine V_if_eq 10 (tgt := 23) rfl (by decide) (fun hc => ?_) (fun hc => ?_)
    · replace h := h.1 hc
      refine V_aload_n 13 0 rfl rfl rfl ?_
      refine V_iconst 14 (v := (1 : Int32)) rfl (by decide) ?_
      refine V_putI 15 83 rfl clX12 flX12_505 (by decide) (wsh hW rfl) rfl (fun _ _ => rfl) rfl rfl ?_
      refine V_nm (fun σ14 eσ14 => ?_)
      replace h := h σ14 eσ14
      have hW := wire_I eσ14 hW
      refine V_aload_n 16 0 rfl rfl rfl ?_
      refine V_iconst 17 (v := (0 : Int32)) rfl (by decide) ?_
      refine V_putI 18 85 rfl clX12 flX12_578 (by decide) (wsh hW rfl) rfl (fun _ _ => rfl) rfl rfl ?_
      refine V_nm (fun σ15 eσ15 => ?_)
      replace h := h σ15 eσ15
      have hW := wire_I eσ15 hW
      refine V_aload_n 19 0 rfl rfl rfl ?_
      refine V_iconst 20 (v := (0 : Int32)) rfl (by decide) ?_
      refine V_putI 21 90 rfl clX12 flX12_581 (by decide) (wsh hW rfl) rfl (fun _ _ => rfl) rfl rfl ?_
      refine V_nm (fun σ16 eσ16 => ?_)
      replace h := h σ16 eσ16
      have hW := wire_I eσ16 hW
      refine V_iconst 22 (v := (0 : Int32)) rfl (by decide) ?_
      refine V_istore_n 23 (lv' := [(1, .int (0 : Int32)), (0, .ref 92)]) rfl rfl (by decide) rfl ?_
      refine V_sub [1, 0] (lv' := [(0, .ref 92), (1, .int (0 : Int32))]) rfl ?_
      obtain ⟨n, h⟩ := h
      exact k_l40 n (0 : Int32) σ16 hW h
    · replace h := h.2 hc
      refine V_pc 21 rfl ?_
      refine V_iconst 11 (v := (0 : Int32)) rfl (by decide) ?_
      exact V_iret 12 rfl rfl ⟨hW, _, rfl, h⟩
  intro σ hW h
  refine V_aload_n 0 0 rfl rfl rfl ?_
  refine V_aload_n 1 0 rfl rfl rfl ?_
  refine V_get (v := .int (σ.2.1 92 52)) 2 52 rfl clX12 flX12_502 (by decide) (wsh hW rfl) (fun _ => rfl) ?_
  refine V_if_ne 3 (tgt := 12) rfl (by decide) (fun hc => ?_) (fun hc => ?_)
  · replace h := h.1 hc
    refine V_iconst 6 (v := (0 : Int32)) rfl (by decide) ?_
    exact k_j13 (0 : Int32) σ hW h
  · replace h := h.2 hc
    refine V_pc 8 rfl ?_
    refine V_iconst 4 (v := (1 : Int32)) rfl (by decide) ?_
    refine V_goto 5 (tgt := 13) rfl (by decide) ?_
    exact k_j13 (1 : Int32) σ hW h

def wX12_pushes_j17 (a0 : Int32) (a1 : Int32) (Q : ab_S → Prop) (E : String → ab_S → Prop) (y0 : Int32) (y1 : Int32) (σ : ab_S) : Prop := vp_in y1 3000 ∧ (∀ σ1 : ab_S, σ1 = ab_I σ 157 y1.toNatClampNeg y0 → vp_in (σ1.2.1 92 90) 3000 ∧ (∀ σ2 : ab_S, σ2 = ab_I σ1 158 (σ1.2.1 92 90).toNatClampNeg (vp_nar .boolean a1) → (∀ σ3 : ab_S, σ3 = ab_I σ2 92 90 ((σ2.2.1 92 90) + (1 : Int32)) → Q σ3)))
def wX12_pushes (a0 : Int32) (a1 : Int32) (Q : ab_S → Prop) (E : String → ab_S → Prop) (σ : ab_S) : Prop := ((a1 = 0) → wX12_pushes_j17 a0 a1 Q E a0 (σ.2.1 92 90) σ) ∧ (¬ (a1 = 0) → wX12_pushes_j17 a0 a1 Q E (0 : Int32) (σ.2.1 92 90) σ)
set_option maxHeartbeats 4000000 in
set_option maxRecDepth 100000 in
theorem ceX12_pushes {l : Launch} (hl : l.stackTraces = false) (B : Nat) {a0 : Int32} {a1 : Int32}  {Q : ab_S → Prop} {E : String → ab_S → Prop} {σ : ab_S} (hW : Wire σ) (h : wX12_pushes a0 a1 Q E σ) : ab_Mt l yX12_pushes mdX12_pushes B 0 0 0 0 [.ref 92, .int a0, .int a1] σ (fun v σ' => Wire σ' ∧ v = none ∧ Q σ') (fun X σ' => Wire σ' ∧ E X σ') := by
  refine V_met hl ⟨rfl, rfl, by decide⟩ rfl dkX12_pushes (Nat.le_of_ble_eq_true rfl) ?_
  show V l mdX12_pushes B 0 0 0 0 (ab_End _ _) 0 [(0, .ref 92), (1, .int a0), (2, .int a1)] [] σ
  revert h hW
  revert σ
  have k_j17 : ∀ (y0 : Int32) (y1 : Int32)  (σ : ab_S), Wire σ → wX12_pushes_j17 a0 a1 Q E y0 y1 σ → V l mdX12_pushes B 0 0 0 0 (ab_End (fun v σ' => Wire σ' ∧ v = none ∧ Q σ') (fun X σ' => Wire σ' ∧ E X σ')) 17 [(0, .ref 92), (2, .int a1)] [.int y0, .int y1, .ref 157] σ := by
    intro y0 y1  σ hW h
    obtain ⟨hin, h⟩ := h
    refine V_iast 9 rfl (wsh hW rfl) hin ?_
    refine V_nm (fun σ1 eσ1 => ?_)
    replace h := h σ1 eσ1
    have hW := wire_I eσ1 hW
    refine V_aload_n 10 0 rfl rfl rfl ?_
    refine V_getR 11 92 rfl clX12 flX12_207 (by decide) (wsh hW rfl) (fun _ => rfl) (wrf hW 159 rfl) ?_
    refine V_aload_n 12 0 rfl rfl rfl ?_
    refine V_get (v := .int (σ1.2.1 92 90)) 13 90 rfl clX12 flX12_581 (by decide) (wsh hW rfl) (fun _ => rfl) ?_
    refine V_iload_n 14 1 rfl rfl rfl ?_
    refine V_pc 27 rfl ?_
    obtain ⟨hin, h⟩ := h
    refine V_zast 15 rfl (wsh hW rfl) hin ?_
    refine V_nm (fun σ2 eσ2 => ?_)
    replace h := h σ2 eσ2
    have hW := wire_I eσ2 hW
    refine V_aload_n 16 0 rfl rfl rfl ?_
    refine V_dup 17 rfl rfl ?_
    refine V_get (v := .int (σ2.2.1 92 90)) 18 90 rfl clX12 flX12_581 (by decide) (wsh hW rfl) (fun _ => rfl) ?_
    refine V_iconst 19 (v := (1 : Int32)) rfl (by decide) ?_
    refine V_iadd 20 rfl ?_
    refine V_pc 35 rfl ?_
    refine V_putI 21 90 rfl clX12 flX12_581 (by decide) (wsh hW rfl) rfl (fun _ _ => rfl) rfl rfl ?_
    refine V_nm (fun σ3 eσ3 => ?_)
    replace h := h σ3 eσ3
    have hW := wire_I eσ3 hW
    exact V_vret 22 rfl rfl ⟨hW, rfl, h⟩
  intro σ hW h
  refine V_aload_n 0 0 rfl rfl rfl ?_
  refine V_getR 1 91 rfl clX12 flX12_204 (by decide) (wsh hW rfl) (fun _ => rfl) (wrf hW 158 rfl) ?_
  refine V_aload_n 2 0 rfl rfl rfl ?_
  refine V_get (v := .int (σ.2.1 92 90)) 3 90 rfl clX12 flX12_581 (by decide) (wsh hW rfl) (fun _ => rfl) ?_
  refine V_iload_n 4 2 rfl rfl rfl ?_
  refine V_if_eq 5 (tgt := 16) rfl (by decide) (fun hc => ?_) (fun hc => ?_)
  · replace h := h.1 hc
    refine V_iload_n 8 1 rfl rfl rfl ?_
    refine V_sub [0, 2] (lv' := [(0, .ref 92), (2, .int a1)]) rfl ?_
    exact k_j17 a0 (σ.2.1 92 90) σ hW h
  · replace h := h.2 hc
    refine V_pc 12 rfl ?_
    refine V_iconst 6 (v := (0 : Int32)) rfl (by decide) ?_
    refine V_goto 7 (tgt := 17) rfl (by decide) ?_
    refine V_sub [0, 2] (lv' := [(0, .ref 92), (2, .int a1)]) rfl ?_
    exact k_j17 (0 : Int32) (σ.2.1 92 90) σ hW h

def wX12_inFrame_j145 (a0 : Int32) (a1 : Int32) (Q : Int32 → ab_S → Prop) (E : String → ab_S → Prop) (Bk : Int32 → Int32 → Int32 → ab_S → Prop) (x3 : Int32) (x4 : Int32) (x5 : Int32) (σ : ab_S) : Prop := ∀ v1 : Int32, v1 = (x5 + 1) → Bk x3 x4 v1 σ
def wX12_inFrame_j138 (a0 : Int32) (a1 : Int32) (Q : Int32 → ab_S → Prop) (E : String → ab_S → Prop) (K145 : Int32 → Int32 → Int32 → ab_S → Prop) (Bk : Int32 → Int32 → Int32 → Int32 → Int32 → ab_S → Prop) (x4 : Int32) (x5 : Int32) (x6 : Int32) (x7 : Int32) (y0 : Int32) (σ : ab_S) : Prop := ∀ v2 : Int32, v2 = (x7 + 1) → Bk y0 x4 x5 x6 v2 σ
def wX12_inFrame_j124 (a0 : Int32) (a1 : Int32) (Q : Int32 → ab_S → Prop) (E : String → ab_S → Prop) (K145 : Int32 → Int32 → Int32 → ab_S → Prop) (Bk : Int32 → Int32 → Int32 → Int32 → Int32 → ab_S → Prop) (x3 : Int32) (x5 : Int32) (x6 : Int32) (x7 : Int32) (x8 : Int32) (y0 : Int32) (σ : ab_S) : Prop := ((x8 = 0) → wX12_inFrame_j138 a0 a1 Q E K145 Bk y0 x5 x6 x7 x3 σ) ∧ (¬ (x8 = 0) → wX12_inFrame_j138 a0 a1 Q E K145 Bk y0 x5 x6 x7 (x3 - (1 : Int32)) σ)
def wX12_inFrame_j122 (a0 : Int32) (a1 : Int32) (Q : Int32 → ab_S → Prop) (E : String → ab_S → Prop) (K145 : Int32 → Int32 → Int32 → ab_S → Prop) (Bk : Int32 → Int32 → Int32 → Int32 → Int32 → ab_S → Prop) (x3 : Int32) (x4 : Int32) (x5 : Int32) (x6 : Int32) (x7 : Int32) (x8 : Int32) (σ : ab_S) : Prop := wX12_inFrame_j124 a0 a1 Q E K145 Bk x3 x5 x6 x7 x8 x4 σ
def wX12_inFrame_j89 (a0 : Int32) (a1 : Int32) (Q : Int32 → ab_S → Prop) (E : String → ab_S → Prop) (K145 : Int32 → Int32 → Int32 → ab_S → Prop) (Bk : Int32 → Int32 → Int32 → Int32 → Int32 → ab_S → Prop) (x3 : Int32) (x4 : Int32) (x5 : Int32) (x6 : Int32) (x7 : Int32) (y0 : Int32) (σ : ab_S) : Prop := ((y0 = 0) → wX12_inFrame_j122 a0 a1 Q E K145 Bk x3 x4 x5 x6 x7 y0 σ) ∧ (¬ (y0 = 0) → ((¬ x3 = 0) → wX12_inFrame_j122 a0 a1 Q E K145 Bk x3 x4 x5 x6 x7 y0 σ) ∧ (¬ (¬ x3 = 0) → vp_in ((((3 : Int32) * a0) + x5) - (1 : Int32)) 753 ∧ (wX12_inFrame_j124 a0 a1 Q E K145 Bk x3 x5 x6 x7 y0 (((8 : Int32) * (σ.2.1 132 ((((3 : Int32) * a0) + x5) - (1 : Int32)).toNatClampNeg)) + x7) σ)))
def wX12_inFrame_l50_b (a0 : Int32) (a1 : Int32) (Q : Int32 → ab_S → Prop) (E : String → ab_S → Prop) (K145 : Int32 → Int32 → Int32 → ab_S → Prop) (Bk : Int32 → Int32 → Int32 → Int32 → Int32 → ab_S → Prop) (x3 : Int32) (x4 : Int32) (x5 : Int32) (x6 : Int32) (x7 : Int32) (σ : ab_S) : Prop := vp_in x6 13 ∧ ((((σ.2.1 99 x6.toNatClampNeg) ≤ x7) → K145 x3 x4 x5 σ) ∧ (¬ ((σ.2.1 99 x6.toNatClampNeg) ≤ x7) → ((0 ≤ x4) → K145 x3 x4 x5 σ) ∧ (¬ (0 ≤ x4) → vp_in (((8 : Int32) * x6) + x7) 104 ∧ (((¬ (σ.2.1 123 (((8 : Int32) * x6) + x7).toNatClampNeg) = (1 : Int32)) → wX12_inFrame_j89 a0 a1 Q E K145 Bk x3 x4 x5 x6 x7 (0 : Int32) σ) ∧ (¬ (¬ (σ.2.1 123 (((8 : Int32) * x6) + x7).toNatClampNeg) = (1 : Int32)) → wX12_inFrame_j89 a0 a1 Q E K145 Bk x3 x4 x5 x6 x7 (1 : Int32) σ)))))
def wX12_inFrame_l50 (a0 : Int32) (a1 : Int32) (Q : Int32 → ab_S → Prop) (E : String → ab_S → Prop) (K145 : Int32 → Int32 → Int32 → ab_S → Prop) : Nat → Int32 → Int32 → Int32 → Int32 → Int32 → ab_S → Prop
  | 0, _, _, _, _, _, _ => False
  | n + 1, x3, x4, x5, x6, x7, σ => wX12_inFrame_l50_b a0 a1 Q E K145 (wX12_inFrame_l50 a0 a1 Q E K145 n) x3 x4 x5 x6 x7 σ
def wX12_inFrame_l8_b (a0 : Int32) (a1 : Int32) (Q : Int32 → ab_S → Prop) (E : String → ab_S → Prop) (Bk : Int32 → Int32 → Int32 → ab_S → Prop) (x3 : Int32) (x4 : Int32) (x5 : Int32) (σ : ab_S) : Prop := vp_in a0 251 ∧ (vp_in (σ.2.1 128 a0.toNatClampNeg) 31 ∧ ((((σ.2.1 103 (σ.2.1 128 a0.toNatClampNeg).toNatClampNeg) < x5) → Q x4 σ) ∧ (¬ ((σ.2.1 103 (σ.2.1 128 a0.toNatClampNeg).toNatClampNeg) < x5) → ((0 ≤ x4) → Q x4 σ) ∧ (¬ (0 ≤ x4) → vp_in a0 251 ∧ (vp_in (((4 : Int32) * (σ.2.1 128 a0.toNatClampNeg)) + x5) 124 ∧ (∀ v3 : Int32, v3 = (σ.2.1 104 (((4 : Int32) * (σ.2.1 128 a0.toNatClampNeg)) + x5).toNatClampNeg) → ∃ n, wX12_inFrame_l50 a0 a1 Q E (wX12_inFrame_j145 a0 a1 Q E Bk) n x3 x4 x5 v3 (0 : Int32) σ))))))
def wX12_inFrame_l8 (a0 : Int32) (a1 : Int32) (Q : Int32 → ab_S → Prop) (E : String → ab_S → Prop) : Nat → Int32 → Int32 → Int32 → ab_S → Prop
  | 0, _, _, _, _ => False
  | n + 1, x3, x4, x5, σ => wX12_inFrame_l8_b a0 a1 Q E (wX12_inFrame_l8 a0 a1 Q E n) x3 x4 x5 σ
def wX12_inFrame (a0 : Int32) (a1 : Int32) (Q : Int32 → ab_S → Prop) (E : String → ab_S → Prop) (σ : ab_S) : Prop := ∃ n, wX12_inFrame_l8 a0 a1 Q E n a1 (-1 : Int32) (1 : Int32) σ
set_option maxHeartbeats 4000000 in
set_option maxRecDepth 100000 in
theorem ceX12_inFrame {l : Launch} (hl : l.stackTraces = false) (B : Nat) {a0 : Int32} {a1 : Int32}  {Q : Int32 → ab_S → Prop} {E : String → ab_S → Prop} {σ : ab_S} (hW : Wire σ) (h : wX12_inFrame a0 a1 Q E σ) : ab_Mt l yX12_inFrame mdX12_inFrame B 0 0 0 0 [.ref 92, .int a0, .int a1] σ (fun v σ' => Wire σ' ∧ ∃ r : Int32, v = some (.int r) ∧ Q r σ') (fun X σ' => Wire σ' ∧ E X σ') := by
  refine V_met hl ⟨rfl, rfl, by decide⟩ rfl dkX12_inFrame (Nat.le_of_ble_eq_true rfl) ?_
  show V l mdX12_inFrame B 0 0 0 0 (ab_End _ _) 0 [(0, .ref 92), (1, .int a0), (2, .int a1)] [] σ
  revert h hW
  revert σ
  have k_l8 : ∀ (n : Nat) (x3 : Int32) (x4 : Int32) (x5 : Int32)  (σ : ab_S), Wire σ → wX12_inFrame_l8 a0 a1 Q E n x3 x4 x5 σ → V l mdX12_inFrame B 0 0 0 0 (ab_End (fun v σ' => Wire σ' ∧ ∃ r : Int32, v = some (.int r) ∧ Q r σ') (fun X σ' => Wire σ' ∧ E X σ')) 8 [(0, .ref 92), (1, .int a0), (3, .int x3), (4, .int x4), (5, .int x5)] [] σ := by
    have step : ∀ (Bk : Int32 → Int32 → Int32 → ab_S → Prop) (k_Bk : ∀ (x3 : Int32) (x4 : Int32) (x5 : Int32)  (σ : ab_S), Wire σ → Bk x3 x4 x5 σ → V l mdX12_inFrame B 0 0 0 0 (ab_End (fun v σ' => Wire σ' ∧ ∃ r : Int32, v = some (.int r) ∧ Q r σ') (fun X σ' => Wire σ' ∧ E X σ')) 8 [(0, .ref 92), (1, .int a0), (3, .int x3), (4, .int x4), (5, .int x5)] [] σ), ∀ (x3 : Int32) (x4 : Int32) (x5 : Int32)  (σ : ab_S), Wire σ → wX12_inFrame_l8_b a0 a1 Q E Bk x3 x4 x5 σ → V l mdX12_inFrame B 0 0 0 0 (ab_End (fun v σ' => Wire σ' ∧ ∃ r : Int32, v = some (.int r) ∧ Q r σ') (fun X σ' => Wire σ' ∧ E X σ')) 8 [(0, .ref 92), (1, .int a0), (3, .int x3), (4, .int x4), (5, .int x5)] [] σ := by
      intro Bk k_Bk
      have k_j145 : ∀ (x3 : Int32) (x4 : Int32) (x5 : Int32)  (σ : ab_S), Wire σ → wX12_inFrame_j145 a0 a1 Q E Bk x3 x4 x5 σ → V l mdX12_inFrame B 0 0 0 0 (ab_End (fun v σ' => Wire σ' ∧ ∃ r : Int32, v = some (.int r) ∧ Q r σ') (fun X σ' => Wire σ' ∧ E X σ')) 145 [(0, .ref 92), (1, .int a0), (3, .int x3), (4, .int x4), (5, .int x5)] [] σ := by
        intro x3 x4 x5  σ hW h
        obtain ⟨v1, ev1⟩ : ∃ z : Int32, z = (x5 + 1) := ⟨_, rfl⟩
        replace h := h v1 ev1
        refine V_iinc 84 4 (v := v1) (lv' := [(5, .int v1), (0, .ref 92), (1, .int a0), (3, .int x3), (4, .int x4)]) rfl rfl ((in_1 _).trans ev1.symm) (by decide) rfl ?_
        refine V_goto 85 (tgt := 8) rfl (by decide) ?_
        refine V_sub [1, 2, 3, 4, 0] (lv' := [(0, .ref 92), (1, .int a0), (3, .int x3), (4, .int x4), (5, .int v1)]) rfl ?_
        exact k_Bk x3 x4 v1  σ hW h
      have k_l50 : ∀ (n : Nat) (x3 : Int32) (x4 : Int32) (x5 : Int32) (x6 : Int32) (x7 : Int32)  (σ : ab_S), Wire σ → wX12_inFrame_l50 a0 a1 Q E (wX12_inFrame_j145 a0 a1 Q E Bk) n x3 x4 x5 x6 x7 σ → V l mdX12_inFrame B 0 0 0 0 (ab_End (fun v σ' => Wire σ' ∧ ∃ r : Int32, v = some (.int r) ∧ Q r σ') (fun X σ' => Wire σ' ∧ E X σ')) 50 [(0, .ref 92), (1, .int a0), (3, .int x3), (4, .int x4), (5, .int x5), (6, .int x6), (7, .int x7)] [] σ := by
        have step : ∀ (K145 : Int32 → Int32 → Int32 → ab_S → Prop) (k_K145 : ∀ (x3 : Int32) (x4 : Int32) (x5 : Int32)  (σ : ab_S), Wire σ → K145 x3 x4 x5 σ → V l mdX12_inFrame B 0 0 0 0 (ab_End (fun v σ' => Wire σ' ∧ ∃ r : Int32, v = some (.int r) ∧ Q r σ') (fun X σ' => Wire σ' ∧ E X σ')) 145 [(0, .ref 92), (1, .int a0), (3, .int x3), (4, .int x4), (5, .int x5)] [] σ), ∀ (Bk : Int32 → Int32 → Int32 → Int32 → Int32 → ab_S → Prop) (k_Bk : ∀ (x3 : Int32) (x4 : Int32) (x5 : Int32) (x6 : Int32) (x7 : Int32)  (σ : ab_S), Wire σ → Bk x3 x4 x5 x6 x7 σ → V l mdX12_inFrame B 0 0 0 0 (ab_End (fun v σ' => Wire σ' ∧ ∃ r : Int32, v = some (.int r) ∧ Q r σ') (fun X σ' => Wire σ' ∧ E X σ')) 50 [(0, .ref 92), (1, .int a0), (3, .int x3), (4, .int x4), (5, .int x5), (6, .int x6), (7, .int x7)] [] σ), ∀ (x3 : Int32) (x4 : Int32) (x5 : Int32) (x6 : Int32) (x7 : Int32)  (σ : ab_S), Wire σ → wX12_inFrame_l50_b a0 a1 Q E K145 Bk x3 x4 x5 x6 x7 σ → V l mdX12_inFrame B 0 0 0 0 (ab_End (fun v σ' => Wire σ' ∧ ∃ r : Int32, v = some (.int r) ∧ Q r σ') (fun X σ' => Wire σ' ∧ E X σ')) 50 [(0, .ref 92), (1, .int a0), (3, .int x3), (4, .int x4), (5, .int x5), (6, .int x6), (7, .int x7)] [] σ := by
          intro K145 k_K145 Bk k_Bk
          have k_j138 : ∀ (x4 : Int32) (x5 : Int32) (x6 : Int32) (x7 : Int32) (y0 : Int32)  (σ : ab_S), Wire σ → wX12_inFrame_j138 a0 a1 Q E K145 Bk x4 x5 x6 x7 y0 σ → V l mdX12_inFrame B 0 0 0 0 (ab_End (fun v σ' => Wire σ' ∧ ∃ r : Int32, v = some (.int r) ∧ Q r σ') (fun X σ' => Wire σ' ∧ E X σ')) 138 [(0, .ref 92), (1, .int a0), (4, .int x4), (5, .int x5), (6, .int x6), (7, .int x7)] [.int y0] σ := by
            intro x4 x5 x6 x7 y0  σ hW h
            refine V_istore_n 81 (lv' := [(3, .int y0), (0, .ref 92), (1, .int a0), (4, .int x4), (5, .int x5), (6, .int x6), (7, .int x7)]) rfl rfl (by decide) rfl ?_
            obtain ⟨v2, ev2⟩ : ∃ z : Int32, z = (x7 + 1) := ⟨_, rfl⟩
            replace h := h v2 ev2
            refine V_iinc 82 6 (v := v2) (lv' := [(7, .int v2), (3, .int y0), (0, .ref 92), (1, .int a0), (4, .int x4), (5, .int x5), (6, .int x6)]) rfl rfl ((in_1 _).trans ev2.symm) (by decide) rfl ?_
            refine V_goto 83 (tgt := 50) rfl (by decide) ?_
            refine V_sub [2, 3, 1, 4, 5, 6, 0] (lv' := [(0, .ref 92), (1, .int a0), (3, .int y0), (4, .int x4), (5, .int x5), (6, .int x6), (7, .int v2)]) rfl ?_
            exact k_Bk y0 x4 x5 x6 v2  σ hW h
          have k_j124 : ∀ (x3 : Int32) (x5 : Int32) (x6 : Int32) (x7 : Int32) (x8 : Int32) (y0 : Int32)  (σ : ab_S), Wire σ → wX12_inFrame_j124 a0 a1 Q E K145 Bk x3 x5 x6 x7 x8 y0 σ → V l mdX12_inFrame B 0 0 0 0 (ab_End (fun v σ' => Wire σ' ∧ ∃ r : Int32, v = some (.int r) ∧ Q r σ') (fun X σ' => Wire σ' ∧ E X σ')) 124 [(0, .ref 92), (1, .int a0), (3, .int x3), (5, .int x5), (6, .int x6), (7, .int x7), (8, .int x8)] [.int y0] σ := by
            intro x3 x5 x6 x7 x8 y0  σ hW h
            refine V_istore 73 (lv' := [(4, .int y0), (0, .ref 92), (1, .int a0), (3, .int x3), (5, .int x5), (6, .int x6), (7, .int x7), (8, .int x8)]) rfl (by decide) rfl ?_
            refine V_iload 74 7 rfl rfl ?_
            refine V_if_eq 75 (tgt := 137) rfl (by decide) (fun hc => ?_) (fun hc => ?_)
            · replace h := h.1 hc
              refine V_iload_n 80 3 rfl rfl rfl ?_
              refine V_sub [1, 2, 0, 4, 5, 6] (lv' := [(0, .ref 92), (1, .int a0), (4, .int y0), (5, .int x5), (6, .int x6), (7, .int x7)]) rfl ?_
              exact k_j138 y0 x5 x6 x7 x3 σ hW h
            · replace h := h.2 hc
              refine V_pc 131 rfl ?_
              refine V_iload_n 76 3 rfl rfl rfl ?_
              refine V_iconst 77 (v := (1 : Int32)) rfl (by decide) ?_
              refine V_isub 78 rfl ?_
              refine V_goto 79 (tgt := 138) rfl (by decide) ?_
              refine V_sub [1, 2, 0, 4, 5, 6] (lv' := [(0, .ref 92), (1, .int a0), (4, .int y0), (5, .int x5), (6, .int x6), (7, .int x7)]) rfl ?_
              exact k_j138 y0 x5 x6 x7 (x3 - (1 : Int32)) σ hW h
          have k_j122 : ∀ (x3 : Int32) (x4 : Int32) (x5 : Int32) (x6 : Int32) (x7 : Int32) (x8 : Int32)  (σ : ab_S), Wire σ → wX12_inFrame_j122 a0 a1 Q E K145 Bk x3 x4 x5 x6 x7 x8 σ → V l mdX12_inFrame B 0 0 0 0 (ab_End (fun v σ' => Wire σ' ∧ ∃ r : Int32, v = some (.int r) ∧ Q r σ') (fun X σ' => Wire σ' ∧ E X σ')) 122 [(0, .ref 92), (1, .int a0), (3, .int x3), (4, .int x4), (5, .int x5), (6, .int x6), (7, .int x7), (8, .int x8)] [] σ := by
            intro x3 x4 x5 x6 x7 x8  σ hW h
            refine V_iload 72 3 rfl rfl ?_
            refine V_sub [0, 1, 2, 4, 5, 6, 7] (lv' := [(0, .ref 92), (1, .int a0), (3, .int x3), (5, .int x5), (6, .int x6), (7, .int x7), (8, .int x8)]) rfl ?_
            exact k_j124 x3 x5 x6 x7 x8 x4 σ hW h
          have k_j89 : ∀ (x3 : Int32) (x4 : Int32) (x5 : Int32) (x6 : Int32) (x7 : Int32) (y0 : Int32)  (σ : ab_S), Wire σ → wX12_inFrame_j89 a0 a1 Q E K145 Bk x3 x4 x5 x6 x7 y0 σ → V l mdX12_inFrame B 0 0 0 0 (ab_End (fun v σ' => Wire σ' ∧ ∃ r : Int32, v = some (.int r) ∧ Q r σ') (fun X σ' => Wire σ' ∧ E X σ')) 89 [(0, .ref 92), (1, .int a0), (3, .int x3), (4, .int x4), (5, .int x5), (6, .int x6), (7, .int x7)] [.int y0] σ := by
            intro x3 x4 x5 x6 x7 y0  σ hW h
            refine V_istore 52 (lv' := [(8, .int y0), (0, .ref 92), (1, .int a0), (3, .int x3), (4, .int x4), (5, .int x5), (6, .int x6), (7, .int x7)]) rfl (by decide) rfl ?_
            refine V_iload 53 0 rfl rfl ?_
            refine V_if_eq 54 (tgt := 122) rfl (by decide) (fun hc => ?_) (fun hc => ?_)
            · replace h := h.1 hc
              refine V_sub [1, 2, 3, 4, 5, 6, 7, 0] (lv' := [(0, .ref 92), (1, .int a0), (3, .int x3), (4, .int x4), (5, .int x5), (6, .int x6), (7, .int x7), (8, .int y0)]) rfl ?_
              exact k_j122 x3 x4 x5 x6 x7 y0 σ hW h
            · replace h := h.2 hc
              refine V_pc 96 rfl ?_
              refine V_iload_n 55 3 rfl rfl rfl ?_
              refine V_if_ne 56 (tgt := 122) rfl (by decide) (fun hc => ?_) (fun hc => ?_)
              · replace h := h.1 hc
                refine V_sub [1, 2, 3, 4, 5, 6, 7, 0] (lv' := [(0, .ref 92), (1, .int a0), (3, .int x3), (4, .int x4), (5, .int x5), (6, .int x6), (7, .int x7), (8, .int y0)]) rfl ?_
                exact k_j122 x3 x4 x5 x6 x7 y0 σ hW h
              · replace h := h.2 hc
                refine V_pc 100 rfl ?_
                refine V_bipush 57 (v := (8 : Int32)) rfl (by decide) ?_
                refine V_aload_n 58 1 rfl rfl rfl ?_
                refine V_getR 59 58 rfl clX12 flX12_129 (by decide) (wsh hW rfl) (fun _ => rfl) (wrf hW 133 rfl) ?_
                refine V_iconst 60 (v := (3 : Int32)) rfl (by decide) ?_
                refine V_iload_n 61 2 rfl rfl rfl ?_
                refine V_imul 62 rfl ?_
                refine V_pc 109 rfl ?_
                refine V_iload 63 5 rfl rfl ?_
                refine V_iadd 64 rfl ?_
                refine V_iconst 65 (v := (1 : Int32)) rfl (by decide) ?_
                refine V_isub 66 rfl ?_
                obtain ⟨hin, h⟩ := h
                refine V_iald 67 rfl (wsh hW rfl) hin ?_
                refine V_imul 68 rfl ?_
                refine V_pc 116 rfl ?_
                refine V_iload 69 7 rfl rfl ?_
                refine V_iadd 70 rfl ?_
                refine V_goto 71 (tgt := 124) rfl (by decide) ?_
                refine V_sub [1, 2, 3, 5, 6, 7, 0] (lv' := [(0, .ref 92), (1, .int a0), (3, .int x3), (5, .int x5), (6, .int x6), (7, .int x7), (8, .int y0)]) rfl ?_
                exact k_j124 x3 x5 x6 x7 y0 (((8 : Int32) * (σ.2.1 132 ((((3 : Int32) * a0) + x5) - (1 : Int32)).toNatClampNeg)) + x7) σ hW h
          intro x3 x4 x5 x6 x7  σ hW h
          refine V_iload 31 6 rfl rfl ?_
          refine V_aload_n 32 0 rfl rfl rfl ?_
          refine V_getR 33 12 rfl clX12 flX12_29 (by decide) (wsh hW rfl) (fun _ => rfl) (wrf hW 100 rfl) ?_
          refine V_iload 34 5 rfl rfl ?_
          obtain ⟨hin, h⟩ := h
          refine V_iald 35 rfl (wsh hW rfl) hin ?_
          refine V_icmp_ge 36 (tgt := 145) rfl (by decide) (fun hc => ?_) (fun hc => ?_)
          · replace h := h.1 hc
            refine V_sub [0, 1, 2, 3, 4] (lv' := [(0, .ref 92), (1, .int a0), (3, .int x3), (4, .int x4), (5, .int x5)]) rfl ?_
            exact k_K145 x3 x4 x5  σ hW h
          · replace h := h.2 hc
            refine V_pc 62 rfl ?_
            refine V_iload 37 3 rfl rfl ?_
            refine V_if_ge 38 (tgt := 145) rfl (by decide) (fun hc => ?_) (fun hc => ?_)
            · replace h := h.1 hc
              refine V_sub [0, 1, 2, 3, 4] (lv' := [(0, .ref 92), (1, .int a0), (3, .int x3), (4, .int x4), (5, .int x5)]) rfl ?_
              exact k_K145 x3 x4 x5  σ hW h
            · replace h := h.2 hc
              refine V_pc 67 rfl ?_
              refine V_aload_n 39 0 rfl rfl rfl ?_
              refine V_getR 40 39 rfl clX12 flX12_102 (by decide) (wsh hW rfl) (fun _ => rfl) (wrf hW 124 rfl) ?_
              refine V_bipush 41 (v := (8 : Int32)) rfl (by decide) ?_
              refine V_iload 42 5 rfl rfl ?_
              refine V_imul 43 rfl ?_
              refine V_iload 44 6 rfl rfl ?_
              refine V_pc 78 rfl ?_
              refine V_iadd 45 rfl ?_
              obtain ⟨hin, h⟩ := h
              refine V_iald 46 rfl (wsh hW rfl) hin ?_
              refine V_iconst 47 (v := (1 : Int32)) rfl (by decide) ?_
              refine V_icmp_ne 48 (tgt := 88) rfl (by decide) (fun hc => ?_) (fun hc => ?_)
              · replace h := h.1 hc
                refine V_iconst 51 (v := (0 : Int32)) rfl (by decide) ?_
                exact k_j89 x3 x4 x5 x6 x7 (0 : Int32) σ hW h
              · replace h := h.2 hc
                refine V_pc 84 rfl ?_
                refine V_iconst 49 (v := (1 : Int32)) rfl (by decide) ?_
                refine V_goto 50 (tgt := 89) rfl (by decide) ?_
                exact k_j89 x3 x4 x5 x6 x7 (1 : Int32) σ hW h
        intro n
        induction n with
        | zero => intro x3 x4 x5 x6 x7  σ hW h; exact absurd h id
        | succ n ih => exact step _ k_j145 _ ih
      intro x3 x4 x5  σ hW h
      refine V_iload 6 4 rfl rfl ?_
      refine V_aload_n 7 0 rfl rfl rfl ?_
      refine V_getR 8 17 rfl clX12 flX12_42 (by decide) (wsh hW rfl) (fun _ => rfl) (wrf hW 104 rfl) ?_
      refine V_aload_n 9 0 rfl rfl rfl ?_
      refine V_getR 10 54 rfl clX12 flX12_117 (by decide) (wsh hW rfl) (fun _ => rfl) (wrf hW 129 rfl) ?_
      refine V_iload_n 11 1 rfl rfl rfl ?_
      refine V_pc 19 rfl ?_
      obtain ⟨hin, h⟩ := h
      refine V_iald 12 rfl (wsh hW rfl) hin ?_
      obtain ⟨hin, h⟩ := h
      refine V_iald 13 rfl (wsh hW rfl) hin ?_
      refine V_icmp_gt 14 (tgt := 151) rfl (by decide) (fun hc => ?_) (fun hc => ?_)
      · replace h := h.1 hc
        refine V_iload 86 3 rfl rfl ?_
        exact V_iret 87 rfl rfl ⟨hW, _, rfl, h⟩
      · replace h := h.2 hc
        refine V_pc 24 rfl ?_
        refine V_iload 15 3 rfl rfl ?_
        refine V_if_ge 16 (tgt := 151) rfl (by decide) (fun hc => ?_) (fun hc => ?_)
        · replace h := h.1 hc
          refine V_iload 86 3 rfl rfl ?_
          exact V_iret 87 rfl rfl ⟨hW, _, rfl, h⟩
        · replace h := h.2 hc
          refine V_pc 29 rfl ?_
          refine V_aload_n 17 0 rfl rfl rfl ?_
          refine V_getR 18 18 rfl clX12 flX12_45 (by decide) (wsh hW rfl) (fun _ => rfl) (wrf hW 105 rfl) ?_
          refine V_iconst 19 (v := (4 : Int32)) rfl (by decide) ?_
          refine V_aload_n 20 0 rfl rfl rfl ?_
          refine V_getR 21 54 rfl clX12 flX12_117 (by decide) (wsh hW rfl) (fun _ => rfl) (wrf hW 129 rfl) ?_
          refine V_iload_n 22 1 rfl rfl rfl ?_
          refine V_pc 39 rfl ?_
          obtain ⟨hin, h⟩ := h
          refine V_iald 23 rfl (wsh hW rfl) hin ?_
          refine V_imul 24 rfl ?_
          refine V_iload 25 4 rfl rfl ?_
          refine V_iadd 26 rfl ?_
          obtain ⟨hin, h⟩ := h
          refine V_iald 27 rfl (wsh hW rfl) hin ?_
          refine V_topi (fun v3 ev3 => ?_)
          replace h := h v3 ev3
          refine V_istore 28 (lv' := [(6, .int v3), (0, .ref 92), (1, .int a0), (3, .int x3), (4, .int x4), (5, .int x5)]) rfl (by decide) rfl ?_
          refine V_pc 47 rfl ?_
          refine V_iconst 29 (v := (0 : Int32)) rfl (by decide) ?_
          refine V_istore 30 (lv' := [(7, .int (0 : Int32)), (6, .int v3), (0, .ref 92), (1, .int a0), (3, .int x3), (4, .int x4), (5, .int x5)]) rfl (by decide) rfl ?_
          refine V_sub [2, 3, 4, 5, 6, 1, 0] (lv' := [(0, .ref 92), (1, .int a0), (3, .int x3), (4, .int x4), (5, .int x5), (6, .int v3), (7, .int (0 : Int32))]) rfl ?_
          obtain ⟨n, h⟩ := h
          exact k_l50 n x3 x4 x5 v3 (0 : Int32) σ hW h
    intro n
    induction n with
    | zero => intro x3 x4 x5  σ hW h; exact absurd h id
    | succ n ih => exact step  _ ih
  intro σ hW h
  refine V_iload_n 0 2 rfl rfl rfl ?_
  refine V_istore_n 1 (lv' := [(3, .int a1), (0, .ref 92), (1, .int a0), (2, .int a1)]) rfl rfl (by decide) rfl ?_
  refine V_iconst 2 (v := (-1 : Int32)) rfl (by decide) ?_
  refine V_istore 3 (lv' := [(4, .int (-1 : Int32)), (3, .int a1), (0, .ref 92), (1, .int a0), (2, .int a1)]) rfl (by decide) rfl ?_
  refine V_iconst 4 (v := (1 : Int32)) rfl (by decide) ?_
  refine V_istore 5 (lv' := [(5, .int (1 : Int32)), (4, .int (-1 : Int32)), (3, .int a1), (0, .ref 92), (1, .int a0), (2, .int a1)]) rfl (by decide) rfl ?_
  refine V_sub [3, 4, 2, 1, 0] (lv' := [(0, .ref 92), (1, .int a0), (3, .int a1), (4, .int (-1 : Int32)), (5, .int (1 : Int32))]) rfl ?_
  obtain ⟨n, h⟩ := h
  exact k_l8 n a1 (-1 : Int32) (1 : Int32) σ hW h

def wX12_above_j100 (a0 : Int32) (a1 : Int32) (Q : Int32 → ab_S → Prop) (E : String → ab_S → Prop) (Bk : Int32 → Int32 → Int32 → Int32 → ab_S → Prop) (x3 : Int32) (x5 : Int32) (x6 : Int32) (y0 : Int32) (σ : ab_S) : Prop := ∀ v1 : Int32, v1 = (x6 + 1) → Bk x3 y0 x5 v1 σ
def wX12_above_j84 (a0 : Int32) (a1 : Int32) (Q : Int32 → ab_S → Prop) (E : String → ab_S → Prop) (Bk : Int32 → Int32 → Int32 → Int32 → ab_S → Prop) (x3 : Int32) (x4 : Int32) (x6 : Int32) (x7 : Int32) (y0 : Int32) (σ : ab_S) : Prop := ((x7 = 0) → wX12_above_j100 a0 a1 Q E Bk x3 y0 x6 x4 σ) ∧ (¬ (x7 = 0) → wX12_above_j100 a0 a1 Q E Bk x3 y0 x6 (x4 - (1 : Int32)) σ)
def wX12_above_j82 (a0 : Int32) (a1 : Int32) (Q : Int32 → ab_S → Prop) (E : String → ab_S → Prop) (Bk : Int32 → Int32 → Int32 → Int32 → ab_S → Prop) (x3 : Int32) (x4 : Int32) (x5 : Int32) (x6 : Int32) (x7 : Int32) (σ : ab_S) : Prop := wX12_above_j84 a0 a1 Q E Bk x3 x4 x6 x7 x5 σ
def wX12_above_j60 (a0 : Int32) (a1 : Int32) (Q : Int32 → ab_S → Prop) (E : String → ab_S → Prop) (Bk : Int32 → Int32 → Int32 → Int32 → ab_S → Prop) (x3 : Int32) (x4 : Int32) (x5 : Int32) (x6 : Int32) (y0 : Int32) (σ : ab_S) : Prop := ((y0 = 0) → wX12_above_j82 a0 a1 Q E Bk x3 x4 x5 x6 y0 σ) ∧ (¬ (y0 = 0) → ((¬ x4 = 0) → wX12_above_j82 a0 a1 Q E Bk x3 x4 x5 x6 y0 σ) ∧ (¬ (¬ x4 = 0) → wX12_above_j84 a0 a1 Q E Bk x3 x4 x6 y0 (((8 : Int32) * a0) + x6) σ))
def wX12_above_l23_b (a0 : Int32) (a1 : Int32) (Q : Int32 → ab_S → Prop) (E : String → ab_S → Prop) (Bk : Int32 → Int32 → Int32 → Int32 → ab_S → Prop) (x3 : Int32) (x4 : Int32) (x5 : Int32) (x6 : Int32) (σ : ab_S) : Prop := vp_in x3 13 ∧ ((((σ.2.1 99 x3.toNatClampNeg) ≤ x6) → Q x5 σ) ∧ (¬ ((σ.2.1 99 x3.toNatClampNeg) ≤ x6) → ((0 ≤ x5) → Q x5 σ) ∧ (¬ (0 ≤ x5) → vp_in (((8 : Int32) * x3) + x6) 104 ∧ (((¬ (σ.2.1 123 (((8 : Int32) * x3) + x6).toNatClampNeg) = (1 : Int32)) → wX12_above_j60 a0 a1 Q E Bk x3 x4 x5 x6 (0 : Int32) σ) ∧ (¬ (¬ (σ.2.1 123 (((8 : Int32) * x3) + x6).toNatClampNeg) = (1 : Int32)) → wX12_above_j60 a0 a1 Q E Bk x3 x4 x5 x6 (1 : Int32) σ)))))
def wX12_above_l23 (a0 : Int32) (a1 : Int32) (Q : Int32 → ab_S → Prop) (E : String → ab_S → Prop) : Nat → Int32 → Int32 → Int32 → Int32 → ab_S → Prop
  | 0, _, _, _, _, _ => False
  | n + 1, x3, x4, x5, x6, σ => wX12_above_l23_b a0 a1 Q E (wX12_above_l23 a0 a1 Q E n) x3 x4 x5 x6 σ
def wX12_above (a0 : Int32) (a1 : Int32) (Q : Int32 → ab_S → Prop) (E : String → ab_S → Prop) (σ : ab_S) : Prop := vp_in a0 251 ∧ (vp_in ((4 : Int32) * (σ.2.1 128 a0.toNatClampNeg)) 124 ∧ (∀ v2 : Int32, v2 = (σ.2.1 104 ((4 : Int32) * (σ.2.1 128 a0.toNatClampNeg)).toNatClampNeg) → ∃ n, wX12_above_l23 a0 a1 Q E n v2 a1 (-1 : Int32) (0 : Int32) σ))
set_option maxHeartbeats 4000000 in
set_option maxRecDepth 100000 in
theorem ceX12_above {l : Launch} (hl : l.stackTraces = false) (B : Nat) {a0 : Int32} {a1 : Int32}  {Q : Int32 → ab_S → Prop} {E : String → ab_S → Prop} {σ : ab_S} (hW : Wire σ) (h : wX12_above a0 a1 Q E σ) : ab_Mt l yX12_above mdX12_above B 0 0 0 0 [.ref 92, .int a0, .int a1] σ (fun v σ' => Wire σ' ∧ ∃ r : Int32, v = some (.int r) ∧ Q r σ') (fun X σ' => Wire σ' ∧ E X σ') := by
  refine V_met hl ⟨rfl, rfl, by decide⟩ rfl dkX12_above (Nat.le_of_ble_eq_true rfl) ?_
  show V l mdX12_above B 0 0 0 0 (ab_End _ _) 0 [(0, .ref 92), (1, .int a0), (2, .int a1)] [] σ
  revert h hW
  revert σ
  have k_l23 : ∀ (n : Nat) (x3 : Int32) (x4 : Int32) (x5 : Int32) (x6 : Int32)  (σ : ab_S), Wire σ → wX12_above_l23 a0 a1 Q E n x3 x4 x5 x6 σ → V l mdX12_above B 0 0 0 0 (ab_End (fun v σ' => Wire σ' ∧ ∃ r : Int32, v = some (.int r) ∧ Q r σ') (fun X σ' => Wire σ' ∧ E X σ')) 23 [(0, .ref 92), (1, .int a0), (3, .int x3), (4, .int x4), (5, .int x5), (6, .int x6)] [] σ := by
    have step : ∀ (Bk : Int32 → Int32 → Int32 → Int32 → ab_S → Prop) (k_Bk : ∀ (x3 : Int32) (x4 : Int32) (x5 : Int32) (x6 : Int32)  (σ : ab_S), Wire σ → Bk x3 x4 x5 x6 σ → V l mdX12_above B 0 0 0 0 (ab_End (fun v σ' => Wire σ' ∧ ∃ r : Int32, v = some (.int r) ∧ Q r σ') (fun X σ' => Wire σ' ∧ E X σ')) 23 [(0, .ref 92), (1, .int a0), (3, .int x3), (4, .int x4), (5, .int x5), (6, .int x6)] [] σ), ∀ (x3 : Int32) (x4 : Int32) (x5 : Int32) (x6 : Int32)  (σ : ab_S), Wire σ → wX12_above_l23_b a0 a1 Q E Bk x3 x4 x5 x6 σ → V l mdX12_above B 0 0 0 0 (ab_End (fun v σ' => Wire σ' ∧ ∃ r : Int32, v = some (.int r) ∧ Q r σ') (fun X σ' => Wire σ' ∧ E X σ')) 23 [(0, .ref 92), (1, .int a0), (3, .int x3), (4, .int x4), (5, .int x5), (6, .int x6)] [] σ := by
      intro Bk k_Bk
      have k_j100 : ∀ (x3 : Int32) (x5 : Int32) (x6 : Int32) (y0 : Int32)  (σ : ab_S), Wire σ → wX12_above_j100 a0 a1 Q E Bk x3 x5 x6 y0 σ → V l mdX12_above B 0 0 0 0 (ab_End (fun v σ' => Wire σ' ∧ ∃ r : Int32, v = some (.int r) ∧ Q r σ') (fun X σ' => Wire σ' ∧ E X σ')) 100 [(0, .ref 92), (1, .int a0), (3, .int x3), (5, .int x5), (6, .int x6)] [.int y0] σ := by
        intro x3 x5 x6 y0  σ hW h
        refine V_istore 57 (lv' := [(4, .int y0), (0, .ref 92), (1, .int a0), (3, .int x3), (5, .int x5), (6, .int x6)]) rfl (by decide) rfl ?_
        obtain ⟨v1, ev1⟩ : ∃ z : Int32, z = (x6 + 1) := ⟨_, rfl⟩
        replace h := h v1 ev1
        refine V_iinc 58 5 (v := v1) (lv' := [(6, .int v1), (4, .int y0), (0, .ref 92), (1, .int a0), (3, .int x3), (5, .int x5)]) rfl rfl ((in_1 _).trans ev1.symm) (by decide) rfl ?_
        refine V_goto 59 (tgt := 23) rfl (by decide) ?_
        refine V_sub [2, 3, 4, 1, 5, 0] (lv' := [(0, .ref 92), (1, .int a0), (3, .int x3), (4, .int y0), (5, .int x5), (6, .int v1)]) rfl ?_
        exact k_Bk x3 y0 x5 v1  σ hW h
      have k_j84 : ∀ (x3 : Int32) (x4 : Int32) (x6 : Int32) (x7 : Int32) (y0 : Int32)  (σ : ab_S), Wire σ → wX12_above_j84 a0 a1 Q E Bk x3 x4 x6 x7 y0 σ → V l mdX12_above B 0 0 0 0 (ab_End (fun v σ' => Wire σ' ∧ ∃ r : Int32, v = some (.int r) ∧ Q r σ') (fun X σ' => Wire σ' ∧ E X σ')) 84 [(0, .ref 92), (1, .int a0), (3, .int x3), (4, .int x4), (6, .int x6), (7, .int x7)] [.int y0] σ := by
        intro x3 x4 x6 x7 y0  σ hW h
        refine V_istore 49 (lv' := [(5, .int y0), (0, .ref 92), (1, .int a0), (3, .int x3), (4, .int x4), (6, .int x6), (7, .int x7)]) rfl (by decide) rfl ?_
        refine V_iload 50 6 rfl rfl ?_
        refine V_if_eq 51 (tgt := 98) rfl (by decide) (fun hc => ?_) (fun hc => ?_)
        · replace h := h.1 hc
          refine V_iload 56 4 rfl rfl ?_
          refine V_sub [1, 2, 3, 0, 5] (lv' := [(0, .ref 92), (1, .int a0), (3, .int x3), (5, .int y0), (6, .int x6)]) rfl ?_
          exact k_j100 x3 y0 x6 x4 σ hW h
        · replace h := h.2 hc
          refine V_pc 91 rfl ?_
          refine V_iload 52 4 rfl rfl ?_
          refine V_iconst 53 (v := (1 : Int32)) rfl (by decide) ?_
          refine V_isub 54 rfl ?_
          refine V_goto 55 (tgt := 100) rfl (by decide) ?_
          refine V_sub [1, 2, 3, 0, 5] (lv' := [(0, .ref 92), (1, .int a0), (3, .int x3), (5, .int y0), (6, .int x6)]) rfl ?_
          exact k_j100 x3 y0 x6 (x4 - (1 : Int32)) σ hW h
      have k_j82 : ∀ (x3 : Int32) (x4 : Int32) (x5 : Int32) (x6 : Int32) (x7 : Int32)  (σ : ab_S), Wire σ → wX12_above_j82 a0 a1 Q E Bk x3 x4 x5 x6 x7 σ → V l mdX12_above B 0 0 0 0 (ab_End (fun v σ' => Wire σ' ∧ ∃ r : Int32, v = some (.int r) ∧ Q r σ') (fun X σ' => Wire σ' ∧ E X σ')) 82 [(0, .ref 92), (1, .int a0), (3, .int x3), (4, .int x4), (5, .int x5), (6, .int x6), (7, .int x7)] [] σ := by
        intro x3 x4 x5 x6 x7  σ hW h
        refine V_iload 48 4 rfl rfl ?_
        refine V_sub [0, 1, 2, 3, 5, 6] (lv' := [(0, .ref 92), (1, .int a0), (3, .int x3), (4, .int x4), (6, .int x6), (7, .int x7)]) rfl ?_
        exact k_j84 x3 x4 x6 x7 x5 σ hW h
      have k_j60 : ∀ (x3 : Int32) (x4 : Int32) (x5 : Int32) (x6 : Int32) (y0 : Int32)  (σ : ab_S), Wire σ → wX12_above_j60 a0 a1 Q E Bk x3 x4 x5 x6 y0 σ → V l mdX12_above B 0 0 0 0 (ab_End (fun v σ' => Wire σ' ∧ ∃ r : Int32, v = some (.int r) ∧ Q r σ') (fun X σ' => Wire σ' ∧ E X σ')) 60 [(0, .ref 92), (1, .int a0), (3, .int x3), (4, .int x4), (5, .int x5), (6, .int x6)] [.int y0] σ := by
        intro x3 x4 x5 x6 y0  σ hW h
        refine V_istore 37 (lv' := [(7, .int y0), (0, .ref 92), (1, .int a0), (3, .int x3), (4, .int x4), (5, .int x5), (6, .int x6)]) rfl (by decide) rfl ?_
        refine V_iload 38 0 rfl rfl ?_
        refine V_if_eq 39 (tgt := 82) rfl (by decide) (fun hc => ?_) (fun hc => ?_)
        · replace h := h.1 hc
          refine V_sub [1, 2, 3, 4, 5, 6, 0] (lv' := [(0, .ref 92), (1, .int a0), (3, .int x3), (4, .int x4), (5, .int x5), (6, .int x6), (7, .int y0)]) rfl ?_
          exact k_j82 x3 x4 x5 x6 y0 σ hW h
        · replace h := h.2 hc
          refine V_pc 67 rfl ?_
          refine V_iload 40 4 rfl rfl ?_
          refine V_if_ne 41 (tgt := 82) rfl (by decide) (fun hc => ?_) (fun hc => ?_)
          · replace h := h.1 hc
            refine V_sub [1, 2, 3, 4, 5, 6, 0] (lv' := [(0, .ref 92), (1, .int a0), (3, .int x3), (4, .int x4), (5, .int x5), (6, .int x6), (7, .int y0)]) rfl ?_
            exact k_j82 x3 x4 x5 x6 y0 σ hW h
          · replace h := h.2 hc
            refine V_pc 72 rfl ?_
            refine V_bipush 42 (v := (8 : Int32)) rfl (by decide) ?_
            refine V_iload_n 43 2 rfl rfl rfl ?_
            refine V_imul 44 rfl ?_
            refine V_iload 45 6 rfl rfl ?_
            refine V_iadd 46 rfl ?_
            refine V_goto 47 (tgt := 84) rfl (by decide) ?_
            refine V_sub [1, 2, 3, 4, 6, 0] (lv' := [(0, .ref 92), (1, .int a0), (3, .int x3), (4, .int x4), (6, .int x6), (7, .int y0)]) rfl ?_
            exact k_j84 x3 x4 x6 y0 (((8 : Int32) * a0) + x6) σ hW h
      intro x3 x4 x5 x6  σ hW h
      refine V_iload 16 5 rfl rfl ?_
      refine V_aload_n 17 0 rfl rfl rfl ?_
      refine V_getR 18 12 rfl clX12 flX12_29 (by decide) (wsh hW rfl) (fun _ => rfl) (wrf hW 100 rfl) ?_
      refine V_iload_n 19 2 rfl rfl rfl ?_
      obtain ⟨hin, h⟩ := h
      refine V_iald 20 rfl (wsh hW rfl) hin ?_
      refine V_icmp_ge 21 (tgt := 108) rfl (by decide) (fun hc => ?_) (fun hc => ?_)
      · replace h := h.1 hc
        refine V_iload 60 4 rfl rfl ?_
        exact V_iret 61 rfl rfl ⟨hW, _, rfl, h⟩
      · replace h := h.2 hc
        refine V_pc 34 rfl ?_
        refine V_iload 22 4 rfl rfl ?_
        refine V_if_ge 23 (tgt := 108) rfl (by decide) (fun hc => ?_) (fun hc => ?_)
        · replace h := h.1 hc
          refine V_iload 60 4 rfl rfl ?_
          exact V_iret 61 rfl rfl ⟨hW, _, rfl, h⟩
        · replace h := h.2 hc
          refine V_pc 39 rfl ?_
          refine V_aload_n 24 0 rfl rfl rfl ?_
          refine V_getR 25 39 rfl clX12 flX12_102 (by decide) (wsh hW rfl) (fun _ => rfl) (wrf hW 124 rfl) ?_
          refine V_bipush 26 (v := (8 : Int32)) rfl (by decide) ?_
          refine V_iload_n 27 2 rfl rfl rfl ?_
          refine V_imul 28 rfl ?_
          refine V_iload 29 5 rfl rfl ?_
          refine V_pc 49 rfl ?_
          refine V_iadd 30 rfl ?_
          obtain ⟨hin, h⟩ := h
          refine V_iald 31 rfl (wsh hW rfl) hin ?_
          refine V_iconst 32 (v := (1 : Int32)) rfl (by decide) ?_
          refine V_icmp_ne 33 (tgt := 59) rfl (by decide) (fun hc => ?_) (fun hc => ?_)
          · replace h := h.1 hc
            refine V_iconst 36 (v := (0 : Int32)) rfl (by decide) ?_
            exact k_j60 x3 x4 x5 x6 (0 : Int32) σ hW h
          · replace h := h.2 hc
            refine V_pc 55 rfl ?_
            refine V_iconst 34 (v := (1 : Int32)) rfl (by decide) ?_
            refine V_goto 35 (tgt := 60) rfl (by decide) ?_
            exact k_j60 x3 x4 x5 x6 (1 : Int32) σ hW h
    intro n
    induction n with
    | zero => intro x3 x4 x5 x6  σ hW h; exact absurd h id
    | succ n ih => exact step  _ ih
  intro σ hW h
  refine V_aload_n 0 0 rfl rfl rfl ?_
  refine V_getR 1 18 rfl clX12 flX12_45 (by decide) (wsh hW rfl) (fun _ => rfl) (wrf hW 105 rfl) ?_
  refine V_iconst 2 (v := (4 : Int32)) rfl (by decide) ?_
  refine V_aload_n 3 0 rfl rfl rfl ?_
  refine V_getR 4 54 rfl clX12 flX12_117 (by decide) (wsh hW rfl) (fun _ => rfl) (wrf hW 129 rfl) ?_
  refine V_iload_n 5 1 rfl rfl rfl ?_
  refine V_pc 10 rfl ?_
  obtain ⟨hin, h⟩ := h
  refine V_iald 6 rfl (wsh hW rfl) hin ?_
  refine V_imul 7 rfl ?_
  obtain ⟨hin, h⟩ := h
  refine V_iald 8 rfl (wsh hW rfl) hin ?_
  refine V_topi (fun v2 ev2 => ?_)
  replace h := h v2 ev2
  refine V_istore_n 9 (lv' := [(3, .int v2), (0, .ref 92), (1, .int a0), (2, .int a1)]) rfl rfl (by decide) rfl ?_
  refine V_iload_n 10 3 rfl rfl rfl ?_
  refine V_istore 11 (lv' := [(4, .int a1), (3, .int v2), (0, .ref 92), (1, .int a0), (2, .int a1)]) rfl (by decide) rfl ?_
  refine V_pc 17 rfl ?_
  refine V_iconst 12 (v := (-1 : Int32)) rfl (by decide) ?_
  refine V_istore 13 (lv' := [(5, .int (-1 : Int32)), (4, .int a1), (3, .int v2), (0, .ref 92), (1, .int a0), (2, .int a1)]) rfl (by decide) rfl ?_
  refine V_iconst 14 (v := (0 : Int32)) rfl (by decide) ?_
  refine V_istore 15 (lv' := [(6, .int (0 : Int32)), (5, .int (-1 : Int32)), (4, .int a1), (3, .int v2), (0, .ref 92), (1, .int a0), (2, .int a1)]) rfl (by decide) rfl ?_
  refine V_sub [4, 5, 3, 2, 1, 0] (lv' := [(0, .ref 92), (1, .int a0), (3, .int v2), (4, .int a1), (5, .int (-1 : Int32)), (6, .int (0 : Int32))]) rfl ?_
  obtain ⟨n, h⟩ := h
  exact k_l23 n v2 a1 (-1 : Int32) (0 : Int32) σ hW h

def wX12_placeOf_j11 (a0 : Int32) (a1 : Int32) (a2 : Int32) (Q : Int32 → ab_S → Prop) (E : String → ab_S → Prop)  (σ : ab_S) : Prop := wX12_valueAt a0 (((8 : Int32) * (a2 / (10 : Int32))) + (a2 - a2 / (10 : Int32) * (10 : Int32))) (fun u2 σ1 => Q u2 σ1) E σ
def wX12_placeOf_j40 (a0 : Int32) (a1 : Int32) (a2 : Int32) (Q : Int32 → ab_S → Prop) (E : String → ab_S → Prop)  (σ : ab_S) : Prop := wX12_inFrame a0 a2 (fun u4 σ3 => Q u4 σ3) E σ
def wX12_placeOf (a0 : Int32) (a1 : Int32) (a2 : Int32) (Q : Int32 → ab_S → Prop) (E : String → ab_S → Prop) (σ : ab_S) : Prop := ((a1 = (2 : Int32)) → wX12_placeOf_j11 a0 a1 a2 Q E σ) ∧ (¬ (a1 = (2 : Int32)) → ((¬ a1 = (15 : Int32)) → ((a1 = (4 : Int32)) → wX12_placeOf_j40 a0 a1 a2 Q E σ) ∧ (¬ (a1 = (4 : Int32)) → ((¬ a1 = (17 : Int32)) → wX12_above a0 a2 (fun u6 σ5 => Q u6 σ5) E σ) ∧ (¬ (¬ a1 = (17 : Int32)) → wX12_placeOf_j40 a0 a1 a2 Q E σ))) ∧ (¬ (¬ a1 = (15 : Int32)) → wX12_placeOf_j11 a0 a1 a2 Q E σ))
set_option maxHeartbeats 4000000 in
set_option maxRecDepth 100000 in
theorem ceX12_placeOf {l : Launch} (hl : l.stackTraces = false) (B : Nat) {a0 : Int32} {a1 : Int32} {a2 : Int32}  {Q : Int32 → ab_S → Prop} {E : String → ab_S → Prop} {σ : ab_S} (hW : Wire σ) (h : wX12_placeOf a0 a1 a2 Q E σ) : ab_Mt l yX12_placeOf mdX12_placeOf B 1 28 0 0 [.ref 92, .int a0, .int a1, .int a2] σ (fun v σ' => Wire σ' ∧ ∃ r : Int32, v = some (.int r) ∧ Q r σ') (fun X σ' => Wire σ' ∧ E X σ') := by
  refine V_met hl ⟨rfl, rfl, by decide⟩ rfl dkX12_placeOf (Nat.le_of_ble_eq_true rfl) ?_
  show V l mdX12_placeOf B 1 28 0 0 (ab_End _ _) 0 [(0, .ref 92), (1, .int a0), (2, .int a1), (3, .int a2)] [] σ
  revert h hW
  revert σ
  have k_j11 : ∀   (σ : ab_S), Wire σ → wX12_placeOf_j11 a0 a1 a2 Q E  σ → V l mdX12_placeOf B 1 28 0 0 (ab_End (fun v σ' => Wire σ' ∧ ∃ r : Int32, v = some (.int r) ∧ Q r σ') (fun X σ' => Wire σ' ∧ E X σ')) 11 [(0, .ref 92), (1, .int a0), (3, .int a2)] [] σ := by
    intro   σ hW h
    refine V_aload_n 6 0 rfl rfl rfl ?_
    refine V_iload_n 7 1 rfl rfl rfl ?_
    refine V_bipush 8 (v := (8 : Int32)) rfl (by decide) ?_
    refine V_iload_n 9 2 rfl rfl rfl ?_
    refine V_bipush 10 (v := (10 : Int32)) rfl (by decide) ?_
    refine V_idiv 11 rfl (by decide) ?_
    refine V_pc 19 rfl ?_
    refine V_imul 12 rfl ?_
    refine V_iload_n 13 2 rfl rfl rfl ?_
    refine V_bipush 14 (v := (10 : Int32)) rfl (by decide) ?_
    refine V_irem 15 rfl (by decide) ?_
    refine V_iadd 16 rfl ?_
    refine V_callV 17 2 (as := [.int a0, .int (((8 : Int32) * (a2 / (10 : Int32))) + (a2 - a2 / (10 : Int32) * (10 : Int32)))]) (rest := []) rfl mlX12_527 yvX12_valueAt rfl rfl clX12 (wsh hW rfl) (by decide) (by decide) (Nat.le_of_ble_eq_true rfl) (by decide) (by decide) (fun B9 => ceX12_valueAt hl B9 hW h) (fun X9 τ9 h9 => VX_out rfl h9) ?_
    rintro v9 σ1 ⟨hW, u2, rfl, h⟩
    exact V_iret 18 rfl rfl ⟨hW, _, rfl, h⟩
  have k_j40 : ∀   (σ : ab_S), Wire σ → wX12_placeOf_j40 a0 a1 a2 Q E  σ → V l mdX12_placeOf B 1 28 0 0 (ab_End (fun v σ' => Wire σ' ∧ ∃ r : Int32, v = some (.int r) ∧ Q r σ') (fun X σ' => Wire σ' ∧ E X σ')) 40 [(0, .ref 92), (1, .int a0), (3, .int a2)] [] σ := by
    intro   σ hW h
    refine V_aload_n 25 0 rfl rfl rfl ?_
    refine V_iload_n 26 1 rfl rfl rfl ?_
    refine V_iload_n 27 2 rfl rfl rfl ?_
    refine V_callV 28 2 (as := [.int a0, .int a2]) (rest := []) rfl mlX12_589 yvX12_inFrame rfl rfl clX12 (wsh hW rfl) (by decide) (by decide) (Nat.le_of_ble_eq_true rfl) (by decide) (by decide) (fun B9 => ceX12_inFrame hl B9 hW h) (fun X9 τ9 h9 => VX_out rfl h9) ?_
    rintro v9 σ3 ⟨hW, u4, rfl, h⟩
    refine V_goto 29 (tgt := 55) rfl (by decide) ?_
    exact V_iret 34 rfl rfl ⟨hW, _, rfl, h⟩
  intro σ hW h
  refine V_iload_n 0 2 rfl rfl rfl ?_
  refine V_iconst 1 (v := (2 : Int32)) rfl (by decide) ?_
  refine V_icmp_eq 2 (tgt := 11) rfl (by decide) (fun hc => ?_) (fun hc => ?_)
  · replace h := h.1 hc
    refine V_sub [0, 1, 3] (lv' := [(0, .ref 92), (1, .int a0), (3, .int a2)]) rfl ?_
    exact k_j11 σ hW h
  · replace h := h.2 hc
    refine V_pc 5 rfl ?_
    refine V_iload_n 3 2 rfl rfl rfl ?_
    refine V_bipush 4 (v := (15 : Int32)) rfl (by decide) ?_
    refine V_icmp_ne 5 (tgt := 29) rfl (by decide) (fun hc => ?_) (fun hc => ?_)
    · replace h := h.1 hc
      refine V_iload_n 19 2 rfl rfl rfl ?_
      refine V_iconst 20 (v := (4 : Int32)) rfl (by decide) ?_
      refine V_icmp_eq 21 (tgt := 40) rfl (by decide) (fun hc => ?_) (fun hc => ?_)
      · replace h := h.1 hc
        refine V_sub [0, 1, 3] (lv' := [(0, .ref 92), (1, .int a0), (3, .int a2)]) rfl ?_
        exact k_j40 σ hW h
      · replace h := h.2 hc
        refine V_pc 34 rfl ?_
        refine V_iload_n 22 2 rfl rfl rfl ?_
        refine V_bipush 23 (v := (17 : Int32)) rfl (by decide) ?_
        refine V_icmp_ne 24 (tgt := 49) rfl (by decide) (fun hc => ?_) (fun hc => ?_)
        · replace h := h.1 hc
          refine V_aload_n 30 0 rfl rfl rfl ?_
          refine V_iload_n 31 1 rfl rfl rfl ?_
          refine V_iload_n 32 3 rfl rfl rfl ?_
          refine V_callV 33 2 (as := [.int a0, .int a2]) (rest := []) rfl mlX12_592 yvX12_above rfl rfl clX12 (wsh hW rfl) (by decide) (by decide) (Nat.le_of_ble_eq_true rfl) (by decide) (by decide) (fun B9 => ceX12_above hl B9 hW h) (fun X9 τ9 h9 => VX_out rfl h9) ?_
          rintro v9 σ5 ⟨hW, u6, rfl, h⟩
          exact V_iret 34 rfl rfl ⟨hW, _, rfl, h⟩
        · replace h := h.2 hc
          refine V_pc 40 rfl ?_
          refine V_sub [0, 1, 3] (lv' := [(0, .ref 92), (1, .int a0), (3, .int a2)]) rfl ?_
          exact k_j40 σ hW h
    · replace h := h.2 hc
      refine V_pc 11 rfl ?_
      refine V_sub [0, 1, 3] (lv' := [(0, .ref 92), (1, .int a0), (3, .int a2)]) rfl ?_
      exact k_j11 σ hW h

def wX12_backs  (Q : ab_S → Prop) (E : String → ab_S → Prop) (σ : ab_S) : Prop := (∀ σ1 : ab_S, σ1 = ab_I σ 92 86 ((σ.2.1 92 86) - (1 : Int32)) → vp_in (σ1.2.1 92 86) 251 ∧ (∀ v2 : Int32, v2 = (σ1.2.1 154 (σ1.2.1 92 86).toNatClampNeg) → (((σ1.2.1 92 86) ≤ 0) → vp_in v2 251 ∧ (vp_in (0 : Int32) 13 ∧ ((((σ1.2.1 112 (0 : Int32).toNatClampNeg) ≤ (σ1.2.1 156 v2.toNatClampNeg)) → (∀ σ3 : ab_S, σ3 = ab_I σ1 92 84 (-1 : Int32) → Q σ3)) ∧ (¬ ((σ1.2.1 112 (0 : Int32).toNatClampNeg) ≤ (σ1.2.1 156 v2.toNatClampNeg)) → (∀ σ4 : ab_S, σ4 = ab_I σ1 92 86 (1 : Int32) → wX12_visits v2 (fun σ5 => Q σ5) E σ4))))) ∧ (¬ ((σ1.2.1 92 86) ≤ 0) → vp_in (σ1.2.1 92 86) 251 ∧ ((∀ σ6 : ab_S, σ6 = ab_I σ1 92 84 (σ1.2.1 155 (σ1.2.1 92 86).toNatClampNeg) → Q σ6)))))
set_option maxHeartbeats 4000000 in
set_option maxRecDepth 100000 in
theorem ceX12_backs {l : Launch} (hl : l.stackTraces = false) (B : Nat)   {Q : ab_S → Prop} {E : String → ab_S → Prop} {σ : ab_S} (hW : Wire σ) (h : wX12_backs  Q E σ) : ab_Mt l yX12_backs mdX12_backs B 1 21 0 0 [.ref 92] σ (fun v σ' => Wire σ' ∧ v = none ∧ Q σ') (fun X σ' => Wire σ' ∧ E X σ') := by
  refine V_met hl ⟨rfl, rfl, by decide⟩ rfl dkX12_backs (Nat.le_of_ble_eq_true rfl) ?_
  show V l mdX12_backs B 1 21 0 0 (ab_End _ _) 0 [(0, .ref 92)] [] σ
  refine V_aload_n 0 0 rfl rfl rfl ?_
  refine V_dup 1 rfl rfl ?_
  refine V_get (v := .int (σ.2.1 92 86)) 2 86 rfl clX12 flX12_584 (by decide) (wsh hW rfl) (fun _ => rfl) ?_
  refine V_iconst 3 (v := (1 : Int32)) rfl (by decide) ?_
  refine V_isub 4 rfl ?_
  refine V_putI 5 86 rfl clX12 flX12_584 (by decide) (wsh hW rfl) rfl (fun _ _ => rfl) rfl rfl ?_
  refine V_nm (fun σ1 eσ1 => ?_)
  replace h := h σ1 eσ1
  have hW := wire_I eσ1 hW
  refine V_aload_n 6 0 rfl rfl rfl ?_
  refine V_getR 7 87 rfl clX12 flX12_195 (by decide) (wsh hW rfl) (fun _ => rfl) (wrf hW 155 rfl) ?_
  refine V_aload_n 8 0 rfl rfl rfl ?_
  refine V_get (v := .int (σ1.2.1 92 86)) 9 86 rfl clX12 flX12_584 (by decide) (wsh hW rfl) (fun _ => rfl) ?_
  obtain ⟨hin, h⟩ := h
  refine V_iald 10 rfl (wsh hW rfl) hin ?_
  refine V_pc 19 rfl ?_
  refine V_topi (fun v2 ev2 => ?_)
  replace h := h v2 ev2
  refine V_istore_n 11 (lv' := [(1, .int v2), (0, .ref 92)]) rfl rfl (by decide) rfl ?_
  refine V_aload_n 12 1 rfl rfl rfl ?_
  refine V_get (v := .int (σ1.2.1 92 86)) 13 86 rfl clX12 flX12_584 (by decide) (wsh hW rfl) (fun _ => rfl) ?_
  refine V_if_le 14 (tgt := 43) rfl (by decide) (fun hc => ?_) (fun hc => ?_)
  · replace h := h.1 hc
    refine V_aload_n 23 1 rfl rfl rfl ?_
    refine V_getR 24 89 rfl clX12 flX12_201 (by decide) (wsh hW rfl) (fun _ => rfl) (wrf hW 157 rfl) ?_
    refine V_iload_n 25 0 rfl rfl rfl ?_
    obtain ⟨hin, h⟩ := h
    refine V_iald 26 rfl (wsh hW rfl) hin ?_
    refine V_aload_n 27 1 rfl rfl rfl ?_
    refine V_getR 28 27 rfl clX12 flX12_69 (by decide) (wsh hW rfl) (fun _ => rfl) (wrf hW 113 rfl) ?_
    refine V_pc 53 rfl ?_
    refine V_iconst 29 (v := (0 : Int32)) rfl (by decide) ?_
    obtain ⟨hin, h⟩ := h
    refine V_iald 30 rfl (wsh hW rfl) hin ?_
    refine V_icmp_ge 31 (tgt := 71) rfl (by decide) (fun hc => ?_) (fun hc => ?_)
    · replace h := h.1 hc
      refine V_aload_n 39 1 rfl rfl rfl ?_
      refine V_iconst 40 (v := (-1 : Int32)) rfl (by decide) ?_
      refine V_putI 41 84 rfl clX12 flX12_575 (by decide) (wsh hW rfl) rfl (fun _ _ => rfl) rfl rfl ?_
      refine V_nm (fun σ3 eσ3 => ?_)
      replace h := h σ3 eσ3
      have hW := wire_I eσ3 hW
      exact V_vret 42 rfl rfl ⟨hW, rfl, h⟩
    · replace h := h.2 hc
      refine V_pc 58 rfl ?_
      refine V_aload_n 32 1 rfl rfl rfl ?_
      refine V_iconst 33 (v := (1 : Int32)) rfl (by decide) ?_
      refine V_putI 34 86 rfl clX12 flX12_584 (by decide) (wsh hW rfl) rfl (fun _ _ => rfl) rfl rfl ?_
      refine V_nm (fun σ4 eσ4 => ?_)
      replace h := h σ4 eσ4
      have hW := wire_I eσ4 hW
      refine V_aload_n 35 1 rfl rfl rfl ?_
      refine V_iload_n 36 0 rfl rfl rfl ?_
      refine V_callV 37 1 (as := [.int v2]) (rest := []) rfl mlX12_587 yvX12_visits rfl rfl clX12 (wsh hW rfl) (by decide) (by decide) (Nat.le_of_ble_eq_true rfl) (by decide) (by decide) (fun B9 => ceX12_visits hl B9 hW h) (fun X9 τ9 h9 => VX_out rfl h9) ?_
      rintro v9 σ5 ⟨hW, rfl, h⟩
      refine V_goto 38 (tgt := 76) rfl (by decide) ?_
      exact V_vret 42 rfl rfl ⟨hW, rfl, h⟩
  · replace h := h.2 hc
    refine V_pc 27 rfl ?_
    refine V_aload_n 15 1 rfl rfl rfl ?_
    refine V_aload_n 16 1 rfl rfl rfl ?_
    refine V_getR 17 88 rfl clX12 flX12_198 (by decide) (wsh hW rfl) (fun _ => rfl) (wrf hW 156 rfl) ?_
    refine V_aload_n 18 1 rfl rfl rfl ?_
    refine V_get (v := .int (σ1.2.1 92 86)) 19 86 rfl clX12 flX12_584 (by decide) (wsh hW rfl) (fun _ => rfl) ?_
    obtain ⟨hin, h⟩ := h
    refine V_iald 20 rfl (wsh hW rfl) hin ?_
    refine V_pc 37 rfl ?_
    refine V_putI 21 84 rfl clX12 flX12_575 (by decide) (wsh hW rfl) rfl (fun _ _ => rfl) rfl rfl ?_
    refine V_nm (fun σ6 eσ6 => ?_)
    replace h := h σ6 eσ6
    have hW := wire_I eσ6 hW
    refine V_goto 22 (tgt := 76) rfl (by decide) ?_
    exact V_vret 42 rfl rfl ⟨hW, rfl, h⟩

def wX12_test_j70 (a0 : Int32) (Q : ab_S → Prop) (E : String → ab_S → Prop) (y0 : Int32) (σ : ab_S) : Prop := (∀ σ1 : ab_S, σ1 = ab_I σ 92 84 y0 → Q σ1)
def wX12_test (a0 : Int32) (Q : ab_S → Prop) (E : String → ab_S → Prop) (σ : ab_S) : Prop := (∀ σ2 : ab_S, σ2 = ab_I σ 92 90 ((σ.2.1 92 90) - (1 : Int32)) → vp_in (σ2.2.1 92 90) 3000 ∧ ((((σ2.2.1 158 (σ2.2.1 92 90).toNatClampNeg) = 0) → vp_in (σ2.2.1 92 90) 3000 ∧ (((¬ (σ2.2.1 157 (σ2.2.1 92 90).toNatClampNeg) = 0) → wX12_test_j70 a0 Q E ((σ2.2.1 92 84) + (1 : Int32)) σ2) ∧ (¬ (¬ (σ2.2.1 157 (σ2.2.1 92 90).toNatClampNeg) = 0) → wX12_test_j70 a0 Q E a0 σ2))) ∧ (¬ ((σ2.2.1 158 (σ2.2.1 92 90).toNatClampNeg) = 0) → (∀ σ3 : ab_S, σ3 = ab_I σ2 92 90 ((σ2.2.1 92 90) + (1 : Int32)) → vp_in (a0 - (1 : Int32)) 7000 ∧ ((∀ σ4 : ab_S, σ4 = ab_I σ3 92 84 (σ3.2.1 147 (a0 - (1 : Int32)).toNatClampNeg) → Q σ4))))))
set_option maxHeartbeats 4000000 in
set_option maxRecDepth 100000 in
theorem ceX12_test {l : Launch} (hl : l.stackTraces = false) (B : Nat) {a0 : Int32}  {Q : ab_S → Prop} {E : String → ab_S → Prop} {σ : ab_S} (hW : Wire σ) (h : wX12_test a0 Q E σ) : ab_Mt l yX12_test mdX12_test B 0 0 0 0 [.ref 92, .int a0] σ (fun v σ' => Wire σ' ∧ v = none ∧ Q σ') (fun X σ' => Wire σ' ∧ E X σ') := by
  refine V_met hl ⟨rfl, rfl, by decide⟩ rfl dkX12_test (Nat.le_of_ble_eq_true rfl) ?_
  show V l mdX12_test B 0 0 0 0 (ab_End _ _) 0 [(0, .ref 92), (1, .int a0)] [] σ
  revert h hW
  revert σ
  have k_j70 : ∀ (y0 : Int32)  (σ : ab_S), Wire σ → wX12_test_j70 a0 Q E y0 σ → V l mdX12_test B 0 0 0 0 (ab_End (fun v σ' => Wire σ' ∧ v = none ∧ Q σ') (fun X σ' => Wire σ' ∧ E X σ')) 70 [] [.int y0, .ref 92] σ := by
    intro y0  σ hW h
    refine V_putI 40 84 rfl clX12 flX12_575 (by decide) (wsh hW rfl) rfl (fun _ _ => rfl) rfl rfl ?_
    refine V_nm (fun σ1 eσ1 => ?_)
    replace h := h σ1 eσ1
    have hW := wire_I eσ1 hW
    exact V_vret 41 rfl rfl ⟨hW, rfl, h⟩
  intro σ hW h
  refine V_aload_n 0 0 rfl rfl rfl ?_
  refine V_dup 1 rfl rfl ?_
  refine V_get (v := .int (σ.2.1 92 90)) 2 90 rfl clX12 flX12_581 (by decide) (wsh hW rfl) (fun _ => rfl) ?_
  refine V_iconst 3 (v := (1 : Int32)) rfl (by decide) ?_
  refine V_isub 4 rfl ?_
  refine V_putI 5 90 rfl clX12 flX12_581 (by decide) (wsh hW rfl) rfl (fun _ _ => rfl) rfl rfl ?_
  refine V_nm (fun σ2 eσ2 => ?_)
  replace h := h σ2 eσ2
  have hW := wire_I eσ2 hW
  refine V_aload_n 6 0 rfl rfl rfl ?_
  refine V_getR 7 92 rfl clX12 flX12_207 (by decide) (wsh hW rfl) (fun _ => rfl) (wrf hW 159 rfl) ?_
  refine V_aload_n 8 0 rfl rfl rfl ?_
  refine V_get (v := .int (σ2.2.1 92 90)) 9 90 rfl clX12 flX12_581 (by decide) (wsh hW rfl) (fun _ => rfl) ?_
  obtain ⟨hin, h⟩ := h
  refine V_zald 10 rfl (wsh hW rfl) hin ?_
  refine V_pc 19 rfl ?_
  refine V_if_eq 11 (tgt := 47) rfl (by decide) (fun hc => ?_) (fun hc => ?_)
  · replace h := h.1 hc
    refine V_aload_n 27 0 rfl rfl rfl ?_
    refine V_aload_n 28 0 rfl rfl rfl ?_
    refine V_getR 29 91 rfl clX12 flX12_204 (by decide) (wsh hW rfl) (fun _ => rfl) (wrf hW 158 rfl) ?_
    refine V_aload_n 30 0 rfl rfl rfl ?_
    refine V_get (v := .int (σ2.2.1 92 90)) 31 90 rfl clX12 flX12_581 (by decide) (wsh hW rfl) (fun _ => rfl) ?_
    obtain ⟨hin, h⟩ := h
    refine V_iald 32 rfl (wsh hW rfl) hin ?_
    refine V_pc 57 rfl ?_
    refine V_if_ne 33 (tgt := 64) rfl (by decide) (fun hc => ?_) (fun hc => ?_)
    · replace h := h.1 hc
      refine V_aload_n 36 0 rfl rfl rfl ?_
      refine V_get (v := .int (σ2.2.1 92 84)) 37 84 rfl clX12 flX12_575 (by decide) (wsh hW rfl) (fun _ => rfl) ?_
      refine V_iconst 38 (v := (1 : Int32)) rfl (by decide) ?_
      refine V_iadd 39 rfl ?_
      refine V_sub [] (lv' := []) rfl ?_
      exact k_j70 ((σ2.2.1 92 84) + (1 : Int32)) σ2 hW h
    · replace h := h.2 hc
      refine V_pc 60 rfl ?_
      refine V_iload_n 34 1 rfl rfl rfl ?_
      refine V_goto 35 (tgt := 70) rfl (by decide) ?_
      refine V_sub [] (lv' := []) rfl ?_
      exact k_j70 a0 σ2 hW h
  · replace h := h.2 hc
    refine V_pc 22 rfl ?_
    refine V_aload_n 12 0 rfl rfl rfl ?_
    refine V_dup 13 rfl rfl ?_
    refine V_get (v := .int (σ2.2.1 92 90)) 14 90 rfl clX12 flX12_581 (by decide) (wsh hW rfl) (fun _ => rfl) ?_
    refine V_iconst 15 (v := (1 : Int32)) rfl (by decide) ?_
    refine V_iadd 16 rfl ?_
    refine V_putI 17 90 rfl clX12 flX12_581 (by decide) (wsh hW rfl) rfl (fun _ _ => rfl) rfl rfl ?_
    refine V_nm (fun σ3 eσ3 => ?_)
    replace h := h σ3 eσ3
    have hW := wire_I eσ3 hW
    refine V_aload_n 18 0 rfl rfl rfl ?_
    refine V_aload_n 19 0 rfl rfl rfl ?_
    refine V_getR 20 76 rfl clX12 flX12_174 (by decide) (wsh hW rfl) (fun _ => rfl) (wrf hW 148 rfl) ?_
    refine V_iload_n 21 1 rfl rfl rfl ?_
    refine V_iconst 22 (v := (1 : Int32)) rfl (by decide) ?_
    refine V_pc 39 rfl ?_
    refine V_isub 23 rfl ?_
    obtain ⟨hin, h⟩ := h
    refine V_iald 24 rfl (wsh hW rfl) hin ?_
    refine V_putI 25 84 rfl clX12 flX12_575 (by decide) (wsh hW rfl) rfl (fun _ _ => rfl) rfl rfl ?_
    refine V_nm (fun σ4 eσ4 => ?_)
    replace h := h σ4 eσ4
    have hW := wire_I eσ4 hW
    refine V_goto 26 (tgt := 73) rfl (by decide) ?_
    exact V_vret 41 rfl rfl ⟨hW, rfl, h⟩

def wX12_works_j183 (a0 : Int32) (Q : ab_S → Prop) (E : String → ab_S → Prop) (x3 : Int32) (y0 : Int32) (σ : ab_S) : Prop := wX12_pushes y0 x3 (fun σ1 => Q σ1) E σ
def wX12_works_j148 (a0 : Int32) (Q : ab_S → Prop) (E : String → ab_S → Prop) (x2 : Int32) (y0 : Int32) (σ : ab_S) : Prop := ((y0 = 0) → vp_in (σ.2.1 92 90) 3000 ∧ (vp_in ((σ.2.1 92 90) + (1 : Int32)) 3000 ∧ (wX12_two x2 (σ.2.1 157 (σ.2.1 92 90).toNatClampNeg) (σ.2.1 157 ((σ.2.1 92 90) + (1 : Int32)).toNatClampNeg) (fun u3 σ2 => wX12_works_j183 a0 Q E y0 u3 σ2) E σ))) ∧ (¬ (y0 = 0) → wX12_works_j183 a0 Q E y0 (0 : Int32) σ)
def wX12_works_j143 (a0 : Int32) (Q : ab_S → Prop) (E : String → ab_S → Prop) (x2 : Int32) (σ : ab_S) : Prop := wX12_works_j148 a0 Q E x2 (1 : Int32) σ
def wX12_works_j147 (a0 : Int32) (Q : ab_S → Prop) (E : String → ab_S → Prop) (x2 : Int32) (σ : ab_S) : Prop := wX12_works_j148 a0 Q E x2 (0 : Int32) σ
def wX12_works_j86 (a0 : Int32) (Q : ab_S → Prop) (E : String → ab_S → Prop) (y0 : Int32) (σ : ab_S) : Prop := (∀ σ4 : ab_S, σ4 = ab_I σ 92 90 ((σ.2.1 92 90) - (2 : Int32)) → vp_in (σ4.2.1 92 90) 3000 ∧ (((¬ (σ4.2.1 158 (σ4.2.1 92 90).toNatClampNeg) = 0) → wX12_works_j143 a0 Q E y0 σ4) ∧ (¬ (¬ (σ4.2.1 158 (σ4.2.1 92 90).toNatClampNeg) = 0) → vp_in ((σ4.2.1 92 90) + (1 : Int32)) 3000 ∧ (((¬ (σ4.2.1 158 ((σ4.2.1 92 90) + (1 : Int32)).toNatClampNeg) = 0) → wX12_works_j143 a0 Q E y0 σ4) ∧ (¬ (¬ (σ4.2.1 158 ((σ4.2.1 92 90) + (1 : Int32)).toNatClampNeg) = 0) → ((¬ y0 = (16 : Int32)) → wX12_works_j147 a0 Q E y0 σ4) ∧ (¬ (¬ y0 = (16 : Int32)) → vp_in ((σ4.2.1 92 90) + (1 : Int32)) 3000 ∧ (((¬ (σ4.2.1 157 ((σ4.2.1 92 90) + (1 : Int32)).toNatClampNeg) = 0) → wX12_works_j147 a0 Q E y0 σ4) ∧ (¬ (¬ (σ4.2.1 157 ((σ4.2.1 92 90) + (1 : Int32)).toNatClampNeg) = 0) → wX12_works_j143 a0 Q E y0 σ4))))))))
def wX12_works (a0 : Int32) (Q : ab_S → Prop) (E : String → ab_S → Prop) (σ : ab_S) : Prop := ((¬ a0 = (6 : Int32)) → ((¬ a0 = (7 : Int32)) → ((¬ a0 = (8 : Int32)) → ((¬ a0 = (9 : Int32)) → ((¬ a0 = (10 : Int32)) → ((¬ a0 = (11 : Int32)) → wX12_works_j86 a0 Q E (4 : Int32) σ) ∧ (¬ (¬ a0 = (11 : Int32)) → wX12_works_j86 a0 Q E (17 : Int32) σ)) ∧ (¬ (¬ a0 = (10 : Int32)) → wX12_works_j86 a0 Q E (16 : Int32) σ)) ∧ (¬ (¬ a0 = (9 : Int32)) → wX12_works_j86 a0 Q E (15 : Int32) σ)) ∧ (¬ (¬ a0 = (8 : Int32)) → wX12_works_j86 a0 Q E (14 : Int32) σ)) ∧ (¬ (¬ a0 = (7 : Int32)) → wX12_works_j86 a0 Q E (13 : Int32) σ)) ∧ (¬ (¬ a0 = (6 : Int32)) → vp_in ((σ.2.1 92 90) - (1 : Int32)) 3000 ∧ (vp_in ((σ.2.1 92 90) - (1 : Int32)) 3000 ∧ (∀ σ5 : ab_S, σ5 = ab_I σ 157 ((σ.2.1 92 90) - (1 : Int32)).toNatClampNeg (-(σ.2.1 157 ((σ.2.1 92 90) - (1 : Int32)).toNatClampNeg)) → Q σ5)))
set_option maxHeartbeats 4000000 in
set_option maxRecDepth 100000 in
theorem ceX12_works {l : Launch} (hl : l.stackTraces = false) (B : Nat) {a0 : Int32}  {Q : ab_S → Prop} {E : String → ab_S → Prop} {σ : ab_S} (hW : Wire σ) (h : wX12_works a0 Q E σ) : ab_Mt l yX12_works mdX12_works B 1 23 0 0 [.ref 92, .int a0] σ (fun v σ' => Wire σ' ∧ v = none ∧ Q σ') (fun X σ' => Wire σ' ∧ E X σ') := by
  refine V_met hl ⟨rfl, rfl, by decide⟩ rfl dkX12_works (Nat.le_of_ble_eq_true rfl) ?_
  show V l mdX12_works B 1 23 0 0 (ab_End _ _) 0 [(0, .ref 92), (1, .int a0)] [] σ
  revert h hW
  revert σ
  have k_j183 : ∀ (x3 : Int32) (y0 : Int32)  (σ : ab_S), Wire σ → wX12_works_j183 a0 Q E x3 y0 σ → V l mdX12_works B 1 23 0 0 (ab_End (fun v σ' => Wire σ' ∧ v = none ∧ Q σ') (fun X σ' => Wire σ' ∧ E X σ')) 183 [(3, .int x3)] [.int y0, .ref 92] σ := by
    intro x3 y0  σ hW h
    refine V_iload_n 101 0 rfl rfl rfl ?_
    refine V_callV 102 2 (as := [.int y0, .int x3]) (rest := []) rfl mlX12_595 yvX12_pushes rfl rfl clX12 (wsh hW rfl) (by decide) (by decide) (Nat.le_of_ble_eq_true rfl) (by decide) (by decide) (fun B9 => ceX12_pushes hl B9 hW h) (fun X9 τ9 h9 => VX_out rfl h9) ?_
    rintro v9 σ1 ⟨hW, rfl, h⟩
    exact V_vret 103 rfl rfl ⟨hW, rfl, h⟩
  have k_j148 : ∀ (x2 : Int32) (y0 : Int32)  (σ : ab_S), Wire σ → wX12_works_j148 a0 Q E x2 y0 σ → V l mdX12_works B 1 23 0 0 (ab_End (fun v σ' => Wire σ' ∧ v = none ∧ Q σ') (fun X σ' => Wire σ' ∧ E X σ')) 148 [(0, .ref 92), (2, .int x2)] [.int y0] σ := by
    intro x2 y0  σ hW h
    refine V_istore_n 80 (lv' := [(3, .int y0), (0, .ref 92), (2, .int x2)]) rfl rfl (by decide) rfl ?_
    refine V_aload_n 81 1 rfl rfl rfl ?_
    refine V_iload_n 82 0 rfl rfl rfl ?_
    refine V_if_eq 83 (tgt := 158) rfl (by decide) (fun hc => ?_) (fun hc => ?_)
    · replace h := h.1 hc
      refine V_aload_n 86 1 rfl rfl rfl ?_
      refine V_iload_n 87 2 rfl rfl rfl ?_
      refine V_aload_n 88 1 rfl rfl rfl ?_
      refine V_getR 89 91 rfl clX12 flX12_204 (by decide) (wsh hW rfl) (fun _ => rfl) (wrf hW 158 rfl) ?_
      refine V_aload_n 90 1 rfl rfl rfl ?_
      refine V_get (v := .int (σ.2.1 92 90)) 91 90 rfl clX12 flX12_581 (by decide) (wsh hW rfl) (fun _ => rfl) ?_
      refine V_pc 168 rfl ?_
      obtain ⟨hin, h⟩ := h
      refine V_iald 92 rfl (wsh hW rfl) hin ?_
      refine V_aload_n 93 1 rfl rfl rfl ?_
      refine V_getR 94 91 rfl clX12 flX12_204 (by decide) (wsh hW rfl) (fun _ => rfl) (wrf hW 158 rfl) ?_
      refine V_aload_n 95 1 rfl rfl rfl ?_
      refine V_get (v := .int (σ.2.1 92 90)) 96 90 rfl clX12 flX12_581 (by decide) (wsh hW rfl) (fun _ => rfl) ?_
      refine V_iconst 97 (v := (1 : Int32)) rfl (by decide) ?_
      refine V_pc 178 rfl ?_
      refine V_iadd 98 rfl ?_
      obtain ⟨hin, h⟩ := h
      refine V_iald 99 rfl (wsh hW rfl) hin ?_
      refine V_callV 100 3 (as := [.int x2, .int (σ.2.1 157 (σ.2.1 92 90).toNatClampNeg), .int (σ.2.1 157 ((σ.2.1 92 90) + (1 : Int32)).toNatClampNeg)]) (rest := [.ref 92]) rfl mlX12_530 yvX12_two rfl rfl clX12 (wsh hW rfl) (by decide) (by decide) (Nat.le_of_ble_eq_true rfl) (by decide) (by decide) (fun B9 => ceX12_two hl B9 hW h) (fun X9 τ9 h9 => VX_out rfl h9) ?_
      rintro v9 σ2 ⟨hW, u3, rfl, h⟩
      refine V_sub [0] (lv' := [(3, .int y0)]) rfl ?_
      exact k_j183 y0 u3 σ2 hW h
    · replace h := h.2 hc
      refine V_pc 154 rfl ?_
      refine V_iconst 84 (v := (0 : Int32)) rfl (by decide) ?_
      refine V_goto 85 (tgt := 183) rfl (by decide) ?_
      refine V_sub [0] (lv' := [(3, .int y0)]) rfl ?_
      exact k_j183 y0 (0 : Int32) σ hW h
  have k_j143 : ∀ (x2 : Int32)  (σ : ab_S), Wire σ → wX12_works_j143 a0 Q E x2 σ → V l mdX12_works B 1 23 0 0 (ab_End (fun v σ' => Wire σ' ∧ v = none ∧ Q σ') (fun X σ' => Wire σ' ∧ E X σ')) 143 [(0, .ref 92), (2, .int x2)] [] σ := by
    intro x2  σ hW h
    refine V_iconst 77 (v := (1 : Int32)) rfl (by decide) ?_
    refine V_goto 78 (tgt := 148) rfl (by decide) ?_
    exact k_j148 x2 (1 : Int32) σ hW h
  have k_j147 : ∀ (x2 : Int32)  (σ : ab_S), Wire σ → wX12_works_j147 a0 Q E x2 σ → V l mdX12_works B 1 23 0 0 (ab_End (fun v σ' => Wire σ' ∧ v = none ∧ Q σ') (fun X σ' => Wire σ' ∧ E X σ')) 147 [(0, .ref 92), (2, .int x2)] [] σ := by
    intro x2  σ hW h
    refine V_iconst 79 (v := (0 : Int32)) rfl (by decide) ?_
    exact k_j148 x2 (0 : Int32) σ hW h
  have k_j86 : ∀ (y0 : Int32)  (σ : ab_S), Wire σ → wX12_works_j86 a0 Q E y0 σ → V l mdX12_works B 1 23 0 0 (ab_End (fun v σ' => Wire σ' ∧ v = none ∧ Q σ') (fun X σ' => Wire σ' ∧ E X σ')) 86 [(0, .ref 92)] [.int y0] σ := by
    intro y0  σ hW h
    refine V_istore_n 45 (lv' := [(2, .int y0), (0, .ref 92)]) rfl rfl (by decide) rfl ?_
    refine V_aload_n 46 1 rfl rfl rfl ?_
    refine V_dup 47 rfl rfl ?_
    refine V_get (v := .int (σ.2.1 92 90)) 48 90 rfl clX12 flX12_581 (by decide) (wsh hW rfl) (fun _ => rfl) ?_
    refine V_iconst 49 (v := (2 : Int32)) rfl (by decide) ?_
    refine V_isub 50 rfl ?_
    refine V_pc 94 rfl ?_
    refine V_putI 51 90 rfl clX12 flX12_581 (by decide) (wsh hW rfl) rfl (fun _ _ => rfl) rfl rfl ?_
    refine V_nm (fun σ4 eσ4 => ?_)
    replace h := h σ4 eσ4
    have hW := wire_I eσ4 hW
    refine V_aload_n 52 1 rfl rfl rfl ?_
    refine V_getR 53 92 rfl clX12 flX12_207 (by decide) (wsh hW rfl) (fun _ => rfl) (wrf hW 159 rfl) ?_
    refine V_aload_n 54 1 rfl rfl rfl ?_
    refine V_get (v := .int (σ4.2.1 92 90)) 55 90 rfl clX12 flX12_581 (by decide) (wsh hW rfl) (fun _ => rfl) ?_
    obtain ⟨hin, h⟩ := h
    refine V_zald 56 rfl (wsh hW rfl) hin ?_
    refine V_pc 106 rfl ?_
    refine V_if_ne 57 (tgt := 143) rfl (by decide) (fun hc => ?_) (fun hc => ?_)
    · replace h := h.1 hc
      refine V_sub [1, 0] (lv' := [(0, .ref 92), (2, .int y0)]) rfl ?_
      exact k_j143 y0 σ4 hW h
    · replace h := h.2 hc
      refine V_pc 109 rfl ?_
      refine V_aload_n 58 1 rfl rfl rfl ?_
      refine V_getR 59 92 rfl clX12 flX12_207 (by decide) (wsh hW rfl) (fun _ => rfl) (wrf hW 159 rfl) ?_
      refine V_aload_n 60 1 rfl rfl rfl ?_
      refine V_get (v := .int (σ4.2.1 92 90)) 61 90 rfl clX12 flX12_581 (by decide) (wsh hW rfl) (fun _ => rfl) ?_
      refine V_iconst 62 (v := (1 : Int32)) rfl (by decide) ?_
      refine V_iadd 63 rfl ?_
      refine V_pc 119 rfl ?_
      obtain ⟨hin, h⟩ := h
      refine V_zald 64 rfl (wsh hW rfl) hin ?_
      refine V_if_ne 65 (tgt := 143) rfl (by decide) (fun hc => ?_) (fun hc => ?_)
      · replace h := h.1 hc
        refine V_sub [1, 0] (lv' := [(0, .ref 92), (2, .int y0)]) rfl ?_
        exact k_j143 y0 σ4 hW h
      · replace h := h.2 hc
        refine V_pc 123 rfl ?_
        refine V_iload_n 66 0 rfl rfl rfl ?_
        refine V_bipush 67 (v := (16 : Int32)) rfl (by decide) ?_
        refine V_icmp_ne 68 (tgt := 147) rfl (by decide) (fun hc => ?_) (fun hc => ?_)
        · replace h := h.1 hc
          refine V_sub [1, 0] (lv' := [(0, .ref 92), (2, .int y0)]) rfl ?_
          exact k_j147 y0 σ4 hW h
        · replace h := h.2 hc
          refine V_pc 129 rfl ?_
          refine V_aload_n 69 1 rfl rfl rfl ?_
          refine V_getR 70 91 rfl clX12 flX12_204 (by decide) (wsh hW rfl) (fun _ => rfl) (wrf hW 158 rfl) ?_
          refine V_aload_n 71 1 rfl rfl rfl ?_
          refine V_get (v := .int (σ4.2.1 92 90)) 72 90 rfl clX12 flX12_581 (by decide) (wsh hW rfl) (fun _ => rfl) ?_
          refine V_iconst 73 (v := (1 : Int32)) rfl (by decide) ?_
          refine V_iadd 74 rfl ?_
          refine V_pc 139 rfl ?_
          obtain ⟨hin, h⟩ := h
          refine V_iald 75 rfl (wsh hW rfl) hin ?_
          refine V_if_ne 76 (tgt := 147) rfl (by decide) (fun hc => ?_) (fun hc => ?_)
          · replace h := h.1 hc
            refine V_sub [1, 0] (lv' := [(0, .ref 92), (2, .int y0)]) rfl ?_
            exact k_j147 y0 σ4 hW h
          · replace h := h.2 hc
            refine V_pc 143 rfl ?_
            refine V_sub [1, 0] (lv' := [(0, .ref 92), (2, .int y0)]) rfl ?_
            exact k_j143 y0 σ4 hW h
  intro σ hW h
  refine V_iload_n 0 1 rfl rfl rfl ?_
  refine V_bipush 1 (v := (6 : Int32)) rfl (by decide) ?_
  refine V_icmp_ne 2 (tgt := 30) rfl (by decide) (fun hc => ?_) (fun hc => ?_)
  · replace h := h.1 hc
    refine V_iload_n 19 1 rfl rfl rfl ?_
    refine V_bipush 20 (v := (7 : Int32)) rfl (by decide) ?_
    refine V_icmp_ne 21 (tgt := 41) rfl (by decide) (fun hc => ?_) (fun hc => ?_)
    · replace h := h.1 hc
      refine V_iload_n 24 1 rfl rfl rfl ?_
      refine V_bipush 25 (v := (8 : Int32)) rfl (by decide) ?_
      refine V_icmp_ne 26 (tgt := 52) rfl (by decide) (fun hc => ?_) (fun hc => ?_)
      · replace h := h.1 hc
        refine V_iload_n 29 1 rfl rfl rfl ?_
        refine V_bipush 30 (v := (9 : Int32)) rfl (by decide) ?_
        refine V_icmp_ne 31 (tgt := 63) rfl (by decide) (fun hc => ?_) (fun hc => ?_)
        · replace h := h.1 hc
          refine V_iload_n 34 1 rfl rfl rfl ?_
          refine V_bipush 35 (v := (10 : Int32)) rfl (by decide) ?_
          refine V_icmp_ne 36 (tgt := 74) rfl (by decide) (fun hc => ?_) (fun hc => ?_)
          · replace h := h.1 hc
            refine V_iload_n 39 1 rfl rfl rfl ?_
            refine V_bipush 40 (v := (11 : Int32)) rfl (by decide) ?_
            refine V_icmp_ne 41 (tgt := 85) rfl (by decide) (fun hc => ?_) (fun hc => ?_)
            · replace h := h.1 hc
              refine V_iconst 44 (v := (4 : Int32)) rfl (by decide) ?_
              refine V_sub [0] (lv' := [(0, .ref 92)]) rfl ?_
              exact k_j86 (4 : Int32) σ hW h
            · replace h := h.2 hc
              refine V_pc 80 rfl ?_
              refine V_bipush 42 (v := (17 : Int32)) rfl (by decide) ?_
              refine V_goto 43 (tgt := 86) rfl (by decide) ?_
              refine V_sub [0] (lv' := [(0, .ref 92)]) rfl ?_
              exact k_j86 (17 : Int32) σ hW h
          · replace h := h.2 hc
            refine V_pc 69 rfl ?_
            refine V_bipush 37 (v := (16 : Int32)) rfl (by decide) ?_
            refine V_goto 38 (tgt := 86) rfl (by decide) ?_
            refine V_sub [0] (lv' := [(0, .ref 92)]) rfl ?_
            exact k_j86 (16 : Int32) σ hW h
        · replace h := h.2 hc
          refine V_pc 58 rfl ?_
          refine V_bipush 32 (v := (15 : Int32)) rfl (by decide) ?_
          refine V_goto 33 (tgt := 86) rfl (by decide) ?_
          refine V_sub [0] (lv' := [(0, .ref 92)]) rfl ?_
          exact k_j86 (15 : Int32) σ hW h
      · replace h := h.2 hc
        refine V_pc 47 rfl ?_
        refine V_bipush 27 (v := (14 : Int32)) rfl (by decide) ?_
        refine V_goto 28 (tgt := 86) rfl (by decide) ?_
        refine V_sub [0] (lv' := [(0, .ref 92)]) rfl ?_
        exact k_j86 (14 : Int32) σ hW h
    · replace h := h.2 hc
      refine V_pc 36 rfl ?_
      refine V_bipush 22 (v := (13 : Int32)) rfl (by decide) ?_
      refine V_goto 23 (tgt := 86) rfl (by decide) ?_
      refine V_sub [0] (lv' := [(0, .ref 92)]) rfl ?_
      exact k_j86 (13 : Int32) σ hW h
  · replace h := h.2 hc
    refine V_pc 6 rfl ?_
    refine V_aload_n 3 0 rfl rfl rfl ?_
    refine V_getR 4 91 rfl clX12 flX12_204 (by decide) (wsh hW rfl) (fun _ => rfl) (wrf hW 158 rfl) ?_
    refine V_aload_n 5 0 rfl rfl rfl ?_
    refine V_get (v := .int (σ.2.1 92 90)) 6 90 rfl clX12 flX12_581 (by decide) (wsh hW rfl) (fun _ => rfl) ?_
    refine V_iconst 7 (v := (1 : Int32)) rfl (by decide) ?_
    refine V_isub 8 rfl ?_
    refine V_pc 16 rfl ?_
    refine V_aload_n 9 0 rfl rfl rfl ?_
    refine V_getR 10 91 rfl clX12 flX12_204 (by decide) (wsh hW rfl) (fun _ => rfl) (wrf hW 158 rfl) ?_
    refine V_aload_n 11 0 rfl rfl rfl ?_
    refine V_get (v := .int (σ.2.1 92 90)) 12 90 rfl clX12 flX12_581 (by decide) (wsh hW rfl) (fun _ => rfl) ?_
    refine V_iconst 13 (v := (1 : Int32)) rfl (by decide) ?_
    refine V_isub 14 rfl ?_
    refine V_pc 26 rfl ?_
    obtain ⟨hin, h⟩ := h
    refine V_iald 15 rfl (wsh hW rfl) hin ?_
    refine V_ineg 16 rfl ?_
    obtain ⟨hin, h⟩ := h
    refine V_iast 17 rfl (wsh hW rfl) hin ?_
    refine V_nm (fun σ5 eσ5 => ?_)
    replace h := h σ5 eσ5
    have hW := wire_I eσ5 hW
    exact V_vret 18 rfl rfl ⟨hW, rfl, h⟩

def wX12_one_j174 (Q : ab_S → Prop) (E : String → ab_S → Prop) (y0 : Int32) (σ : ab_S) : Prop := wX12_pushes y0 (0 : Int32) (fun σ1 => Q σ1) E σ
def wX12_one_j159 (Q : ab_S → Prop) (E : String → ab_S → Prop) (x1 : Int32) (x2 : Int32) (x3 : Int32) (σ : ab_S) : Prop := ((¬ x1 = 0) → vp_in x3 251 ∧ (wX12_one_j174 Q E (σ.2.1 131 x3.toNatClampNeg) σ)) ∧ (¬ (¬ x1 = 0) → wX12_one_j174 Q E x2 σ)
def wX12_one_j81 (Q : ab_S → Prop) (E : String → ab_S → Prop) (x1 : Int32) (x2 : Int32) (x3 : Int32) (y0 : Int32) (σ : ab_S) : Prop := (∀ σ2 : ab_S, σ2 = ab_I σ 92 84 y0 → ((¬ x1 = (19 : Int32)) → ((x1 = 0) → wX12_one_j159 Q E x1 x2 x3 σ2) ∧ (¬ (x1 = 0) → ((¬ x1 = (1 : Int32)) → ((¬ x1 = (3 : Int32)) → (((6 : Int32) ≤ x1) → (((13 : Int32) ≤ x1) → ((¬ x1 = (16 : Int32)) → ((x1 = (14 : Int32)) → Q σ2) ∧ (¬ (x1 = (14 : Int32)) → wX12_placeOf x3 x1 x2 (fun u4 σ3 => (∀ σ5 : ab_S, σ5 = ab_I σ3 92 90 ((σ3.2.1 92 90) - (1 : Int32)) → vp_in (σ5.2.1 92 90) 3000 ∧ (vp_in u4 2008 ∧ (∀ σ6 : ab_S, σ6 = ab_I σ5 161 u4.toNatClampNeg (σ5.2.1 157 (σ5.2.1 92 90).toNatClampNeg) → vp_in (σ6.2.1 92 90) 3000 ∧ (vp_in u4 2008 ∧ (∀ σ7 : ab_S, σ7 = ab_I σ6 162 u4.toNatClampNeg (vp_nar .boolean (σ6.2.1 158 (σ6.2.1 92 90).toNatClampNeg)) → Q σ7)))))) E σ2)) ∧ (¬ (¬ x1 = (16 : Int32)) → (∀ σ8 : ab_S, σ8 = ab_I σ2 92 90 ((σ2.2.1 92 90) - (1 : Int32)) → vp_in (σ8.2.1 92 90) 3000 ∧ (vp_in x2 104 ∧ (∀ σ9 : ab_S, σ9 = ab_I σ8 159 x2.toNatClampNeg (σ8.2.1 157 (σ8.2.1 92 90).toNatClampNeg) → vp_in (σ9.2.1 92 90) 3000 ∧ (vp_in x2 104 ∧ (∀ σ10 : ab_S, σ10 = ab_I σ9 160 x2.toNatClampNeg (vp_nar .boolean (σ9.2.1 158 (σ9.2.1 92 90).toNatClampNeg)) → Q σ10))))))) ∧ (¬ ((13 : Int32) ≤ x1) → wX12_works x1 (fun σ11 => Q σ11) E σ2)) ∧ (¬ ((6 : Int32) ≤ x1) → wX12_placeOf x3 x1 x2 (fun u13 σ12 => vp_in u13 2008 ∧ (vp_in u13 2008 ∧ (wX12_pushes (σ12.2.1 161 u13.toNatClampNeg) (σ12.2.1 162 u13.toNatClampNeg) (fun σ14 => Q σ14) E σ12))) E σ2)) ∧ (¬ (¬ x1 = (3 : Int32)) → vp_in x2 104 ∧ (vp_in x2 104 ∧ (wX12_pushes (σ2.2.1 159 x2.toNatClampNeg) (σ2.2.1 160 x2.toNatClampNeg) (fun σ15 => Q σ15) E σ2)))) ∧ (¬ (¬ x1 = (1 : Int32)) → wX12_one_j159 Q E x1 x2 x3 σ2))) ∧ (¬ (¬ x1 = (19 : Int32)) → vp_in ((((3 : Int32) * x3) + x2) - (1 : Int32)) 753 ∧ (∀ v16 : Int32, v16 = (σ2.2.1 132 ((((3 : Int32) * x3) + x2) - (1 : Int32)).toNatClampNeg) → vp_in (σ2.2.1 92 86) 251 ∧ (∀ σ17 : ab_S, σ17 = ab_I σ2 155 (σ2.2.1 92 86).toNatClampNeg y0 → vp_in (σ17.2.1 92 86) 251 ∧ (∀ σ18 : ab_S, σ18 = ab_I σ17 154 (σ17.2.1 92 86).toNatClampNeg v16 → (∀ σ19 : ab_S, σ19 = ab_I σ18 92 86 ((σ18.2.1 92 86) + (1 : Int32)) → wX12_visits v16 (fun σ20 => Q σ20) E σ19))))))
def wX12_one  (Q : ab_S → Prop) (E : String → ab_S → Prop) (σ : ab_S) : Prop := vp_in (σ.2.1 92 84) 7000 ∧ (∀ v21 : Int32, v21 = (σ.2.1 146 (σ.2.1 92 84).toNatClampNeg) → vp_in (σ.2.1 92 84) 7000 ∧ (∀ v22 : Int32, v22 = (σ.2.1 147 (σ.2.1 92 84).toNatClampNeg) → vp_in ((σ.2.1 92 86) - (1 : Int32)) 251 ∧ (∀ v23 : Int32, v23 = (σ.2.1 154 ((σ.2.1 92 86) - (1 : Int32)).toNatClampNeg) → (∀ σ24 : ab_S, σ24 = ab_I σ 92 85 ((σ.2.1 92 85) + (1 : Int32)) → ((¬ v21 = (13 : Int32)) → ((¬ v21 = (20 : Int32)) → ((¬ v21 = (14 : Int32)) → wX12_one_j81 Q E v21 v22 v23 ((σ24.2.1 92 84) + (1 : Int32)) σ24) ∧ (¬ (¬ v21 = (14 : Int32)) → wX12_one_j81 Q E v21 v22 v23 v22 σ24)) ∧ (¬ (¬ v21 = (20 : Int32)) → wX12_backs (fun σ25 => Q σ25) E σ24)) ∧ (¬ (¬ v21 = (13 : Int32)) → wX12_test v22 (fun σ26 => Q σ26) E σ24)))))
set_option maxHeartbeats 4000000 in
set_option maxRecDepth 100000 in
theorem ceX12_one {l : Launch} (hl : l.stackTraces = false) (B : Nat)   {Q : ab_S → Prop} {E : String → ab_S → Prop} {σ : ab_S} (hW : Wire σ) (h : wX12_one  Q E σ) : ab_Mt l yX12_one mdX12_one B 2 51 0 0 [.ref 92] σ (fun v σ' => Wire σ' ∧ v = none ∧ Q σ') (fun X σ' => Wire σ' ∧ E X σ') := by
  refine V_met hl ⟨rfl, rfl, by decide⟩ rfl dkX12_one (Nat.le_of_ble_eq_true rfl) ?_
  show V l mdX12_one B 2 51 0 0 (ab_End _ _) 0 [(0, .ref 92)] [] σ
  revert h hW
  revert σ
  have k_j174 : ∀ (y0 : Int32)  (σ : ab_S), Wire σ → wX12_one_j174 Q E y0 σ → V l mdX12_one B 2 51 0 0 (ab_End (fun v σ' => Wire σ' ∧ v = none ∧ Q σ') (fun X σ' => Wire σ' ∧ E X σ')) 174 [] [.int y0, .ref 92] σ := by
    intro y0  σ hW h
    refine V_iconst 102 (v := (0 : Int32)) rfl (by decide) ?_
    refine V_callV 103 2 (as := [.int y0, .int (0 : Int32)]) (rest := []) rfl mlX12_595 yvX12_pushes rfl rfl clX12 (wsh hW rfl) (by decide) (by decide) (Nat.le_of_ble_eq_true rfl) (by decide) (by decide) (fun B9 => ceX12_pushes hl B9 hW h) (fun X9 τ9 h9 => VX_out rfl h9) ?_
    rintro v9 σ1 ⟨hW, rfl, h⟩
    refine V_goto 104 (tgt := 361) rfl (by decide) ?_
    exact V_vret 207 rfl rfl ⟨hW, rfl, h⟩
  have k_j159 : ∀ (x1 : Int32) (x2 : Int32) (x3 : Int32)  (σ : ab_S), Wire σ → wX12_one_j159 Q E x1 x2 x3 σ → V l mdX12_one B 2 51 0 0 (ab_End (fun v σ' => Wire σ' ∧ v = none ∧ Q σ') (fun X σ' => Wire σ' ∧ E X σ')) 159 [(0, .ref 92), (1, .int x1), (2, .int x2), (3, .int x3)] [] σ := by
    intro x1 x2 x3  σ hW h
    refine V_aload_n 93 0 rfl rfl rfl ?_
    refine V_iload_n 94 1 rfl rfl rfl ?_
    refine V_if_ne 95 (tgt := 168) rfl (by decide) (fun hc => ?_) (fun hc => ?_)
    · replace h := h.1 hc
      refine V_aload_n 98 0 rfl rfl rfl ?_
      refine V_getR 99 57 rfl clX12 flX12_126 (by decide) (wsh hW rfl) (fun _ => rfl) (wrf hW 132 rfl) ?_
      refine V_iload_n 100 3 rfl rfl rfl ?_
      obtain ⟨hin, h⟩ := h
      refine V_iald 101 rfl (wsh hW rfl) hin ?_
      refine V_sub [] (lv' := []) rfl ?_
      exact k_j174 (σ.2.1 131 x3.toNatClampNeg) σ hW h
    · replace h := h.2 hc
      refine V_pc 164 rfl ?_
      refine V_iload_n 96 2 rfl rfl rfl ?_
      refine V_goto 97 (tgt := 174) rfl (by decide) ?_
      refine V_sub [] (lv' := []) rfl ?_
      exact k_j174 x2 σ hW h
  have k_j81 : ∀ (x1 : Int32) (x2 : Int32) (x3 : Int32) (y0 : Int32)  (σ : ab_S), Wire σ → wX12_one_j81 Q E x1 x2 x3 y0 σ → V l mdX12_one B 2 51 0 0 (ab_End (fun v σ' => Wire σ' ∧ v = none ∧ Q σ') (fun X σ' => Wire σ' ∧ E X σ')) 81 [(0, .ref 92), (1, .int x1), (2, .int x2), (3, .int x3)] [.int y0] σ := by
    intro x1 x2 x3 y0  σ hW h
    refine V_istore 48 (lv' := [(4, .int y0), (0, .ref 92), (1, .int x1), (2, .int x2), (3, .int x3)]) rfl (by decide) rfl ?_
    refine V_aload_n 49 1 rfl rfl rfl ?_
    refine V_iload 50 0 rfl rfl ?_
    refine V_putI 51 84 rfl clX12 flX12_575 (by decide) (wsh hW rfl) rfl (fun _ _ => rfl) rfl rfl ?_
    refine V_nm (fun σ2 eσ2 => ?_)
    replace h := h σ2 eσ2
    have hW := wire_I eσ2 hW
    refine V_iload_n 52 2 rfl rfl rfl ?_
    refine V_bipush 53 (v := (19 : Int32)) rfl (by decide) ?_
    refine V_icmp_ne 54 (tgt := 150) rfl (by decide) (fun hc => ?_) (fun hc => ?_)
    · replace h := h.1 hc
      refine V_iload_n 88 2 rfl rfl rfl ?_
      refine V_if_eq 89 (tgt := 159) rfl (by decide) (fun hc => ?_) (fun hc => ?_)
      · replace h := h.1 hc
        refine V_sub [1, 2, 3, 4] (lv' := [(0, .ref 92), (1, .int x1), (2, .int x2), (3, .int x3)]) rfl ?_
        exact k_j159 x1 x2 x3 σ2 hW h
      · replace h := h.2 hc
        refine V_pc 154 rfl ?_
        refine V_iload_n 90 2 rfl rfl rfl ?_
        refine V_iconst 91 (v := (1 : Int32)) rfl (by decide) ?_
        refine V_icmp_ne 92 (tgt := 181) rfl (by decide) (fun hc => ?_) (fun hc => ?_)
        · replace h := h.1 hc
          refine V_iload_n 105 2 rfl rfl rfl ?_
          refine V_iconst 106 (v := (3 : Int32)) rfl (by decide) ?_
          refine V_icmp_ne 107 (tgt := 205) rfl (by decide) (fun hc => ?_) (fun hc => ?_)
          · replace h := h.1 hc
            refine V_iload_n 119 2 rfl rfl rfl ?_
            refine V_bipush 120 (v := (6 : Int32)) rfl (by decide) ?_
            refine V_icmp_ge 121 (tgt := 241) rfl (by decide) (fun hc => ?_) (fun hc => ?_)
            · replace h := h.1 hc
              refine V_iload_n 139 2 rfl rfl rfl ?_
              refine V_bipush 140 (v := (13 : Int32)) rfl (by decide) ?_
              refine V_icmp_ge 141 (tgt := 255) rfl (by decide) (fun hc => ?_) (fun hc => ?_)
              · replace h := h.1 hc
                refine V_iload_n 146 2 rfl rfl rfl ?_
                refine V_bipush 147 (v := (16 : Int32)) rfl (by decide) ?_
                refine V_icmp_ne 148 (tgt := 304) rfl (by decide) (fun hc => ?_) (fun hc => ?_)
                · replace h := h.1 hc
                  refine V_iload_n 174 2 rfl rfl rfl ?_
                  refine V_bipush 175 (v := (14 : Int32)) rfl (by decide) ?_
                  refine V_icmp_eq 176 (tgt := 361) rfl (by decide) (fun hc => ?_) (fun hc => ?_)
                  · replace h := h.1 hc
                    exact V_vret 207 rfl rfl ⟨hW, rfl, h⟩
                  · replace h := h.2 hc
                    refine V_pc 310 rfl ?_
                    refine V_aload_n 177 1 rfl rfl rfl ?_
                    refine V_iload_n 178 4 rfl rfl rfl ?_
                    refine V_iload_n 179 2 rfl rfl rfl ?_
                    refine V_iload_n 180 3 rfl rfl rfl ?_
                    refine V_callV 181 3 (as := [.int x3, .int x1, .int x2]) (rest := []) rfl mlX12_604 yvX12_placeOf rfl rfl clX12 (wsh hW rfl) (by decide) (by decide) (Nat.le_of_ble_eq_true rfl) (by decide) (by decide) (fun B9 => ceX12_placeOf hl B9 hW h) (fun X9 τ9 h9 => VX_out rfl h9) ?_
                    rintro v9 σ3 ⟨hW, u4, rfl, h⟩
                    refine V_istore 182 (lv' := [(5, .int u4), (4, .int y0), (0, .ref 92), (1, .int x1), (2, .int x2), (3, .int x3)]) rfl (by decide) rfl ?_
                    refine V_aload_n 183 2 rfl rfl rfl ?_
                    refine V_dup 184 rfl rfl ?_
                    refine V_get (v := .int (σ3.2.1 92 90)) 185 90 rfl clX12 flX12_581 (by decide) (wsh hW rfl) (fun _ => rfl) ?_
                    refine V_iconst 186 (v := (1 : Int32)) rfl (by decide) ?_
                    refine V_pc 325 rfl ?_
                    refine V_isub 187 rfl ?_
                    refine V_putI 188 90 rfl clX12 flX12_581 (by decide) (wsh hW rfl) rfl (fun _ _ => rfl) rfl rfl ?_
                    refine V_nm (fun σ5 eσ5 => ?_)
                    replace h := h σ5 eσ5
                    have hW := wire_I eσ5 hW
                    refine V_aload_n 189 2 rfl rfl rfl ?_
                    refine V_getR 190 95 rfl clX12 flX12_216 (by decide) (wsh hW rfl) (fun _ => rfl) (wrf hW 162 rfl) ?_
                    refine V_iload 191 0 rfl rfl ?_
                    refine V_aload_n 192 2 rfl rfl rfl ?_
                    refine V_getR 193 91 rfl clX12 flX12_204 (by decide) (wsh hW rfl) (fun _ => rfl) (wrf hW 158 rfl) ?_
                    refine V_pc 339 rfl ?_
                    refine V_aload_n 194 2 rfl rfl rfl ?_
                    refine V_get (v := .int (σ5.2.1 92 90)) 195 90 rfl clX12 flX12_581 (by decide) (wsh hW rfl) (fun _ => rfl) ?_
                    obtain ⟨hin, h⟩ := h
                    refine V_iald 196 rfl (wsh hW rfl) hin ?_
                    obtain ⟨hin, h⟩ := h
                    refine V_iast 197 rfl (wsh hW rfl) hin ?_
                    refine V_nm (fun σ6 eσ6 => ?_)
                    replace h := h σ6 eσ6
                    have hW := wire_I eσ6 hW
                    refine V_aload_n 198 2 rfl rfl rfl ?_
                    refine V_getR 199 96 rfl clX12 flX12_219 (by decide) (wsh hW rfl) (fun _ => rfl) (wrf hW 163 rfl) ?_
                    refine V_pc 349 rfl ?_
                    refine V_iload 200 0 rfl rfl ?_
                    refine V_aload_n 201 2 rfl rfl rfl ?_
                    refine V_getR 202 92 rfl clX12 flX12_207 (by decide) (wsh hW rfl) (fun _ => rfl) (wrf hW 159 rfl) ?_
                    refine V_aload_n 203 2 rfl rfl rfl ?_
                    refine V_get (v := .int (σ6.2.1 92 90)) 204 90 rfl clX12 flX12_581 (by decide) (wsh hW rfl) (fun _ => rfl) ?_
                    obtain ⟨hin, h⟩ := h
                    refine V_zald 205 rfl (wsh hW rfl) hin ?_
                    refine V_pc 360 rfl ?_
                    obtain ⟨hin, h⟩ := h
                    refine V_zast 206 rfl (wsh hW rfl) hin ?_
                    refine V_nm (fun σ7 eσ7 => ?_)
                    replace h := h σ7 eσ7
                    have hW := wire_I eσ7 hW
                    exact V_vret 207 rfl rfl ⟨hW, rfl, h⟩
                · replace h := h.2 hc
                  refine V_pc 261 rfl ?_
                  refine V_aload_n 149 1 rfl rfl rfl ?_
                  refine V_dup 150 rfl rfl ?_
                  refine V_get (v := .int (σ2.2.1 92 90)) 151 90 rfl clX12 flX12_581 (by decide) (wsh hW rfl) (fun _ => rfl) ?_
                  refine V_iconst 152 (v := (1 : Int32)) rfl (by decide) ?_
                  refine V_isub 153 rfl ?_
                  refine V_putI 154 90 rfl clX12 flX12_581 (by decide) (wsh hW rfl) rfl (fun _ _ => rfl) rfl rfl ?_
                  refine V_nm (fun σ8 eσ8 => ?_)
                  replace h := h σ8 eσ8
                  have hW := wire_I eσ8 hW
                  refine V_aload_n 155 1 rfl rfl rfl ?_
                  refine V_getR 156 93 rfl clX12 flX12_210 (by decide) (wsh hW rfl) (fun _ => rfl) (wrf hW 160 rfl) ?_
                  refine V_iload_n 157 3 rfl rfl rfl ?_
                  refine V_aload_n 158 1 rfl rfl rfl ?_
                  refine V_getR 159 91 rfl clX12 flX12_204 (by decide) (wsh hW rfl) (fun _ => rfl) (wrf hW 158 rfl) ?_
                  refine V_pc 280 rfl ?_
                  refine V_aload_n 160 1 rfl rfl rfl ?_
                  refine V_get (v := .int (σ8.2.1 92 90)) 161 90 rfl clX12 flX12_581 (by decide) (wsh hW rfl) (fun _ => rfl) ?_
                  obtain ⟨hin, h⟩ := h
                  refine V_iald 162 rfl (wsh hW rfl) hin ?_
                  obtain ⟨hin, h⟩ := h
                  refine V_iast 163 rfl (wsh hW rfl) hin ?_
                  refine V_nm (fun σ9 eσ9 => ?_)
                  replace h := h σ9 eσ9
                  have hW := wire_I eσ9 hW
                  refine V_aload_n 164 1 rfl rfl rfl ?_
                  refine V_getR 165 94 rfl clX12 flX12_213 (by decide) (wsh hW rfl) (fun _ => rfl) (wrf hW 161 rfl) ?_
                  refine V_pc 290 rfl ?_
                  refine V_iload_n 166 3 rfl rfl rfl ?_
                  refine V_aload_n 167 1 rfl rfl rfl ?_
                  refine V_getR 168 92 rfl clX12 flX12_207 (by decide) (wsh hW rfl) (fun _ => rfl) (wrf hW 159 rfl) ?_
                  refine V_aload_n 169 1 rfl rfl rfl ?_
                  refine V_get (v := .int (σ9.2.1 92 90)) 170 90 rfl clX12 flX12_581 (by decide) (wsh hW rfl) (fun _ => rfl) ?_
                  obtain ⟨hin, h⟩ := h
                  refine V_zald 171 rfl (wsh hW rfl) hin ?_
                  refine V_pc 300 rfl ?_
                  obtain ⟨hin, h⟩ := h
                  refine V_zast 172 rfl (wsh hW rfl) hin ?_
                  refine V_nm (fun σ10 eσ10 => ?_)
                  replace h := h σ10 eσ10
                  have hW := wire_I eσ10 hW
                  refine V_goto 173 (tgt := 361) rfl (by decide) ?_
                  exact V_vret 207 rfl rfl ⟨hW, rfl, h⟩
              · replace h := h.2 hc
                refine V_pc 247 rfl ?_
                refine V_aload_n 142 1 rfl rfl rfl ?_
                refine V_iload_n 143 2 rfl rfl rfl ?_
                refine V_callV 144 1 (as := [.int x1]) (rest := []) rfl mlX12_607 yvX12_works rfl rfl clX12 (wsh hW rfl) (by decide) (by decide) (Nat.le_of_ble_eq_true rfl) (by decide) (by decide) (fun B9 => ceX12_works hl B9 hW h) (fun X9 τ9 h9 => VX_out rfl h9) ?_
                rintro v9 σ11 ⟨hW, rfl, h⟩
                refine V_goto 145 (tgt := 361) rfl (by decide) ?_
                exact V_vret 207 rfl rfl ⟨hW, rfl, h⟩
            · replace h := h.2 hc
              refine V_pc 211 rfl ?_
              refine V_aload_n 122 1 rfl rfl rfl ?_
              refine V_iload_n 123 4 rfl rfl rfl ?_
              refine V_iload_n 124 2 rfl rfl rfl ?_
              refine V_iload_n 125 3 rfl rfl rfl ?_
              refine V_callV 126 3 (as := [.int x3, .int x1, .int x2]) (rest := []) rfl mlX12_604 yvX12_placeOf rfl rfl clX12 (wsh hW rfl) (by decide) (by decide) (Nat.le_of_ble_eq_true rfl) (by decide) (by decide) (fun B9 => ceX12_placeOf hl B9 hW h) (fun X9 τ9 h9 => VX_out rfl h9) ?_
              rintro v9 σ12 ⟨hW, u13, rfl, h⟩
              refine V_istore 127 (lv' := [(5, .int u13), (4, .int y0), (0, .ref 92), (1, .int x1), (2, .int x2), (3, .int x3)]) rfl (by decide) rfl ?_
              refine V_aload_n 128 2 rfl rfl rfl ?_
              refine V_aload_n 129 2 rfl rfl rfl ?_
              refine V_getR 130 95 rfl clX12 flX12_216 (by decide) (wsh hW rfl) (fun _ => rfl) (wrf hW 162 rfl) ?_
              refine V_iload 131 0 rfl rfl ?_
              refine V_pc 227 rfl ?_
              obtain ⟨hin, h⟩ := h
              refine V_iald 132 rfl (wsh hW rfl) hin ?_
              refine V_aload_n 133 2 rfl rfl rfl ?_
              refine V_getR 134 96 rfl clX12 flX12_219 (by decide) (wsh hW rfl) (fun _ => rfl) (wrf hW 163 rfl) ?_
              refine V_iload 135 0 rfl rfl ?_
              obtain ⟨hin, h⟩ := h
              refine V_zald 136 rfl (wsh hW rfl) hin ?_
              refine V_callV 137 2 (as := [.int (σ12.2.1 161 u13.toNatClampNeg), .int (σ12.2.1 162 u13.toNatClampNeg)]) (rest := []) rfl mlX12_595 yvX12_pushes rfl rfl clX12 (wsh hW rfl) (by decide) (by decide) (Nat.le_of_ble_eq_true rfl) (by decide) (by decide) (fun B9 => ceX12_pushes hl B9 hW h) (fun X9 τ9 h9 => VX_out rfl h9) ?_
              rintro v9 σ14 ⟨hW, rfl, h⟩
              refine V_goto 138 (tgt := 361) rfl (by decide) ?_
              exact V_vret 207 rfl rfl ⟨hW, rfl, h⟩
          · replace h := h.2 hc
            refine V_pc 186 rfl ?_
            refine V_aload_n 108 1 rfl rfl rfl ?_
            refine V_aload_n 109 1 rfl rfl rfl ?_
            refine V_getR 110 93 rfl clX12 flX12_210 (by decide) (wsh hW rfl) (fun _ => rfl) (wrf hW 160 rfl) ?_
            refine V_iload_n 111 3 rfl rfl rfl ?_
            obtain ⟨hin, h⟩ := h
            refine V_iald 112 rfl (wsh hW rfl) hin ?_
            refine V_aload_n 113 1 rfl rfl rfl ?_
            refine V_pc 194 rfl ?_
            refine V_getR 114 94 rfl clX12 flX12_213 (by decide) (wsh hW rfl) (fun _ => rfl) (wrf hW 161 rfl) ?_
            refine V_iload_n 115 3 rfl rfl rfl ?_
            obtain ⟨hin, h⟩ := h
            refine V_zald 116 rfl (wsh hW rfl) hin ?_
            refine V_callV 117 2 (as := [.int (σ2.2.1 159 x2.toNatClampNeg), .int (σ2.2.1 160 x2.toNatClampNeg)]) (rest := []) rfl mlX12_595 yvX12_pushes rfl rfl clX12 (wsh hW rfl) (by decide) (by decide) (Nat.le_of_ble_eq_true rfl) (by decide) (by decide) (fun B9 => ceX12_pushes hl B9 hW h) (fun X9 τ9 h9 => VX_out rfl h9) ?_
            rintro v9 σ15 ⟨hW, rfl, h⟩
            refine V_goto 118 (tgt := 361) rfl (by decide) ?_
            exact V_vret 207 rfl rfl ⟨hW, rfl, h⟩
        · replace h := h.2 hc
          refine V_pc 159 rfl ?_
          refine V_sub [1, 2, 3, 4] (lv' := [(0, .ref 92), (1, .int x1), (2, .int x2), (3, .int x3)]) rfl ?_
          exact k_j159 x1 x2 x3 σ2 hW h
    · replace h := h.2 hc
      refine V_pc 95 rfl ?_
      refine V_aload_n 55 1 rfl rfl rfl ?_
      refine V_getR 56 58 rfl clX12 flX12_129 (by decide) (wsh hW rfl) (fun _ => rfl) (wrf hW 133 rfl) ?_
      refine V_iconst 57 (v := (3 : Int32)) rfl (by decide) ?_
      refine V_iload_n 58 4 rfl rfl rfl ?_
      refine V_imul 59 rfl ?_
      refine V_iload_n 60 3 rfl rfl rfl ?_
      refine V_pc 103 rfl ?_
      refine V_iadd 61 rfl ?_
      refine V_iconst 62 (v := (1 : Int32)) rfl (by decide) ?_
      refine V_isub 63 rfl ?_
      obtain ⟨hin, h⟩ := h
      refine V_iald 64 rfl (wsh hW rfl) hin ?_
      refine V_topi (fun v16 ev16 => ?_)
      replace h := h v16 ev16
      refine V_istore 65 (lv' := [(5, .int v16), (4, .int y0), (0, .ref 92), (1, .int x1), (2, .int x2), (3, .int x3)]) rfl (by decide) rfl ?_
      refine V_aload_n 66 2 rfl rfl rfl ?_
      refine V_pc 110 rfl ?_
      refine V_getR 67 88 rfl clX12 flX12_198 (by decide) (wsh hW rfl) (fun _ => rfl) (wrf hW 156 rfl) ?_
      refine V_aload_n 68 2 rfl rfl rfl ?_
      refine V_get (v := .int (σ2.2.1 92 86)) 69 86 rfl clX12 flX12_584 (by decide) (wsh hW rfl) (fun _ => rfl) ?_
      refine V_iload 70 1 rfl rfl ?_
      obtain ⟨hin, h⟩ := h
      refine V_iast 71 rfl (wsh hW rfl) hin ?_
      refine V_nm (fun σ17 eσ17 => ?_)
      replace h := h σ17 eσ17
      have hW := wire_I eσ17 hW
      refine V_aload_n 72 2 rfl rfl rfl ?_
      refine V_pc 121 rfl ?_
      refine V_getR 73 87 rfl clX12 flX12_195 (by decide) (wsh hW rfl) (fun _ => rfl) (wrf hW 155 rfl) ?_
      refine V_aload_n 74 2 rfl rfl rfl ?_
      refine V_get (v := .int (σ17.2.1 92 86)) 75 86 rfl clX12 flX12_584 (by decide) (wsh hW rfl) (fun _ => rfl) ?_
      refine V_iload 76 0 rfl rfl ?_
      obtain ⟨hin, h⟩ := h
      refine V_iast 77 rfl (wsh hW rfl) hin ?_
      refine V_nm (fun σ18 eσ18 => ?_)
      replace h := h σ18 eσ18
      have hW := wire_I eσ18 hW
      refine V_aload_n 78 2 rfl rfl rfl ?_
      refine V_pc 132 rfl ?_
      refine V_dup 79 rfl rfl ?_
      refine V_get (v := .int (σ18.2.1 92 86)) 80 86 rfl clX12 flX12_584 (by decide) (wsh hW rfl) (fun _ => rfl) ?_
      refine V_iconst 81 (v := (1 : Int32)) rfl (by decide) ?_
      refine V_iadd 82 rfl ?_
      refine V_putI 83 86 rfl clX12 flX12_584 (by decide) (wsh hW rfl) rfl (fun _ _ => rfl) rfl rfl ?_
      refine V_nm (fun σ19 eσ19 => ?_)
      replace h := h σ19 eσ19
      have hW := wire_I eσ19 hW
      refine V_aload_n 84 2 rfl rfl rfl ?_
      refine V_iload 85 0 rfl rfl ?_
      refine V_callV 86 1 (as := [.int v16]) (rest := []) rfl mlX12_587 yvX12_visits rfl rfl clX12 (wsh hW rfl) (by decide) (by decide) (Nat.le_of_ble_eq_true rfl) (by decide) (by decide) (fun B9 => ceX12_visits hl B9 hW h) (fun X9 τ9 h9 => VX_out rfl h9) ?_
      rintro v9 σ20 ⟨hW, rfl, h⟩
      refine V_goto 87 (tgt := 361) rfl (by decide) ?_
      exact V_vret 207 rfl rfl ⟨hW, rfl, h⟩
  intro σ hW h
  refine V_aload_n 0 0 rfl rfl rfl ?_
  refine V_getR 1 75 rfl clX12 flX12_171 (by decide) (wsh hW rfl) (fun _ => rfl) (wrf hW 147 rfl) ?_
  refine V_aload_n 2 0 rfl rfl rfl ?_
  refine V_get (v := .int (σ.2.1 92 84)) 3 84 rfl clX12 flX12_575 (by decide) (wsh hW rfl) (fun _ => rfl) ?_
  obtain ⟨hin, h⟩ := h
  refine V_iald 4 rfl (wsh hW rfl) hin ?_
  refine V_topi (fun v21 ev21 => ?_)
  replace h := h v21 ev21
  refine V_istore_n 5 (lv' := [(1, .int v21), (0, .ref 92)]) rfl rfl (by decide) rfl ?_
  refine V_pc 10 rfl ?_
  refine V_aload_n 6 1 rfl rfl rfl ?_
  refine V_getR 7 76 rfl clX12 flX12_174 (by decide) (wsh hW rfl) (fun _ => rfl) (wrf hW 148 rfl) ?_
  refine V_aload_n 8 1 rfl rfl rfl ?_
  refine V_get (v := .int (σ.2.1 92 84)) 9 84 rfl clX12 flX12_575 (by decide) (wsh hW rfl) (fun _ => rfl) ?_
  obtain ⟨hin, h⟩ := h
  refine V_iald 10 rfl (wsh hW rfl) hin ?_
  refine V_topi (fun v22 ev22 => ?_)
  replace h := h v22 ev22
  refine V_istore_n 11 (lv' := [(2, .int v22), (1, .int v21), (0, .ref 92)]) rfl rfl (by decide) rfl ?_
  refine V_pc 20 rfl ?_
  refine V_aload_n 12 2 rfl rfl rfl ?_
  refine V_getR 13 87 rfl clX12 flX12_195 (by decide) (wsh hW rfl) (fun _ => rfl) (wrf hW 155 rfl) ?_
  refine V_aload_n 14 2 rfl rfl rfl ?_
  refine V_get (v := .int (σ.2.1 92 86)) 15 86 rfl clX12 flX12_584 (by decide) (wsh hW rfl) (fun _ => rfl) ?_
  refine V_iconst 16 (v := (1 : Int32)) rfl (by decide) ?_
  refine V_isub 17 rfl ?_
  refine V_pc 30 rfl ?_
  obtain ⟨hin, h⟩ := h
  refine V_iald 18 rfl (wsh hW rfl) hin ?_
  refine V_topi (fun v23 ev23 => ?_)
  replace h := h v23 ev23
  refine V_istore_n 19 (lv' := [(3, .int v23), (2, .int v22), (1, .int v21), (0, .ref 92)]) rfl rfl (by decide) rfl ?_
  refine V_aload_n 20 3 rfl rfl rfl ?_
  refine V_dup 21 rfl rfl ?_
  refine V_get (v := .int (σ.2.1 92 85)) 22 85 rfl clX12 flX12_578 (by decide) (wsh hW rfl) (fun _ => rfl) ?_
  refine V_iconst 23 (v := (1 : Int32)) rfl (by decide) ?_
  refine V_pc 38 rfl ?_
  refine V_iadd 24 rfl ?_
  refine V_putI 25 85 rfl clX12 flX12_578 (by decide) (wsh hW rfl) rfl (fun _ _ => rfl) rfl rfl ?_
  refine V_nm (fun σ24 eσ24 => ?_)
  replace h := h σ24 eσ24
  have hW := wire_I eσ24 hW
  refine V_iload_n 26 2 rfl rfl rfl ?_
  refine V_bipush 27 (v := (13 : Int32)) rfl (by decide) ?_
  refine V_icmp_ne 28 (tgt := 54) rfl (by decide) (fun hc => ?_) (fun hc => ?_)
  · replace h := h.1 hc
    refine V_iload_n 33 2 rfl rfl rfl ?_
    refine V_bipush 34 (v := (20 : Int32)) rfl (by decide) ?_
    refine V_icmp_ne 35 (tgt := 65) rfl (by decide) (fun hc => ?_) (fun hc => ?_)
    · replace h := h.1 hc
      refine V_iload_n 39 2 rfl rfl rfl ?_
      refine V_bipush 40 (v := (14 : Int32)) rfl (by decide) ?_
      refine V_icmp_ne 41 (tgt := 75) rfl (by decide) (fun hc => ?_) (fun hc => ?_)
      · replace h := h.1 hc
        refine V_aload_n 44 3 rfl rfl rfl ?_
        refine V_get (v := .int (σ24.2.1 92 84)) 45 84 rfl clX12 flX12_575 (by decide) (wsh hW rfl) (fun _ => rfl) ?_
        refine V_iconst 46 (v := (1 : Int32)) rfl (by decide) ?_
        refine V_iadd 47 rfl ?_
        refine V_sub [3, 2, 1, 0] (lv' := [(0, .ref 92), (1, .int v21), (2, .int v22), (3, .int v23)]) rfl ?_
        exact k_j81 v21 v22 v23 ((σ24.2.1 92 84) + (1 : Int32)) σ24 hW h
      · replace h := h.2 hc
        refine V_pc 71 rfl ?_
        refine V_iload_n 42 1 rfl rfl rfl ?_
        refine V_goto 43 (tgt := 81) rfl (by decide) ?_
        refine V_sub [3, 2, 1, 0] (lv' := [(0, .ref 92), (1, .int v21), (2, .int v22), (3, .int v23)]) rfl ?_
        exact k_j81 v21 v22 v23 v22 σ24 hW h
    · replace h := h.2 hc
      refine V_pc 60 rfl ?_
      refine V_aload_n 36 3 rfl rfl rfl ?_
      refine V_callV 37 0 (as := []) (rest := []) rfl mlX12_601 yvX12_backs rfl rfl clX12 (wsh hW rfl) (by decide) (by decide) (Nat.le_of_ble_eq_true rfl) (by decide) (by decide) (fun B9 => ceX12_backs hl B9 hW h) (fun X9 τ9 h9 => VX_out rfl h9) ?_
      rintro v9 σ25 ⟨hW, rfl, h⟩
      exact V_vret 38 rfl rfl ⟨hW, rfl, h⟩
  · replace h := h.2 hc
    refine V_pc 48 rfl ?_
    refine V_aload_n 29 3 rfl rfl rfl ?_
    refine V_iload_n 30 1 rfl rfl rfl ?_
    refine V_callV 31 1 (as := [.int v22]) (rest := []) rfl mlX12_598 yvX12_test rfl rfl clX12 (wsh hW rfl) (by decide) (by decide) (Nat.le_of_ble_eq_true rfl) (by decide) (by decide) (fun B9 => ceX12_test hl B9 hW h) (fun X9 τ9 h9 => VX_out rfl h9) ?_
    rintro v9 σ26 ⟨hW, rfl, h⟩
    exact V_vret 32 rfl rfl ⟨hW, rfl, h⟩

def wX12_step_l47_b (a0 : Int32) (Q : Int32 → ab_S → Prop) (E : String → ab_S → Prop) (Bk : Int32 → ab_S → Prop) (x2 : Int32) (σ : ab_S) : Prop := ((a0 ≤ x2) → Q x2 σ) ∧ (¬ (a0 ≤ x2) → (((σ.2.1 92 84) < 0) → Q x2 σ) ∧ (¬ ((σ.2.1 92 84) < 0) → wX12_one (fun σ1 => ∀ v2 : Int32, v2 = (x2 + 1) → Bk v2 σ1) E σ))
def wX12_step_l47 (a0 : Int32) (Q : Int32 → ab_S → Prop) (E : String → ab_S → Prop) : Nat → Int32 → ab_S → Prop
  | 0, _, _ => False
  | n + 1, x2, σ => wX12_step_l47_b a0 Q E (wX12_step_l47 a0 Q E n) x2 σ
def wX12_step_j36 (a0 : Int32) (Q : Int32 → ab_S → Prop) (E : String → ab_S → Prop) (y0 : Int32) (y1 : Int32) (σ : ab_S) : Prop := wX12_refuse y1 y0 (0 : Int32) (fun u4 σ3 => ((u4 = 0) → ∃ n, wX12_step_l47 a0 Q E n (0 : Int32) σ3) ∧ (¬ (u4 = 0) → Q (0 : Int32) σ3)) E σ
def wX12_step_j35 (a0 : Int32) (Q : Int32 → ab_S → Prop) (E : String → ab_S → Prop) (y0 : Int32) (σ : ab_S) : Prop := wX12_step_j36 a0 Q E (0 : Int32) y0 σ
def wX12_step_j13 (a0 : Int32) (Q : Int32 → ab_S → Prop) (E : String → ab_S → Prop) (y0 : Int32) (σ : ab_S) : Prop := (((σ.2.1 92 83) = 0) → wX12_step_j35 a0 Q E y0 σ) ∧ (¬ ((σ.2.1 92 83) = 0) → wX12_in a0 (0 : Int32) (100000 : Int32) (fun u6 σ5 => ((¬ u6 = 0) → wX12_step_j35 a0 Q E y0 σ5) ∧ (¬ (¬ u6 = 0) → wX12_step_j36 a0 Q E (1 : Int32) y0 σ5)) E σ)
def wX12_step (a0 : Int32) (Q : Int32 → ab_S → Prop) (E : String → ab_S → Prop) (σ : ab_S) : Prop := ((¬ (σ.2.1 92 83) = 0) → wX12_step_j13 a0 Q E (0 : Int32) σ) ∧ (¬ (¬ (σ.2.1 92 83) = 0) → wX12_step_j13 a0 Q E (1 : Int32) σ)
set_option maxHeartbeats 4000000 in
set_option maxRecDepth 100000 in
theorem ceX12_step {l : Launch} (hl : l.stackTraces = false) (B : Nat) {a0 : Int32}  {Q : Int32 → ab_S → Prop} {E : String → ab_S → Prop} {σ : ab_S} (hW : Wire σ) (h : wX12_step a0 Q E σ) : ab_Mt l yX12_step mdX12_step B 3 76 0 0 [.ref 92, .int a0] σ (fun v σ' => Wire σ' ∧ ∃ r : Int32, v = some (.int r) ∧ Q r σ') (fun X σ' => Wire σ' ∧ E X σ') := by
  refine V_met hl ⟨rfl, rfl, by decide⟩ rfl dkX12_step (Nat.le_of_ble_eq_true rfl) ?_
  show V l mdX12_step B 3 76 0 0 (ab_End _ _) 0 [(0, .ref 92), (1, .int a0)] [] σ
  revert h hW
  revert σ
  have k_l47 : ∀ (n : Nat) (x2 : Int32)  (σ : ab_S), Wire σ → wX12_step_l47 a0 Q E n x2 σ → V l mdX12_step B 3 76 0 0 (ab_End (fun v σ' => Wire σ' ∧ ∃ r : Int32, v = some (.int r) ∧ Q r σ') (fun X σ' => Wire σ' ∧ E X σ')) 47 [(0, .ref 92), (1, .int a0), (2, .int x2)] [] σ := by
    have step : ∀ (Bk : Int32 → ab_S → Prop) (k_Bk : ∀ (x2 : Int32)  (σ : ab_S), Wire σ → Bk x2 σ → V l mdX12_step B 3 76 0 0 (ab_End (fun v σ' => Wire σ' ∧ ∃ r : Int32, v = some (.int r) ∧ Q r σ') (fun X σ' => Wire σ' ∧ E X σ')) 47 [(0, .ref 92), (1, .int a0), (2, .int x2)] [] σ), ∀ (x2 : Int32)  (σ : ab_S), Wire σ → wX12_step_l47_b a0 Q E Bk x2 σ → V l mdX12_step B 3 76 0 0 (ab_End (fun v σ' => Wire σ' ∧ ∃ r : Int32, v = some (.int r) ∧ Q r σ') (fun X σ' => Wire σ' ∧ E X σ')) 47 [(0, .ref 92), (1, .int a0), (2, .int x2)] [] σ := by
      intro Bk k_Bk
      intro x2  σ hW h
      refine V_iload_n 25 2 rfl rfl rfl ?_
      refine V_iload_n 26 1 rfl rfl rfl ?_
      refine V_icmp_ge 27 (tgt := 69) rfl (by decide) (fun hc => ?_) (fun hc => ?_)
      · replace h := h.1 hc
        refine V_iload_n 35 2 rfl rfl rfl ?_
        exact V_iret 36 rfl rfl ⟨hW, _, rfl, h⟩
      · replace h := h.2 hc
        refine V_pc 52 rfl ?_
        refine V_aload_n 28 0 rfl rfl rfl ?_
        refine V_get (v := .int (σ.2.1 92 84)) 29 84 rfl clX12 flX12_575 (by decide) (wsh hW rfl) (fun _ => rfl) ?_
        refine V_if_lt 30 (tgt := 69) rfl (by decide) (fun hc => ?_) (fun hc => ?_)
        · replace h := h.1 hc
          refine V_iload_n 35 2 rfl rfl rfl ?_
          exact V_iret 36 rfl rfl ⟨hW, _, rfl, h⟩
        · replace h := h.2 hc
          refine V_pc 59 rfl ?_
          refine V_aload_n 31 0 rfl rfl rfl ?_
          refine V_callV 32 0 (as := []) (rest := []) rfl mlX12_611 yvX12_one rfl rfl clX12 (wsh hW rfl) (by decide) (by decide) (Nat.le_of_ble_eq_true rfl) (by decide) (by decide) (fun B9 => ceX12_one hl B9 hW h) (fun X9 τ9 h9 => VX_out rfl h9) ?_
          rintro v9 σ1 ⟨hW, rfl, h⟩
          obtain ⟨v2, ev2⟩ : ∃ z : Int32, z = (x2 + 1) := ⟨_, rfl⟩
          replace h := h v2 ev2
          refine V_iinc 33 2 (v := v2) (lv' := [(2, .int v2), (0, .ref 92), (1, .int a0)]) rfl rfl ((in_1 _).trans ev2.symm) (by decide) rfl ?_
          refine V_goto 34 (tgt := 47) rfl (by decide) ?_
          refine V_sub [1, 2, 0] (lv' := [(0, .ref 92), (1, .int a0), (2, .int v2)]) rfl ?_
          exact k_Bk v2  σ1 hW h
    intro n
    induction n with
    | zero => intro x2  σ hW h; exact absurd h id
    | succ n ih => exact step  _ ih
  have k_j36 : ∀ (y0 : Int32) (y1 : Int32)  (σ : ab_S), Wire σ → wX12_step_j36 a0 Q E y0 y1 σ → V l mdX12_step B 3 76 0 0 (ab_End (fun v σ' => Wire σ' ∧ ∃ r : Int32, v = some (.int r) ∧ Q r σ') (fun X σ' => Wire σ' ∧ E X σ')) 36 [(0, .ref 92), (1, .int a0)] [.int y0, .int y1, .ref 92] σ := by
    intro y0 y1  σ hW h
    refine V_iconst 18 (v := (0 : Int32)) rfl (by decide) ?_
    refine V_callV 19 3 (as := [.int y1, .int y0, .int (0 : Int32)]) (rest := []) rfl mlX12_245 yvX12_refuse rfl rfl clX12 (wsh hW rfl) (by decide) (by decide) (Nat.le_of_ble_eq_true rfl) (by decide) (by decide) (fun B9 => ceX12_refuse hl B9 hW h) (fun X9 τ9 h9 => VX_out rfl h9) ?_
    rintro v9 σ3 ⟨hW, u4, rfl, h⟩
    refine V_if_eq 20 (tgt := 45) rfl (by decide) (fun hc => ?_) (fun hc => ?_)
    · replace h := h.1 hc
      refine V_iconst 23 (v := (0 : Int32)) rfl (by decide) ?_
      refine V_istore_n 24 (lv' := [(2, .int (0 : Int32)), (0, .ref 92), (1, .int a0)]) rfl rfl (by decide) rfl ?_
      refine V_sub [1, 2, 0] (lv' := [(0, .ref 92), (1, .int a0), (2, .int (0 : Int32))]) rfl ?_
      obtain ⟨n, h⟩ := h
      exact k_l47 n (0 : Int32) σ3 hW h
    · replace h := h.2 hc
      refine V_pc 43 rfl ?_
      refine V_iconst 21 (v := (0 : Int32)) rfl (by decide) ?_
      exact V_iret 22 rfl rfl ⟨hW, _, rfl, h⟩
  have k_j35 : ∀ (y0 : Int32)  (σ : ab_S), Wire σ → wX12_step_j35 a0 Q E y0 σ → V l mdX12_step B 3 76 0 0 (ab_End (fun v σ' => Wire σ' ∧ ∃ r : Int32, v = some (.int r) ∧ Q r σ') (fun X σ' => Wire σ' ∧ E X σ')) 35 [(0, .ref 92), (1, .int a0)] [.int y0, .ref 92] σ := by
    intro y0  σ hW h
    refine V_iconst 17 (v := (0 : Int32)) rfl (by decide) ?_
    exact k_j36 (0 : Int32) y0 σ hW h
  have k_j13 : ∀ (y0 : Int32)  (σ : ab_S), Wire σ → wX12_step_j13 a0 Q E y0 σ → V l mdX12_step B 3 76 0 0 (ab_End (fun v σ' => Wire σ' ∧ ∃ r : Int32, v = some (.int r) ∧ Q r σ') (fun X σ' => Wire σ' ∧ E X σ')) 13 [(0, .ref 92), (1, .int a0)] [.int y0, .ref 92] σ := by
    intro y0  σ hW h
    refine V_aload_n 7 0 rfl rfl rfl ?_
    refine V_get (v := .int (σ.2.1 92 83)) 8 83 rfl clX12 flX12_505 (by decide) (wsh hW rfl) (fun _ => rfl) ?_
    refine V_if_eq 9 (tgt := 35) rfl (by decide) (fun hc => ?_) (fun hc => ?_)
    · replace h := h.1 hc
      exact k_j35 y0 σ hW h
    · replace h := h.2 hc
      refine V_pc 20 rfl ?_
      refine V_iload_n 10 1 rfl rfl rfl ?_
      refine V_iconst 11 (v := (0 : Int32)) rfl (by decide) ?_
      refine V_ldc_w 12 (v := (100000 : Int32)) rfl ctX12_610 ?_
      refine V_callS 13 3 (as := [.int a0, .int (0 : Int32), .int (100000 : Int32)]) (rest := [.int y0, .ref 92]) rfl mlX12_238 yvX12_in rfl rfl (by decide) (by decide) (Nat.le_of_ble_eq_true rfl) (by decide) (by decide) (fun B9 => ceX12_in hl B9 hW h) (fun X9 τ9 h9 => VX_out rfl h9) ?_
      rintro v9 σ5 ⟨hW, u6, rfl, h⟩
      refine V_if_ne 14 (tgt := 35) rfl (by decide) (fun hc => ?_) (fun hc => ?_)
      · replace h := h.1 hc
        exact k_j35 y0 σ5 hW h
      · replace h := h.2 hc
        refine V_pc 31 rfl ?_
        refine V_iconst 15 (v := (1 : Int32)) rfl (by decide) ?_
        refine V_goto 16 (tgt := 36) rfl (by decide) ?_
        exact k_j36 (1 : Int32) y0 σ5 hW h
  intro σ hW h
  refine V_aload_n 0 0 rfl rfl rfl ?_
  refine V_aload_n 1 0 rfl rfl rfl ?_
  refine V_get (v := .int (σ.2.1 92 83)) 2 83 rfl clX12 flX12_505 (by decide) (wsh hW rfl) (fun _ => rfl) ?_
  refine V_if_ne 3 (tgt := 12) rfl (by decide) (fun hc => ?_) (fun hc => ?_)
  · replace h := h.1 hc
    refine V_iconst 6 (v := (0 : Int32)) rfl (by decide) ?_
    exact k_j13 (0 : Int32) σ hW h
  · replace h := h.2 hc
    refine V_pc 8 rfl ?_
    refine V_iconst 4 (v := (1 : Int32)) rfl (by decide) ?_
    refine V_goto 5 (tgt := 13) rfl (by decide) ?_
    exact k_j13 (1 : Int32) σ hW h

def wX12_machine_j34 (a0 : Int32) (Q : Int32 → ab_S → Prop) (E : String → ab_S → Prop) (y0 : Int32) (y1 : Int32) (σ : ab_S) : Prop := wX12_refuse y1 y0 (0 : Int32) (fun u2 σ1 => ((u2 = 0) → (a0 = 0 → Q (σ1.2.1 92 84) σ1) ∧ (¬ a0 = 0 → (a0 = 1 → Q (σ1.2.1 92 86) σ1) ∧ (¬ a0 = 1 → (a0 = 2 → Q (σ1.2.1 92 90) σ1) ∧ (¬ a0 = 2 → (a0 = 3 → Q (σ1.2.1 92 85) σ1) ∧ (¬ a0 = 3 → (a0 = 4 → (((σ1.2.1 92 86) ≤ 0) → Q (-1 : Int32) σ1) ∧ (¬ ((σ1.2.1 92 86) ≤ 0) → vp_in ((σ1.2.1 92 86) - (1 : Int32)) 251 ∧ (Q (σ1.2.1 154 ((σ1.2.1 92 86) - (1 : Int32)).toNatClampNeg) σ1))) ∧ (¬ a0 = 4 → Q (σ1.2.1 92 74) σ1)))))) ∧ (¬ (u2 = 0) → Q (0 : Int32) σ1)) E σ
def wX12_machine_j33 (a0 : Int32) (Q : Int32 → ab_S → Prop) (E : String → ab_S → Prop) (y0 : Int32) (σ : ab_S) : Prop := wX12_machine_j34 a0 Q E (0 : Int32) y0 σ
def wX12_machine_j13 (a0 : Int32) (Q : Int32 → ab_S → Prop) (E : String → ab_S → Prop) (y0 : Int32) (σ : ab_S) : Prop := (((σ.2.1 92 83) = 0) → wX12_machine_j33 a0 Q E y0 σ) ∧ (¬ ((σ.2.1 92 83) = 0) → wX12_in a0 (0 : Int32) (5 : Int32) (fun u4 σ3 => ((¬ u4 = 0) → wX12_machine_j33 a0 Q E y0 σ3) ∧ (¬ (¬ u4 = 0) → wX12_machine_j34 a0 Q E (1 : Int32) y0 σ3)) E σ)
def wX12_machine (a0 : Int32) (Q : Int32 → ab_S → Prop) (E : String → ab_S → Prop) (σ : ab_S) : Prop := ((¬ (σ.2.1 92 83) = 0) → wX12_machine_j13 a0 Q E (0 : Int32) σ) ∧ (¬ (¬ (σ.2.1 92 83) = 0) → wX12_machine_j13 a0 Q E (1 : Int32) σ)
set_option maxHeartbeats 4000000 in
set_option maxRecDepth 100000 in
theorem ceX12_machine {l : Launch} (hl : l.stackTraces = false) (B : Nat) {a0 : Int32}  {Q : Int32 → ab_S → Prop} {E : String → ab_S → Prop} {σ : ab_S} (hW : Wire σ) (h : wX12_machine a0 Q E σ) : ab_Mt l yX12_machine mdX12_machine B 1 23 0 0 [.ref 92, .int a0] σ (fun v σ' => Wire σ' ∧ ∃ r : Int32, v = some (.int r) ∧ Q r σ') (fun X σ' => Wire σ' ∧ E X σ') := by
  refine V_met hl ⟨rfl, rfl, by decide⟩ rfl dkX12_machine (Nat.le_of_ble_eq_true rfl) ?_
  show V l mdX12_machine B 1 23 0 0 (ab_End _ _) 0 [(0, .ref 92), (1, .int a0)] [] σ
  revert h hW
  revert σ
  have k_j34 : ∀ (y0 : Int32) (y1 : Int32)  (σ : ab_S), Wire σ → wX12_machine_j34 a0 Q E y0 y1 σ → V l mdX12_machine B 1 23 0 0 (ab_End (fun v σ' => Wire σ' ∧ ∃ r : Int32, v = some (.int r) ∧ Q r σ') (fun X σ' => Wire σ' ∧ E X σ')) 34 [(0, .ref 92), (1, .int a0)] [.int y0, .int y1, .ref 92] σ := by
    intro y0 y1  σ hW h
    refine V_iconst 18 (v := (0 : Int32)) rfl (by decide) ?_
    refine V_callV 19 3 (as := [.int y1, .int y0, .int (0 : Int32)]) (rest := []) rfl mlX12_245 yvX12_refuse rfl rfl clX12 (wsh hW rfl) (by decide) (by decide) (Nat.le_of_ble_eq_true rfl) (by decide) (by decide) (fun B9 => ceX12_refuse hl B9 hW h) (fun X9 τ9 h9 => VX_out rfl h9) ?_
    rintro v9 σ1 ⟨hW, u2, rfl, h⟩
    refine V_if_eq 20 (tgt := 43) rfl (by decide) (fun hc => ?_) (fun hc => ?_)
    · replace h := h.1 hc
      refine V_iload_n 23 1 rfl rfl rfl ?_
      by_cases hs0 : a0 = 0
      · replace h := h.1 hs0
        refine V_tab 24 (v := 0) (off := 36) (tgt := 80) rfl (by rw [hs0]; rfl) (by decide) rfl (by decide) ?_
        refine V_aload_n 25 0 rfl rfl rfl ?_
        refine V_get (v := .int (σ1.2.1 92 84)) 26 84 rfl clX12 flX12_575 (by decide) (wsh hW rfl) (fun _ => rfl) ?_
        exact V_iret 27 rfl rfl ⟨hW, _, rfl, h⟩
      · replace h := h.2 hs0
        by_cases hs1 : a0 = 1
        · replace h := h.1 hs1
          refine V_tab 24 (v := 1) (off := 41) (tgt := 85) rfl (by rw [hs1]; rfl) (by decide) rfl (by decide) ?_
          refine V_aload_n 28 0 rfl rfl rfl ?_
          refine V_get (v := .int (σ1.2.1 92 86)) 29 86 rfl clX12 flX12_584 (by decide) (wsh hW rfl) (fun _ => rfl) ?_
          exact V_iret 30 rfl rfl ⟨hW, _, rfl, h⟩
        · replace h := h.2 hs1
          by_cases hs2 : a0 = 2
          · replace h := h.1 hs2
            refine V_tab 24 (v := 2) (off := 46) (tgt := 90) rfl (by rw [hs2]; rfl) (by decide) rfl (by decide) ?_
            refine V_aload_n 31 0 rfl rfl rfl ?_
            refine V_get (v := .int (σ1.2.1 92 90)) 32 90 rfl clX12 flX12_581 (by decide) (wsh hW rfl) (fun _ => rfl) ?_
            exact V_iret 33 rfl rfl ⟨hW, _, rfl, h⟩
          · replace h := h.2 hs2
            by_cases hs3 : a0 = 3
            · replace h := h.1 hs3
              refine V_tab 24 (v := 3) (off := 51) (tgt := 95) rfl (by rw [hs3]; rfl) (by decide) rfl (by decide) ?_
              refine V_aload_n 34 0 rfl rfl rfl ?_
              refine V_get (v := .int (σ1.2.1 92 85)) 35 85 rfl clX12 flX12_578 (by decide) (wsh hW rfl) (fun _ => rfl) ?_
              exact V_iret 36 rfl rfl ⟨hW, _, rfl, h⟩
            · replace h := h.2 hs3
              by_cases hs4 : a0 = 4
              · replace h := h.1 hs4
                refine V_tab 24 (v := 4) (off := 56) (tgt := 100) rfl (by rw [hs4]; rfl) (by decide) rfl (by decide) ?_
                refine V_aload_n 37 0 rfl rfl rfl ?_
                refine V_get (v := .int (σ1.2.1 92 86)) 38 86 rfl clX12 flX12_584 (by decide) (wsh hW rfl) (fun _ => rfl) ?_
                refine V_if_le 39 (tgt := 121) rfl (by decide) (fun hc => ?_) (fun hc => ?_)
                · replace h := h.1 hc
                  refine V_iconst 48 (v := (-1 : Int32)) rfl (by decide) ?_
                  exact V_iret 49 rfl rfl ⟨hW, _, rfl, h⟩
                · replace h := h.2 hc
                  refine V_pc 107 rfl ?_
                  refine V_aload_n 40 0 rfl rfl rfl ?_
                  refine V_getR 41 87 rfl clX12 flX12_195 (by decide) (wsh hW rfl) (fun _ => rfl) (wrf hW 155 rfl) ?_
                  refine V_aload_n 42 0 rfl rfl rfl ?_
                  refine V_get (v := .int (σ1.2.1 92 86)) 43 86 rfl clX12 flX12_584 (by decide) (wsh hW rfl) (fun _ => rfl) ?_
                  refine V_iconst 44 (v := (1 : Int32)) rfl (by decide) ?_
                  refine V_isub 45 rfl ?_
                  refine V_pc 117 rfl ?_
                  obtain ⟨hin, h⟩ := h
                  refine V_iald 46 rfl (wsh hW rfl) hin ?_
                  refine V_goto 47 (tgt := 122) rfl (by decide) ?_
                  exact V_iret 49 rfl rfl ⟨hW, _, rfl, h⟩
              · replace h := h.2 hs4
                refine V_tabOut 24 (tgt := 123) rfl (by have hq0 := lv_neT hs0 (show Int32.toInt 0 = 0 from by decide); have hq1 := lv_neT hs1 (show Int32.toInt 1 = 1 from by decide); have hq2 := lv_neT hs2 (show Int32.toInt 2 = 2 from by decide); have hq3 := lv_neT hs3 (show Int32.toInt 3 = 3 from by decide); have hq4 := lv_neT hs4 (show Int32.toInt 4 = 4 from by decide); omega) (by decide) ?_
                refine V_aload_n 50 0 rfl rfl rfl ?_
                refine V_get (v := .int (σ1.2.1 92 74)) 51 74 rfl clX12 flX12_551 (by decide) (wsh hW rfl) (fun _ => rfl) ?_
                exact V_iret 52 rfl rfl ⟨hW, _, rfl, h⟩
    · replace h := h.2 hc
      refine V_pc 41 rfl ?_
      refine V_iconst 21 (v := (0 : Int32)) rfl (by decide) ?_
      exact V_iret 22 rfl rfl ⟨hW, _, rfl, h⟩
  have k_j33 : ∀ (y0 : Int32)  (σ : ab_S), Wire σ → wX12_machine_j33 a0 Q E y0 σ → V l mdX12_machine B 1 23 0 0 (ab_End (fun v σ' => Wire σ' ∧ ∃ r : Int32, v = some (.int r) ∧ Q r σ') (fun X σ' => Wire σ' ∧ E X σ')) 33 [(0, .ref 92), (1, .int a0)] [.int y0, .ref 92] σ := by
    intro y0  σ hW h
    refine V_iconst 17 (v := (0 : Int32)) rfl (by decide) ?_
    exact k_j34 (0 : Int32) y0 σ hW h
  have k_j13 : ∀ (y0 : Int32)  (σ : ab_S), Wire σ → wX12_machine_j13 a0 Q E y0 σ → V l mdX12_machine B 1 23 0 0 (ab_End (fun v σ' => Wire σ' ∧ ∃ r : Int32, v = some (.int r) ∧ Q r σ') (fun X σ' => Wire σ' ∧ E X σ')) 13 [(0, .ref 92), (1, .int a0)] [.int y0, .ref 92] σ := by
    intro y0  σ hW h
    refine V_aload_n 7 0 rfl rfl rfl ?_
    refine V_get (v := .int (σ.2.1 92 83)) 8 83 rfl clX12 flX12_505 (by decide) (wsh hW rfl) (fun _ => rfl) ?_
    refine V_if_eq 9 (tgt := 33) rfl (by decide) (fun hc => ?_) (fun hc => ?_)
    · replace h := h.1 hc
      exact k_j33 y0 σ hW h
    · replace h := h.2 hc
      refine V_pc 20 rfl ?_
      refine V_iload_n 10 1 rfl rfl rfl ?_
      refine V_iconst 11 (v := (0 : Int32)) rfl (by decide) ?_
      refine V_iconst 12 (v := (5 : Int32)) rfl (by decide) ?_
      refine V_callS 13 3 (as := [.int a0, .int (0 : Int32), .int (5 : Int32)]) (rest := [.int y0, .ref 92]) rfl mlX12_238 yvX12_in rfl rfl (by decide) (by decide) (Nat.le_of_ble_eq_true rfl) (by decide) (by decide) (fun B9 => ceX12_in hl B9 hW h) (fun X9 τ9 h9 => VX_out rfl h9) ?_
      rintro v9 σ3 ⟨hW, u4, rfl, h⟩
      refine V_if_ne 14 (tgt := 33) rfl (by decide) (fun hc => ?_) (fun hc => ?_)
      · replace h := h.1 hc
        exact k_j33 y0 σ3 hW h
      · replace h := h.2 hc
        refine V_pc 29 rfl ?_
        refine V_iconst 15 (v := (1 : Int32)) rfl (by decide) ?_
        refine V_goto 16 (tgt := 34) rfl (by decide) ?_
        exact k_j34 (1 : Int32) y0 σ3 hW h
  intro σ hW h
  refine V_aload_n 0 0 rfl rfl rfl ?_
  refine V_aload_n 1 0 rfl rfl rfl ?_
  refine V_get (v := .int (σ.2.1 92 83)) 2 83 rfl clX12 flX12_505 (by decide) (wsh hW rfl) (fun _ => rfl) ?_
  refine V_if_ne 3 (tgt := 12) rfl (by decide) (fun hc => ?_) (fun hc => ?_)
  · replace h := h.1 hc
    refine V_iconst 6 (v := (0 : Int32)) rfl (by decide) ?_
    exact k_j13 (0 : Int32) σ hW h
  · replace h := h.2 hc
    refine V_pc 8 rfl ?_
    refine V_iconst 4 (v := (1 : Int32)) rfl (by decide) ?_
    refine V_goto 5 (tgt := 13) rfl (by decide) ?_
    exact k_j13 (1 : Int32) σ hW h

def wX12_alone_j119 (a0 : Int32) (Q : Int32 → ab_S → Prop) (E : String → ab_S → Prop) (y0 : Int32) (y1 : Int32) (y2 : Int32) (σ : ab_S) : Prop := wX12_refuse y2 y1 y0 (fun u2 σ1 => ((u2 = 0) → vp_in a0 104 ∧ (Q (σ1.2.1 159 a0.toNatClampNeg) σ1)) ∧ (¬ (u2 = 0) → Q (0 : Int32) σ1)) E σ
def wX12_alone_j118 (a0 : Int32) (Q : Int32 → ab_S → Prop) (E : String → ab_S → Prop) (y0 : Int32) (y1 : Int32) (σ : ab_S) : Prop := wX12_alone_j119 a0 Q E (0 : Int32) y0 y1 σ
def wX12_alone_j110 (a0 : Int32) (Q : Int32 → ab_S → Prop) (E : String → ab_S → Prop) (y0 : Int32) (y2 : Int32) (y3 : Int32) (σ : ab_S) : Prop := vp_in y0 104 ∧ ((((σ.2.1 160 y0.toNatClampNeg) = 0) → wX12_alone_j118 a0 Q E y2 y3 σ) ∧ (¬ ((σ.2.1 160 y0.toNatClampNeg) = 0) → wX12_alone_j119 a0 Q E (1 : Int32) y2 y3 σ))
def wX12_alone_j93 (a0 : Int32) (Q : Int32 → ab_S → Prop) (E : String → ab_S → Prop) (x3 : Int32) (y0 : Int32) (y1 : Int32) (σ : ab_S) : Prop := ((x3 = 0) → wX12_alone_j118 a0 Q E y0 y1 σ) ∧ (¬ (x3 = 0) → ((x3 = 0) → wX12_alone_j110 a0 Q E (0 : Int32) y0 y1 σ) ∧ (¬ (x3 = 0) → wX12_alone_j110 a0 Q E a0 y0 y1 σ))
def wX12_alone_j92 (a0 : Int32) (Q : Int32 → ab_S → Prop) (E : String → ab_S → Prop) (x3 : Int32) (y0 : Int32) (σ : ab_S) : Prop := wX12_alone_j93 a0 Q E x3 (0 : Int32) y0 σ
def wX12_alone_j77 (a0 : Int32) (Q : Int32 → ab_S → Prop) (E : String → ab_S → Prop) (x3 : Int32) (y0 : Int32) (σ : ab_S) : Prop := (((σ.2.1 92 83) = 0) → wX12_alone_j92 a0 Q E x3 y0 σ) ∧ (¬ ((σ.2.1 92 83) = 0) → ((¬ x3 = 0) → wX12_alone_j92 a0 Q E x3 y0 σ) ∧ (¬ (¬ x3 = 0) → wX12_alone_j93 a0 Q E x3 (1 : Int32) y0 σ))
def wX12_alone_j63 (a0 : Int32) (Q : Int32 → ab_S → Prop) (E : String → ab_S → Prop) (y0 : Int32) (σ : ab_S) : Prop := ((¬ (σ.2.1 92 83) = 0) → wX12_alone_j77 a0 Q E y0 (0 : Int32) σ) ∧ (¬ (¬ (σ.2.1 92 83) = 0) → wX12_alone_j77 a0 Q E y0 (1 : Int32) σ)
def wX12_alone_j62 (a0 : Int32) (Q : Int32 → ab_S → Prop) (E : String → ab_S → Prop)  (σ : ab_S) : Prop := wX12_alone_j63 a0 Q E (0 : Int32) σ
def wX12_alone_j40 (a0 : Int32) (Q : Int32 → ab_S → Prop) (E : String → ab_S → Prop) (x2 : Int32) (σ : ab_S) : Prop := (((σ.2.1 92 83) = 0) → wX12_alone_j62 a0 Q E σ) ∧ (¬ ((σ.2.1 92 83) = 0) → wX12_in a0 (0 : Int32) (x2 - (1 : Int32)) (fun u4 σ3 => ((u4 = 0) → wX12_alone_j62 a0 Q E σ3) ∧ (¬ (u4 = 0) → wX12_alone_j63 a0 Q E (1 : Int32) σ3)) E σ)
def wX12_alone_l4_b (a0 : Int32) (Q : Int32 → ab_S → Prop) (E : String → ab_S → Prop) (K40 : Int32 → ab_S → Prop) (Bk : Int32 → Int32 → ab_S → Prop) (x2 : Int32) (x3 : Int32) (σ : ab_S) : Prop := (((σ.2.1 92 9) ≤ x3) → K40 x2 σ) ∧ (¬ ((σ.2.1 92 9) ≤ x3) → (((σ.2.1 92 83) = 0) → K40 x2 σ) ∧ (¬ ((σ.2.1 92 83) = 0) → vp_in x3 13 ∧ (wX12_storedBelow x3 (σ.2.1 99 x3.toNatClampNeg) (0 : Int32) (fun u6 σ5 => ∀ v7 : Int32, v7 = (x2 + u6) → ∀ v8 : Int32, v8 = (x3 + 1) → Bk v7 v8 σ5) E σ)))
def wX12_alone_l4 (a0 : Int32) (Q : Int32 → ab_S → Prop) (E : String → ab_S → Prop) (K40 : Int32 → ab_S → Prop) : Nat → Int32 → Int32 → ab_S → Prop
  | 0, _, _, _ => False
  | n + 1, x2, x3, σ => wX12_alone_l4_b a0 Q E K40 (wX12_alone_l4 a0 Q E K40 n) x2 x3 σ
def wX12_alone (a0 : Int32) (Q : Int32 → ab_S → Prop) (E : String → ab_S → Prop) (σ : ab_S) : Prop := ∃ n, wX12_alone_l4 a0 Q E (wX12_alone_j40 a0 Q E) n (0 : Int32) (0 : Int32) σ
set_option maxHeartbeats 4000000 in
set_option maxRecDepth 100000 in
theorem ceX12_alone {l : Launch} (hl : l.stackTraces = false) (B : Nat) {a0 : Int32}  {Q : Int32 → ab_S → Prop} {E : String → ab_S → Prop} {σ : ab_S} (hW : Wire σ) (h : wX12_alone a0 Q E σ) : ab_Mt l yX12_alone mdX12_alone B 1 25 0 0 [.ref 92, .int a0] σ (fun v σ' => Wire σ' ∧ ∃ r : Int32, v = some (.int r) ∧ Q r σ') (fun X σ' => Wire σ' ∧ E X σ') := by
  refine V_met hl ⟨rfl, rfl, by decide⟩ rfl dkX12_alone (Nat.le_of_ble_eq_true rfl) ?_
  show V l mdX12_alone B 1 25 0 0 (ab_End _ _) 0 [(0, .ref 92), (1, .int a0)] [] σ
  revert h hW
  revert σ
  have k_j119 : ∀ (y0 : Int32) (y1 : Int32) (y2 : Int32)  (σ : ab_S), Wire σ → wX12_alone_j119 a0 Q E y0 y1 y2 σ → V l mdX12_alone B 1 25 0 0 (ab_End (fun v σ' => Wire σ' ∧ ∃ r : Int32, v = some (.int r) ∧ Q r σ') (fun X σ' => Wire σ' ∧ E X σ')) 119 [(0, .ref 92), (1, .int a0)] [.int y0, .int y1, .int y2, .ref 92] σ := by
    intro y0 y1 y2  σ hW h
    refine V_callV 67 3 (as := [.int y2, .int y1, .int y0]) (rest := []) rfl mlX12_245 yvX12_refuse rfl rfl clX12 (wsh hW rfl) (by decide) (by decide) (Nat.le_of_ble_eq_true rfl) (by decide) (by decide) (fun B9 => ceX12_refuse hl B9 hW h) (fun X9 τ9 h9 => VX_out rfl h9) ?_
    rintro v9 σ1 ⟨hW, u2, rfl, h⟩
    refine V_if_eq 68 (tgt := 127) rfl (by decide) (fun hc => ?_) (fun hc => ?_)
    · replace h := h.1 hc
      refine V_aload_n 71 0 rfl rfl rfl ?_
      refine V_getR 72 93 rfl clX12 flX12_210 (by decide) (wsh hW rfl) (fun _ => rfl) (wrf hW 160 rfl) ?_
      refine V_iload_n 73 1 rfl rfl rfl ?_
      obtain ⟨hin, h⟩ := h
      refine V_iald 74 rfl (wsh hW rfl) hin ?_
      exact V_iret 75 rfl rfl ⟨hW, _, rfl, h⟩
    · replace h := h.2 hc
      refine V_pc 125 rfl ?_
      refine V_iconst 69 (v := (0 : Int32)) rfl (by decide) ?_
      exact V_iret 70 rfl rfl ⟨hW, _, rfl, h⟩
  have k_j118 : ∀ (y0 : Int32) (y1 : Int32)  (σ : ab_S), Wire σ → wX12_alone_j118 a0 Q E y0 y1 σ → V l mdX12_alone B 1 25 0 0 (ab_End (fun v σ' => Wire σ' ∧ ∃ r : Int32, v = some (.int r) ∧ Q r σ') (fun X σ' => Wire σ' ∧ E X σ')) 118 [(0, .ref 92), (1, .int a0)] [.int y0, .int y1, .ref 92] σ := by
    intro y0 y1  σ hW h
    refine V_iconst 66 (v := (0 : Int32)) rfl (by decide) ?_
    exact k_j119 (0 : Int32) y0 y1 σ hW h
  have k_j110 : ∀ (y0 : Int32) (y2 : Int32) (y3 : Int32)  (σ : ab_S), Wire σ → wX12_alone_j110 a0 Q E y0 y2 y3 σ → V l mdX12_alone B 1 25 0 0 (ab_End (fun v σ' => Wire σ' ∧ ∃ r : Int32, v = some (.int r) ∧ Q r σ') (fun X σ' => Wire σ' ∧ E X σ')) 110 [(0, .ref 92), (1, .int a0)] [.int y0, .ref 160, .int y2, .int y3, .ref 92] σ := by
    intro y0 y2 y3  σ hW h
    obtain ⟨hin, h⟩ := h
    refine V_zald 62 rfl (wsh hW rfl) hin ?_
    refine V_if_eq 63 (tgt := 118) rfl (by decide) (fun hc => ?_) (fun hc => ?_)
    · replace h := h.1 hc
      exact k_j118 y2 y3 σ hW h
    · replace h := h.2 hc
      refine V_pc 114 rfl ?_
      refine V_iconst 64 (v := (1 : Int32)) rfl (by decide) ?_
      refine V_goto 65 (tgt := 119) rfl (by decide) ?_
      exact k_j119 (1 : Int32) y2 y3 σ hW h
  have k_j93 : ∀ (x3 : Int32) (y0 : Int32) (y1 : Int32)  (σ : ab_S), Wire σ → wX12_alone_j93 a0 Q E x3 y0 y1 σ → V l mdX12_alone B 1 25 0 0 (ab_End (fun v σ' => Wire σ' ∧ ∃ r : Int32, v = some (.int r) ∧ Q r σ') (fun X σ' => Wire σ' ∧ E X σ')) 93 [(0, .ref 92), (1, .int a0), (3, .int x3)] [.int y0, .int y1, .ref 92] σ := by
    intro x3 y0 y1  σ hW h
    refine V_iload_n 53 2 rfl rfl rfl ?_
    refine V_if_eq 54 (tgt := 118) rfl (by decide) (fun hc => ?_) (fun hc => ?_)
    · replace h := h.1 hc
      refine V_sub [0, 1] (lv' := [(0, .ref 92), (1, .int a0)]) rfl ?_
      exact k_j118 y0 y1 σ hW h
    · replace h := h.2 hc
      refine V_pc 97 rfl ?_
      refine V_aload_n 55 0 rfl rfl rfl ?_
      refine V_getR 56 94 rfl clX12 flX12_213 (by decide) (wsh hW rfl) (fun _ => rfl) (wrf hW 161 rfl) ?_
      refine V_iload_n 57 2 rfl rfl rfl ?_
      refine V_if_eq 58 (tgt := 109) rfl (by decide) (fun hc => ?_) (fun hc => ?_)
      · replace h := h.1 hc
        refine V_iconst 61 (v := (0 : Int32)) rfl (by decide) ?_
        refine V_sub [0, 1] (lv' := [(0, .ref 92), (1, .int a0)]) rfl ?_
        exact k_j110 (0 : Int32) y0 y1 σ hW h
      · replace h := h.2 hc
        refine V_pc 105 rfl ?_
        refine V_iload_n 59 1 rfl rfl rfl ?_
        refine V_goto 60 (tgt := 110) rfl (by decide) ?_
        refine V_sub [0, 1] (lv' := [(0, .ref 92), (1, .int a0)]) rfl ?_
        exact k_j110 a0 y0 y1 σ hW h
  have k_j92 : ∀ (x3 : Int32) (y0 : Int32)  (σ : ab_S), Wire σ → wX12_alone_j92 a0 Q E x3 y0 σ → V l mdX12_alone B 1 25 0 0 (ab_End (fun v σ' => Wire σ' ∧ ∃ r : Int32, v = some (.int r) ∧ Q r σ') (fun X σ' => Wire σ' ∧ E X σ')) 92 [(0, .ref 92), (1, .int a0), (3, .int x3)] [.int y0, .ref 92] σ := by
    intro x3 y0  σ hW h
    refine V_iconst 52 (v := (0 : Int32)) rfl (by decide) ?_
    exact k_j93 x3 (0 : Int32) y0 σ hW h
  have k_j77 : ∀ (x3 : Int32) (y0 : Int32)  (σ : ab_S), Wire σ → wX12_alone_j77 a0 Q E x3 y0 σ → V l mdX12_alone B 1 25 0 0 (ab_End (fun v σ' => Wire σ' ∧ ∃ r : Int32, v = some (.int r) ∧ Q r σ') (fun X σ' => Wire σ' ∧ E X σ')) 77 [(0, .ref 92), (1, .int a0), (3, .int x3)] [.int y0, .ref 92] σ := by
    intro x3 y0  σ hW h
    refine V_aload_n 45 0 rfl rfl rfl ?_
    refine V_get (v := .int (σ.2.1 92 83)) 46 83 rfl clX12 flX12_505 (by decide) (wsh hW rfl) (fun _ => rfl) ?_
    refine V_if_eq 47 (tgt := 92) rfl (by decide) (fun hc => ?_) (fun hc => ?_)
    · replace h := h.1 hc
      exact k_j92 x3 y0 σ hW h
    · replace h := h.2 hc
      refine V_pc 84 rfl ?_
      refine V_iload_n 48 2 rfl rfl rfl ?_
      refine V_if_ne 49 (tgt := 92) rfl (by decide) (fun hc => ?_) (fun hc => ?_)
      · replace h := h.1 hc
        exact k_j92 x3 y0 σ hW h
      · replace h := h.2 hc
        refine V_pc 88 rfl ?_
        refine V_iconst 50 (v := (1 : Int32)) rfl (by decide) ?_
        refine V_goto 51 (tgt := 93) rfl (by decide) ?_
        exact k_j93 x3 (1 : Int32) y0 σ hW h
  have k_j63 : ∀ (y0 : Int32)  (σ : ab_S), Wire σ → wX12_alone_j63 a0 Q E y0 σ → V l mdX12_alone B 1 25 0 0 (ab_End (fun v σ' => Wire σ' ∧ ∃ r : Int32, v = some (.int r) ∧ Q r σ') (fun X σ' => Wire σ' ∧ E X σ')) 63 [(0, .ref 92), (1, .int a0)] [.int y0] σ := by
    intro y0  σ hW h
    refine V_istore_n 37 (lv' := [(3, .int y0), (0, .ref 92), (1, .int a0)]) rfl rfl (by decide) rfl ?_
    refine V_aload_n 38 1 rfl rfl rfl ?_
    refine V_aload_n 39 1 rfl rfl rfl ?_
    refine V_get (v := .int (σ.2.1 92 83)) 40 83 rfl clX12 flX12_505 (by decide) (wsh hW rfl) (fun _ => rfl) ?_
    refine V_if_ne 41 (tgt := 76) rfl (by decide) (fun hc => ?_) (fun hc => ?_)
    · replace h := h.1 hc
      refine V_iconst 44 (v := (0 : Int32)) rfl (by decide) ?_
      refine V_sub [1, 2, 0] (lv' := [(0, .ref 92), (1, .int a0), (3, .int y0)]) rfl ?_
      exact k_j77 y0 (0 : Int32) σ hW h
    · replace h := h.2 hc
      refine V_pc 72 rfl ?_
      refine V_iconst 42 (v := (1 : Int32)) rfl (by decide) ?_
      refine V_goto 43 (tgt := 77) rfl (by decide) ?_
      refine V_sub [1, 2, 0] (lv' := [(0, .ref 92), (1, .int a0), (3, .int y0)]) rfl ?_
      exact k_j77 y0 (1 : Int32) σ hW h
  have k_j62 : ∀   (σ : ab_S), Wire σ → wX12_alone_j62 a0 Q E  σ → V l mdX12_alone B 1 25 0 0 (ab_End (fun v σ' => Wire σ' ∧ ∃ r : Int32, v = some (.int r) ∧ Q r σ') (fun X σ' => Wire σ' ∧ E X σ')) 62 [(0, .ref 92), (1, .int a0)] [] σ := by
    intro   σ hW h
    refine V_iconst 36 (v := (0 : Int32)) rfl (by decide) ?_
    exact k_j63 (0 : Int32) σ hW h
  have k_j40 : ∀ (x2 : Int32)  (σ : ab_S), Wire σ → wX12_alone_j40 a0 Q E x2 σ → V l mdX12_alone B 1 25 0 0 (ab_End (fun v σ' => Wire σ' ∧ ∃ r : Int32, v = some (.int r) ∧ Q r σ') (fun X σ' => Wire σ' ∧ E X σ')) 40 [(0, .ref 92), (1, .int a0), (2, .int x2)] [] σ := by
    intro x2  σ hW h
    refine V_aload_n 24 0 rfl rfl rfl ?_
    refine V_get (v := .int (σ.2.1 92 83)) 25 83 rfl clX12 flX12_505 (by decide) (wsh hW rfl) (fun _ => rfl) ?_
    refine V_if_eq 26 (tgt := 62) rfl (by decide) (fun hc => ?_) (fun hc => ?_)
    · replace h := h.1 hc
      refine V_sub [0, 1] (lv' := [(0, .ref 92), (1, .int a0)]) rfl ?_
      exact k_j62 σ hW h
    · replace h := h.2 hc
      refine V_pc 47 rfl ?_
      refine V_iload_n 27 1 rfl rfl rfl ?_
      refine V_iconst 28 (v := (0 : Int32)) rfl (by decide) ?_
      refine V_iload_n 29 2 rfl rfl rfl ?_
      refine V_iconst 30 (v := (1 : Int32)) rfl (by decide) ?_
      refine V_isub 31 rfl ?_
      refine V_callS 32 3 (as := [.int a0, .int (0 : Int32), .int (x2 - (1 : Int32))]) (rest := []) rfl mlX12_238 yvX12_in rfl rfl (by decide) (by decide) (Nat.le_of_ble_eq_true rfl) (by decide) (by decide) (fun B9 => ceX12_in hl B9 hW h) (fun X9 τ9 h9 => VX_out rfl h9) ?_
      rintro v9 σ3 ⟨hW, u4, rfl, h⟩
      refine V_if_eq 33 (tgt := 62) rfl (by decide) (fun hc => ?_) (fun hc => ?_)
      · replace h := h.1 hc
        refine V_sub [0, 1] (lv' := [(0, .ref 92), (1, .int a0)]) rfl ?_
        exact k_j62 σ3 hW h
      · replace h := h.2 hc
        refine V_pc 58 rfl ?_
        refine V_iconst 34 (v := (1 : Int32)) rfl (by decide) ?_
        refine V_goto 35 (tgt := 63) rfl (by decide) ?_
        refine V_sub [0, 1] (lv' := [(0, .ref 92), (1, .int a0)]) rfl ?_
        exact k_j63 (1 : Int32) σ3 hW h
  have k_l4 : ∀ (n : Nat) (x2 : Int32) (x3 : Int32)  (σ : ab_S), Wire σ → wX12_alone_l4 a0 Q E (wX12_alone_j40 a0 Q E) n x2 x3 σ → V l mdX12_alone B 1 25 0 0 (ab_End (fun v σ' => Wire σ' ∧ ∃ r : Int32, v = some (.int r) ∧ Q r σ') (fun X σ' => Wire σ' ∧ E X σ')) 4 [(0, .ref 92), (1, .int a0), (2, .int x2), (3, .int x3)] [] σ := by
    have step : ∀ (K40 : Int32 → ab_S → Prop) (k_K40 : ∀ (x2 : Int32)  (σ : ab_S), Wire σ → K40 x2 σ → V l mdX12_alone B 1 25 0 0 (ab_End (fun v σ' => Wire σ' ∧ ∃ r : Int32, v = some (.int r) ∧ Q r σ') (fun X σ' => Wire σ' ∧ E X σ')) 40 [(0, .ref 92), (1, .int a0), (2, .int x2)] [] σ), ∀ (Bk : Int32 → Int32 → ab_S → Prop) (k_Bk : ∀ (x2 : Int32) (x3 : Int32)  (σ : ab_S), Wire σ → Bk x2 x3 σ → V l mdX12_alone B 1 25 0 0 (ab_End (fun v σ' => Wire σ' ∧ ∃ r : Int32, v = some (.int r) ∧ Q r σ') (fun X σ' => Wire σ' ∧ E X σ')) 4 [(0, .ref 92), (1, .int a0), (2, .int x2), (3, .int x3)] [] σ), ∀ (x2 : Int32) (x3 : Int32)  (σ : ab_S), Wire σ → wX12_alone_l4_b a0 Q E K40 Bk x2 x3 σ → V l mdX12_alone B 1 25 0 0 (ab_End (fun v σ' => Wire σ' ∧ ∃ r : Int32, v = some (.int r) ∧ Q r σ') (fun X σ' => Wire σ' ∧ E X σ')) 4 [(0, .ref 92), (1, .int a0), (2, .int x2), (3, .int x3)] [] σ := by
      intro K40 k_K40 Bk k_Bk
      intro x2 x3  σ hW h
      refine V_iload_n 4 3 rfl rfl rfl ?_
      refine V_aload_n 5 0 rfl rfl rfl ?_
      refine V_get (v := .int (σ.2.1 92 9)) 6 9 rfl clX12 flX12_306 (by decide) (wsh hW rfl) (fun _ => rfl) ?_
      refine V_icmp_ge 7 (tgt := 40) rfl (by decide) (fun hc => ?_) (fun hc => ?_)
      · replace h := h.1 hc
        refine V_sub [0, 1, 2] (lv' := [(0, .ref 92), (1, .int a0), (2, .int x2)]) rfl ?_
        exact k_K40 x2  σ hW h
      · replace h := h.2 hc
        refine V_pc 12 rfl ?_
        refine V_aload_n 8 0 rfl rfl rfl ?_
        refine V_get (v := .int (σ.2.1 92 83)) 9 83 rfl clX12 flX12_505 (by decide) (wsh hW rfl) (fun _ => rfl) ?_
        refine V_if_eq 10 (tgt := 40) rfl (by decide) (fun hc => ?_) (fun hc => ?_)
        · replace h := h.1 hc
          refine V_sub [0, 1, 2] (lv' := [(0, .ref 92), (1, .int a0), (2, .int x2)]) rfl ?_
          exact k_K40 x2  σ hW h
        · replace h := h.2 hc
          refine V_pc 19 rfl ?_
          refine V_iload_n 11 2 rfl rfl rfl ?_
          refine V_aload_n 12 0 rfl rfl rfl ?_
          refine V_iload_n 13 3 rfl rfl rfl ?_
          refine V_aload_n 14 0 rfl rfl rfl ?_
          refine V_getR 15 12 rfl clX12 flX12_29 (by decide) (wsh hW rfl) (fun _ => rfl) (wrf hW 100 rfl) ?_
          refine V_iload_n 16 3 rfl rfl rfl ?_
          refine V_pc 27 rfl ?_
          obtain ⟨hin, h⟩ := h
          refine V_iald 17 rfl (wsh hW rfl) hin ?_
          refine V_iconst 18 (v := (0 : Int32)) rfl (by decide) ?_
          refine V_callV 19 3 (as := [.int x3, .int (σ.2.1 99 x3.toNatClampNeg), .int (0 : Int32)]) (rest := [.int x2]) rfl mlX12_554 yvX12_storedBelow rfl rfl clX12 (wsh hW rfl) (by decide) (by decide) (Nat.le_of_ble_eq_true rfl) (by decide) (by decide) (fun B9 => ceX12_storedBelow hl B9 hW h) (fun X9 τ9 h9 => VX_out rfl h9) ?_
          rintro v9 σ5 ⟨hW, u6, rfl, h⟩
          refine V_iadd 20 rfl ?_
          refine V_topi (fun v7 ev7 => ?_)
          replace h := h v7 ev7
          refine V_istore_n 21 (lv' := [(2, .int v7), (0, .ref 92), (1, .int a0), (3, .int x3)]) rfl rfl (by decide) rfl ?_
          obtain ⟨v8, ev8⟩ : ∃ z : Int32, z = (x3 + 1) := ⟨_, rfl⟩
          replace h := h v8 ev8
          refine V_iinc 22 3 (v := v8) (lv' := [(3, .int v8), (2, .int v7), (0, .ref 92), (1, .int a0)]) rfl rfl ((in_1 _).trans ev8.symm) (by decide) rfl ?_
          refine V_goto 23 (tgt := 4) rfl (by decide) ?_
          refine V_sub [2, 3, 1, 0] (lv' := [(0, .ref 92), (1, .int a0), (2, .int v7), (3, .int v8)]) rfl ?_
          exact k_Bk v7 v8  σ5 hW h
    intro n
    induction n with
    | zero => intro x2 x3  σ hW h; exact absurd h id
    | succ n ih => exact step _ k_j40 _ ih
  intro σ hW h
  refine V_iconst 0 (v := (0 : Int32)) rfl (by decide) ?_
  refine V_istore_n 1 (lv' := [(2, .int (0 : Int32)), (0, .ref 92), (1, .int a0)]) rfl rfl (by decide) rfl ?_
  refine V_iconst 2 (v := (0 : Int32)) rfl (by decide) ?_
  refine V_istore_n 3 (lv' := [(3, .int (0 : Int32)), (2, .int (0 : Int32)), (0, .ref 92), (1, .int a0)]) rfl rfl (by decide) rfl ?_
  refine V_sub [2, 3, 1, 0] (lv' := [(0, .ref 92), (1, .int a0), (2, .int (0 : Int32)), (3, .int (0 : Int32))]) rfl ?_
  obtain ⟨n, h⟩ := h
  exact k_l4 n (0 : Int32) (0 : Int32) σ hW h

def wX12_top_j89 (a0 : Int32) (Q : Int32 → ab_S → Prop) (E : String → ab_S → Prop) (y0 : Int32) (y1 : Int32) (y2 : Int32) (σ : ab_S) : Prop := wX12_refuse y2 y1 y0 (fun u2 σ1 => ((u2 = 0) → vp_in (((σ1.2.1 92 90) - (1 : Int32)) - a0) 3000 ∧ (Q (σ1.2.1 157 (((σ1.2.1 92 90) - (1 : Int32)) - a0).toNatClampNeg) σ1)) ∧ (¬ (u2 = 0) → Q (0 : Int32) σ1)) E σ
def wX12_top_j88 (a0 : Int32) (Q : Int32 → ab_S → Prop) (E : String → ab_S → Prop) (y0 : Int32) (y1 : Int32) (σ : ab_S) : Prop := wX12_top_j89 a0 Q E (0 : Int32) y0 y1 σ
def wX12_top_j80 (a0 : Int32) (Q : Int32 → ab_S → Prop) (E : String → ab_S → Prop) (y0 : Int32) (y2 : Int32) (y3 : Int32) (σ : ab_S) : Prop := vp_in y0 3000 ∧ ((((σ.2.1 158 y0.toNatClampNeg) = 0) → wX12_top_j88 a0 Q E y2 y3 σ) ∧ (¬ ((σ.2.1 158 y0.toNatClampNeg) = 0) → wX12_top_j89 a0 Q E (1 : Int32) y2 y3 σ))
def wX12_top_j56 (a0 : Int32) (Q : Int32 → ab_S → Prop) (E : String → ab_S → Prop) (x2 : Int32) (y0 : Int32) (y1 : Int32) (σ : ab_S) : Prop := ((x2 = 0) → wX12_top_j88 a0 Q E y0 y1 σ) ∧ (¬ (x2 = 0) → ((x2 = 0) → wX12_top_j80 a0 Q E (0 : Int32) y0 y1 σ) ∧ (¬ (x2 = 0) → wX12_top_j80 a0 Q E (((σ.2.1 92 90) - (1 : Int32)) - a0) y0 y1 σ))
def wX12_top_j55 (a0 : Int32) (Q : Int32 → ab_S → Prop) (E : String → ab_S → Prop) (x2 : Int32) (y0 : Int32) (σ : ab_S) : Prop := wX12_top_j56 a0 Q E x2 (0 : Int32) y0 σ
def wX12_top_j40 (a0 : Int32) (Q : Int32 → ab_S → Prop) (E : String → ab_S → Prop) (x2 : Int32) (y0 : Int32) (σ : ab_S) : Prop := (((σ.2.1 92 83) = 0) → wX12_top_j55 a0 Q E x2 y0 σ) ∧ (¬ ((σ.2.1 92 83) = 0) → ((¬ x2 = 0) → wX12_top_j55 a0 Q E x2 y0 σ) ∧ (¬ (¬ x2 = 0) → wX12_top_j56 a0 Q E x2 (1 : Int32) y0 σ))
def wX12_top_j26 (a0 : Int32) (Q : Int32 → ab_S → Prop) (E : String → ab_S → Prop) (y0 : Int32) (σ : ab_S) : Prop := ((¬ (σ.2.1 92 83) = 0) → wX12_top_j40 a0 Q E y0 (0 : Int32) σ) ∧ (¬ (¬ (σ.2.1 92 83) = 0) → wX12_top_j40 a0 Q E y0 (1 : Int32) σ)
def wX12_top_j25 (a0 : Int32) (Q : Int32 → ab_S → Prop) (E : String → ab_S → Prop)  (σ : ab_S) : Prop := wX12_top_j26 a0 Q E (0 : Int32) σ
def wX12_top (a0 : Int32) (Q : Int32 → ab_S → Prop) (E : String → ab_S → Prop) (σ : ab_S) : Prop := (((σ.2.1 92 83) = 0) → wX12_top_j25 a0 Q E σ) ∧ (¬ ((σ.2.1 92 83) = 0) → wX12_in a0 (0 : Int32) ((σ.2.1 92 90) - (1 : Int32)) (fun u4 σ3 => ((u4 = 0) → wX12_top_j25 a0 Q E σ3) ∧ (¬ (u4 = 0) → wX12_top_j26 a0 Q E (1 : Int32) σ3)) E σ)
set_option maxHeartbeats 4000000 in
set_option maxRecDepth 100000 in
theorem ceX12_top {l : Launch} (hl : l.stackTraces = false) (B : Nat) {a0 : Int32}  {Q : Int32 → ab_S → Prop} {E : String → ab_S → Prop} {σ : ab_S} (hW : Wire σ) (h : wX12_top a0 Q E σ) : ab_Mt l yX12_top mdX12_top B 1 23 0 0 [.ref 92, .int a0] σ (fun v σ' => Wire σ' ∧ ∃ r : Int32, v = some (.int r) ∧ Q r σ') (fun X σ' => Wire σ' ∧ E X σ') := by
  refine V_met hl ⟨rfl, rfl, by decide⟩ rfl dkX12_top (Nat.le_of_ble_eq_true rfl) ?_
  show V l mdX12_top B 1 23 0 0 (ab_End _ _) 0 [(0, .ref 92), (1, .int a0)] [] σ
  revert h hW
  revert σ
  have k_j89 : ∀ (y0 : Int32) (y1 : Int32) (y2 : Int32)  (σ : ab_S), Wire σ → wX12_top_j89 a0 Q E y0 y1 y2 σ → V l mdX12_top B 1 23 0 0 (ab_End (fun v σ' => Wire σ' ∧ ∃ r : Int32, v = some (.int r) ∧ Q r σ') (fun X σ' => Wire σ' ∧ E X σ')) 89 [(0, .ref 92), (1, .int a0)] [.int y0, .int y1, .int y2, .ref 92] σ := by
    intro y0 y1 y2  σ hW h
    refine V_callV 49 3 (as := [.int y2, .int y1, .int y0]) (rest := []) rfl mlX12_245 yvX12_refuse rfl rfl clX12 (wsh hW rfl) (by decide) (by decide) (Nat.le_of_ble_eq_true rfl) (by decide) (by decide) (fun B9 => ceX12_refuse hl B9 hW h) (fun X9 τ9 h9 => VX_out rfl h9) ?_
    rintro v9 σ1 ⟨hW, u2, rfl, h⟩
    refine V_if_eq 50 (tgt := 97) rfl (by decide) (fun hc => ?_) (fun hc => ?_)
    · replace h := h.1 hc
      refine V_aload_n 53 0 rfl rfl rfl ?_
      refine V_getR 54 91 rfl clX12 flX12_204 (by decide) (wsh hW rfl) (fun _ => rfl) (wrf hW 158 rfl) ?_
      refine V_aload_n 55 0 rfl rfl rfl ?_
      refine V_get (v := .int (σ1.2.1 92 90)) 56 90 rfl clX12 flX12_581 (by decide) (wsh hW rfl) (fun _ => rfl) ?_
      refine V_iconst 57 (v := (1 : Int32)) rfl (by decide) ?_
      refine V_isub 58 rfl ?_
      refine V_pc 107 rfl ?_
      refine V_iload_n 59 1 rfl rfl rfl ?_
      refine V_isub 60 rfl ?_
      obtain ⟨hin, h⟩ := h
      refine V_iald 61 rfl (wsh hW rfl) hin ?_
      exact V_iret 62 rfl rfl ⟨hW, _, rfl, h⟩
    · replace h := h.2 hc
      refine V_pc 95 rfl ?_
      refine V_iconst 51 (v := (0 : Int32)) rfl (by decide) ?_
      exact V_iret 52 rfl rfl ⟨hW, _, rfl, h⟩
  have k_j88 : ∀ (y0 : Int32) (y1 : Int32)  (σ : ab_S), Wire σ → wX12_top_j88 a0 Q E y0 y1 σ → V l mdX12_top B 1 23 0 0 (ab_End (fun v σ' => Wire σ' ∧ ∃ r : Int32, v = some (.int r) ∧ Q r σ') (fun X σ' => Wire σ' ∧ E X σ')) 88 [(0, .ref 92), (1, .int a0)] [.int y0, .int y1, .ref 92] σ := by
    intro y0 y1  σ hW h
    refine V_iconst 48 (v := (0 : Int32)) rfl (by decide) ?_
    exact k_j89 (0 : Int32) y0 y1 σ hW h
  have k_j80 : ∀ (y0 : Int32) (y2 : Int32) (y3 : Int32)  (σ : ab_S), Wire σ → wX12_top_j80 a0 Q E y0 y2 y3 σ → V l mdX12_top B 1 23 0 0 (ab_End (fun v σ' => Wire σ' ∧ ∃ r : Int32, v = some (.int r) ∧ Q r σ') (fun X σ' => Wire σ' ∧ E X σ')) 80 [(0, .ref 92), (1, .int a0)] [.int y0, .ref 158, .int y2, .int y3, .ref 92] σ := by
    intro y0 y2 y3  σ hW h
    obtain ⟨hin, h⟩ := h
    refine V_zald 44 rfl (wsh hW rfl) hin ?_
    refine V_if_eq 45 (tgt := 88) rfl (by decide) (fun hc => ?_) (fun hc => ?_)
    · replace h := h.1 hc
      exact k_j88 y2 y3 σ hW h
    · replace h := h.2 hc
      refine V_pc 84 rfl ?_
      refine V_iconst 46 (v := (1 : Int32)) rfl (by decide) ?_
      refine V_goto 47 (tgt := 89) rfl (by decide) ?_
      exact k_j89 (1 : Int32) y2 y3 σ hW h
  have k_j56 : ∀ (x2 : Int32) (y0 : Int32) (y1 : Int32)  (σ : ab_S), Wire σ → wX12_top_j56 a0 Q E x2 y0 y1 σ → V l mdX12_top B 1 23 0 0 (ab_End (fun v σ' => Wire σ' ∧ ∃ r : Int32, v = some (.int r) ∧ Q r σ') (fun X σ' => Wire σ' ∧ E X σ')) 56 [(0, .ref 92), (1, .int a0), (2, .int x2)] [.int y0, .int y1, .ref 92] σ := by
    intro x2 y0 y1  σ hW h
    refine V_iload_n 30 2 rfl rfl rfl ?_
    refine V_if_eq 31 (tgt := 88) rfl (by decide) (fun hc => ?_) (fun hc => ?_)
    · replace h := h.1 hc
      refine V_sub [0, 1] (lv' := [(0, .ref 92), (1, .int a0)]) rfl ?_
      exact k_j88 y0 y1 σ hW h
    · replace h := h.2 hc
      refine V_pc 60 rfl ?_
      refine V_aload_n 32 0 rfl rfl rfl ?_
      refine V_getR 33 92 rfl clX12 flX12_207 (by decide) (wsh hW rfl) (fun _ => rfl) (wrf hW 159 rfl) ?_
      refine V_iload_n 34 2 rfl rfl rfl ?_
      refine V_if_eq 35 (tgt := 79) rfl (by decide) (fun hc => ?_) (fun hc => ?_)
      · replace h := h.1 hc
        refine V_iconst 43 (v := (0 : Int32)) rfl (by decide) ?_
        refine V_sub [0, 1] (lv' := [(0, .ref 92), (1, .int a0)]) rfl ?_
        exact k_j80 (0 : Int32) y0 y1 σ hW h
      · replace h := h.2 hc
        refine V_pc 68 rfl ?_
        refine V_aload_n 36 0 rfl rfl rfl ?_
        refine V_get (v := .int (σ.2.1 92 90)) 37 90 rfl clX12 flX12_581 (by decide) (wsh hW rfl) (fun _ => rfl) ?_
        refine V_iconst 38 (v := (1 : Int32)) rfl (by decide) ?_
        refine V_isub 39 rfl ?_
        refine V_iload_n 40 1 rfl rfl rfl ?_
        refine V_isub 41 rfl ?_
        refine V_pc 76 rfl ?_
        refine V_goto 42 (tgt := 80) rfl (by decide) ?_
        refine V_sub [0, 1] (lv' := [(0, .ref 92), (1, .int a0)]) rfl ?_
        exact k_j80 (((σ.2.1 92 90) - (1 : Int32)) - a0) y0 y1 σ hW h
  have k_j55 : ∀ (x2 : Int32) (y0 : Int32)  (σ : ab_S), Wire σ → wX12_top_j55 a0 Q E x2 y0 σ → V l mdX12_top B 1 23 0 0 (ab_End (fun v σ' => Wire σ' ∧ ∃ r : Int32, v = some (.int r) ∧ Q r σ') (fun X σ' => Wire σ' ∧ E X σ')) 55 [(0, .ref 92), (1, .int a0), (2, .int x2)] [.int y0, .ref 92] σ := by
    intro x2 y0  σ hW h
    refine V_iconst 29 (v := (0 : Int32)) rfl (by decide) ?_
    exact k_j56 x2 (0 : Int32) y0 σ hW h
  have k_j40 : ∀ (x2 : Int32) (y0 : Int32)  (σ : ab_S), Wire σ → wX12_top_j40 a0 Q E x2 y0 σ → V l mdX12_top B 1 23 0 0 (ab_End (fun v σ' => Wire σ' ∧ ∃ r : Int32, v = some (.int r) ∧ Q r σ') (fun X σ' => Wire σ' ∧ E X σ')) 40 [(0, .ref 92), (1, .int a0), (2, .int x2)] [.int y0, .ref 92] σ := by
    intro x2 y0  σ hW h
    refine V_aload_n 22 0 rfl rfl rfl ?_
    refine V_get (v := .int (σ.2.1 92 83)) 23 83 rfl clX12 flX12_505 (by decide) (wsh hW rfl) (fun _ => rfl) ?_
    refine V_if_eq 24 (tgt := 55) rfl (by decide) (fun hc => ?_) (fun hc => ?_)
    · replace h := h.1 hc
      exact k_j55 x2 y0 σ hW h
    · replace h := h.2 hc
      refine V_pc 47 rfl ?_
      refine V_iload_n 25 2 rfl rfl rfl ?_
      refine V_if_ne 26 (tgt := 55) rfl (by decide) (fun hc => ?_) (fun hc => ?_)
      · replace h := h.1 hc
        exact k_j55 x2 y0 σ hW h
      · replace h := h.2 hc
        refine V_pc 51 rfl ?_
        refine V_iconst 27 (v := (1 : Int32)) rfl (by decide) ?_
        refine V_goto 28 (tgt := 56) rfl (by decide) ?_
        exact k_j56 x2 (1 : Int32) y0 σ hW h
  have k_j26 : ∀ (y0 : Int32)  (σ : ab_S), Wire σ → wX12_top_j26 a0 Q E y0 σ → V l mdX12_top B 1 23 0 0 (ab_End (fun v σ' => Wire σ' ∧ ∃ r : Int32, v = some (.int r) ∧ Q r σ') (fun X σ' => Wire σ' ∧ E X σ')) 26 [(0, .ref 92), (1, .int a0)] [.int y0] σ := by
    intro y0  σ hW h
    refine V_istore_n 14 (lv' := [(2, .int y0), (0, .ref 92), (1, .int a0)]) rfl rfl (by decide) rfl ?_
    refine V_aload_n 15 1 rfl rfl rfl ?_
    refine V_aload_n 16 1 rfl rfl rfl ?_
    refine V_get (v := .int (σ.2.1 92 83)) 17 83 rfl clX12 flX12_505 (by decide) (wsh hW rfl) (fun _ => rfl) ?_
    refine V_if_ne 18 (tgt := 39) rfl (by decide) (fun hc => ?_) (fun hc => ?_)
    · replace h := h.1 hc
      refine V_iconst 21 (v := (0 : Int32)) rfl (by decide) ?_
      refine V_sub [1, 2, 0] (lv' := [(0, .ref 92), (1, .int a0), (2, .int y0)]) rfl ?_
      exact k_j40 y0 (0 : Int32) σ hW h
    · replace h := h.2 hc
      refine V_pc 35 rfl ?_
      refine V_iconst 19 (v := (1 : Int32)) rfl (by decide) ?_
      refine V_goto 20 (tgt := 40) rfl (by decide) ?_
      refine V_sub [1, 2, 0] (lv' := [(0, .ref 92), (1, .int a0), (2, .int y0)]) rfl ?_
      exact k_j40 y0 (1 : Int32) σ hW h
  have k_j25 : ∀   (σ : ab_S), Wire σ → wX12_top_j25 a0 Q E  σ → V l mdX12_top B 1 23 0 0 (ab_End (fun v σ' => Wire σ' ∧ ∃ r : Int32, v = some (.int r) ∧ Q r σ') (fun X σ' => Wire σ' ∧ E X σ')) 25 [(0, .ref 92), (1, .int a0)] [] σ := by
    intro   σ hW h
    refine V_iconst 13 (v := (0 : Int32)) rfl (by decide) ?_
    exact k_j26 (0 : Int32) σ hW h
  intro σ hW h
  refine V_aload_n 0 0 rfl rfl rfl ?_
  refine V_get (v := .int (σ.2.1 92 83)) 1 83 rfl clX12 flX12_505 (by decide) (wsh hW rfl) (fun _ => rfl) ?_
  refine V_if_eq 2 (tgt := 25) rfl (by decide) (fun hc => ?_) (fun hc => ?_)
  · replace h := h.1 hc
    exact k_j25 σ hW h
  · replace h := h.2 hc
    refine V_pc 7 rfl ?_
    refine V_iload_n 3 1 rfl rfl rfl ?_
    refine V_iconst 4 (v := (0 : Int32)) rfl (by decide) ?_
    refine V_aload_n 5 0 rfl rfl rfl ?_
    refine V_get (v := .int (σ.2.1 92 90)) 6 90 rfl clX12 flX12_581 (by decide) (wsh hW rfl) (fun _ => rfl) ?_
    refine V_iconst 7 (v := (1 : Int32)) rfl (by decide) ?_
    refine V_isub 8 rfl ?_
    refine V_pc 15 rfl ?_
    refine V_callS 9 3 (as := [.int a0, .int (0 : Int32), .int ((σ.2.1 92 90) - (1 : Int32))]) (rest := []) rfl mlX12_238 yvX12_in rfl rfl (by decide) (by decide) (Nat.le_of_ble_eq_true rfl) (by decide) (by decide) (fun B9 => ceX12_in hl B9 hW h) (fun X9 τ9 h9 => VX_out rfl h9) ?_
    rintro v9 σ3 ⟨hW, u4, rfl, h⟩
    refine V_if_eq 10 (tgt := 25) rfl (by decide) (fun hc => ?_) (fun hc => ?_)
    · replace h := h.1 hc
      exact k_j25 σ3 hW h
    · replace h := h.2 hc
      refine V_pc 21 rfl ?_
      refine V_iconst 11 (v := (1 : Int32)) rfl (by decide) ?_
      refine V_goto 12 (tgt := 26) rfl (by decide) ?_
      exact k_j26 (1 : Int32) σ3 hW h

def wX12_held_j154 (a0 : Int32) (a1 : Int32) (Q : Int32 → ab_S → Prop) (E : String → ab_S → Prop) (y0 : Int32) (σ : ab_S) : Prop := (∀ σ1 : ab_S, σ1 = ab_I σ 92 0 y0 → (((σ1.2.1 92 0) ≤ 0) → vp_in (((8 : Int32) * a0) + a1) 2008 ∧ (Q (σ1.2.1 161 (((8 : Int32) * a0) + a1).toNatClampNeg) σ1)) ∧ (¬ ((σ1.2.1 92 0) ≤ 0) → Q (0 : Int32) σ1))
def wX12_held_j104 (a0 : Int32) (a1 : Int32) (Q : Int32 → ab_S → Prop) (E : String → ab_S → Prop) (x3 : Int32) (y0 : Int32) (σ : ab_S) : Prop := ((¬ (σ.2.1 92 83) = 0) → ((¬ x3 = 0) → ((¬ y0 = 0) → vp_in (((8 : Int32) * a0) + a1) 2008 ∧ ((((σ.2.1 162 (((8 : Int32) * a0) + a1).toNatClampNeg) = 0) → wX12_held_j154 a0 a1 Q E (0 : Int32) σ) ∧ (¬ ((σ.2.1 162 (((8 : Int32) * a0) + a1).toNatClampNeg) = 0) → wX12_held_j154 a0 a1 Q E (4 : Int32) σ))) ∧ (¬ (¬ y0 = 0) → wX12_held_j154 a0 a1 Q E (3 : Int32) σ)) ∧ (¬ (¬ x3 = 0) → wX12_held_j154 a0 a1 Q E (2 : Int32) σ)) ∧ (¬ (¬ (σ.2.1 92 83) = 0) → wX12_held_j154 a0 a1 Q E (1 : Int32) σ)
def wX12_held_j103 (a0 : Int32) (a1 : Int32) (Q : Int32 → ab_S → Prop) (E : String → ab_S → Prop) (x3 : Int32) (σ : ab_S) : Prop := wX12_held_j104 a0 a1 Q E x3 (0 : Int32) σ
def wX12_held_j93 (a0 : Int32) (a1 : Int32) (Q : Int32 → ab_S → Prop) (E : String → ab_S → Prop) (x3 : Int32) (y0 : Int32) (y1 : Int32) (σ : ab_S) : Prop := vp_in (y1 + y0) 104 ∧ (((¬ (σ.2.1 123 (y1 + y0).toNatClampNeg) = (2 : Int32)) → wX12_held_j103 a0 a1 Q E x3 σ) ∧ (¬ (¬ (σ.2.1 123 (y1 + y0).toNatClampNeg) = (2 : Int32)) → wX12_held_j104 a0 a1 Q E x3 (1 : Int32) σ))
def wX12_held_j80 (a0 : Int32) (a1 : Int32) (Q : Int32 → ab_S → Prop) (E : String → ab_S → Prop) (x3 : Int32) (y0 : Int32) (y2 : Int32) (σ : ab_S) : Prop := wX12_symbolOf y0 (fun u3 σ2 => ((x3 = 0) → wX12_held_j93 a0 a1 Q E x3 (0 : Int32) (y2 * u3) σ2) ∧ (¬ (x3 = 0) → wX12_held_j93 a0 a1 Q E x3 a1 (y2 * u3) σ2)) E σ
def wX12_held_j59 (a0 : Int32) (a1 : Int32) (Q : Int32 → ab_S → Prop) (E : String → ab_S → Prop) (y0 : Int32) (σ : ab_S) : Prop := ((y0 = 0) → wX12_held_j103 a0 a1 Q E y0 σ) ∧ (¬ (y0 = 0) → ((y0 = 0) → wX12_held_j80 a0 a1 Q E y0 (0 : Int32) (8 : Int32) σ) ∧ (¬ (y0 = 0) → wX12_held_j80 a0 a1 Q E y0 a0 (8 : Int32) σ))
def wX12_held_j58 (a0 : Int32) (a1 : Int32) (Q : Int32 → ab_S → Prop) (E : String → ab_S → Prop)  (σ : ab_S) : Prop := wX12_held_j59 a0 a1 Q E (0 : Int32) σ
def wX12_held_j42 (a0 : Int32) (a1 : Int32) (Q : Int32 → ab_S → Prop) (E : String → ab_S → Prop) (y0 : Int32) (y3 : Int32) (σ : ab_S) : Prop := wX12_symbolOf y0 (fun u5 σ4 => vp_in u5 13 ∧ (wX12_in a1 y3 ((σ4.2.1 99 u5.toNatClampNeg) - (1 : Int32)) (fun u7 σ6 => ((u7 = 0) → wX12_held_j58 a0 a1 Q E σ6) ∧ (¬ (u7 = 0) → wX12_held_j59 a0 a1 Q E (1 : Int32) σ6)) E σ4)) E σ
def wX12_held_j41 (a0 : Int32) (a1 : Int32) (Q : Int32 → ab_S → Prop) (E : String → ab_S → Prop) (y2 : Int32) (σ : ab_S) : Prop := wX12_held_j42 a0 a1 Q E (0 : Int32) y2 σ
def wX12_held (a0 : Int32) (a1 : Int32) (Q : Int32 → ab_S → Prop) (E : String → ab_S → Prop) (σ : ab_S) : Prop := (((σ.2.1 92 83) = 0) → wX12_held_j58 a0 a1 Q E σ) ∧ (¬ ((σ.2.1 92 83) = 0) → wX12_isNode a0 (fun u9 σ8 => ((u9 = 0) → wX12_held_j58 a0 a1 Q E σ8) ∧ (¬ (u9 = 0) → (((σ8.2.1 92 83) = 0) → wX12_held_j41 a0 a1 Q E (0 : Int32) σ8) ∧ (¬ ((σ8.2.1 92 83) = 0) → wX12_isNode a0 (fun u11 σ10 => ((u11 = 0) → wX12_held_j41 a0 a1 Q E (0 : Int32) σ10) ∧ (¬ (u11 = 0) → wX12_held_j42 a0 a1 Q E a0 (0 : Int32) σ10)) E σ8))) E σ)
set_option maxHeartbeats 4000000 in
set_option maxRecDepth 100000 in
theorem ceX12_held {l : Launch} (hl : l.stackTraces = false) (B : Nat) {a0 : Int32} {a1 : Int32}  {Q : Int32 → ab_S → Prop} {E : String → ab_S → Prop} {σ : ab_S} (hW : Wire σ) (h : wX12_held a0 a1 Q E σ) : ab_Mt l yX12_held mdX12_held B 2 43 0 0 [.ref 92, .int a0, .int a1] σ (fun v σ' => Wire σ' ∧ ∃ r : Int32, v = some (.int r) ∧ Q r σ') (fun X σ' => Wire σ' ∧ E X σ') := by
  refine V_met hl ⟨rfl, rfl, by decide⟩ rfl dkX12_held (Nat.le_of_ble_eq_true rfl) ?_
  show V l mdX12_held B 2 43 0 0 (ab_End _ _) 0 [(0, .ref 92), (1, .int a0), (2, .int a1)] [] σ
  revert h hW
  revert σ
  have k_j154 : ∀ (y0 : Int32)  (σ : ab_S), Wire σ → wX12_held_j154 a0 a1 Q E y0 σ → V l mdX12_held B 2 43 0 0 (ab_End (fun v σ' => Wire σ' ∧ ∃ r : Int32, v = some (.int r) ∧ Q r σ') (fun X σ' => Wire σ' ∧ E X σ')) 154 [(0, .ref 92), (1, .int a0), (2, .int a1)] [.int y0, .ref 92] σ := by
    intro y0  σ hW h
    refine V_putI 84 0 rfl clX12 flX12_234 (by decide) (wsh hW rfl) rfl (fun _ _ => rfl) rfl rfl ?_
    refine V_nm (fun σ1 eσ1 => ?_)
    replace h := h σ1 eσ1
    have hW := wire_I eσ1 hW
    refine V_aload_n 85 0 rfl rfl rfl ?_
    refine V_get (v := .int (σ1.2.1 92 0)) 86 0 rfl clX12 flX12_234 (by decide) (wsh hW rfl) (fun _ => rfl) ?_
    refine V_if_le 87 (tgt := 168) rfl (by decide) (fun hc => ?_) (fun hc => ?_)
    · replace h := h.1 hc
      refine V_aload_n 90 0 rfl rfl rfl ?_
      refine V_getR 91 95 rfl clX12 flX12_216 (by decide) (wsh hW rfl) (fun _ => rfl) (wrf hW 162 rfl) ?_
      refine V_bipush 92 (v := (8 : Int32)) rfl (by decide) ?_
      refine V_iload_n 93 1 rfl rfl rfl ?_
      refine V_imul 94 rfl ?_
      refine V_iload_n 95 2 rfl rfl rfl ?_
      refine V_pc 177 rfl ?_
      refine V_iadd 96 rfl ?_
      obtain ⟨hin, h⟩ := h
      refine V_iald 97 rfl (wsh hW rfl) hin ?_
      exact V_iret 98 rfl rfl ⟨hW, _, rfl, h⟩
    · replace h := h.2 hc
      refine V_pc 164 rfl ?_
      refine V_iconst 88 (v := (0 : Int32)) rfl (by decide) ?_
      refine V_goto 89 (tgt := 179) rfl (by decide) ?_
      exact V_iret 98 rfl rfl ⟨hW, _, rfl, h⟩
  have k_j104 : ∀ (x3 : Int32) (y0 : Int32)  (σ : ab_S), Wire σ → wX12_held_j104 a0 a1 Q E x3 y0 σ → V l mdX12_held B 2 43 0 0 (ab_End (fun v σ' => Wire σ' ∧ ∃ r : Int32, v = some (.int r) ∧ Q r σ') (fun X σ' => Wire σ' ∧ E X σ')) 104 [(0, .ref 92), (1, .int a0), (2, .int a1), (3, .int x3)] [.int y0] σ := by
    intro x3 y0  σ hW h
    refine V_istore 57 (lv' := [(4, .int y0), (0, .ref 92), (1, .int a0), (2, .int a1), (3, .int x3)]) rfl (by decide) rfl ?_
    refine V_aload_n 58 1 rfl rfl rfl ?_
    refine V_aload_n 59 1 rfl rfl rfl ?_
    refine V_get (v := .int (σ.2.1 92 83)) 60 83 rfl clX12 flX12_505 (by decide) (wsh hW rfl) (fun _ => rfl) ?_
    refine V_if_ne 61 (tgt := 118) rfl (by decide) (fun hc => ?_) (fun hc => ?_)
    · replace h := h.1 hc
      refine V_iload_n 64 4 rfl rfl rfl ?_
      refine V_if_ne 65 (tgt := 126) rfl (by decide) (fun hc => ?_) (fun hc => ?_)
      · replace h := h.1 hc
        refine V_iload 68 0 rfl rfl ?_
        refine V_if_ne 69 (tgt := 135) rfl (by decide) (fun hc => ?_) (fun hc => ?_)
        · replace h := h.1 hc
          refine V_aload_n 72 1 rfl rfl rfl ?_
          refine V_getR 73 96 rfl clX12 flX12_219 (by decide) (wsh hW rfl) (fun _ => rfl) (wrf hW 163 rfl) ?_
          refine V_bipush 74 (v := (8 : Int32)) rfl (by decide) ?_
          refine V_iload_n 75 2 rfl rfl rfl ?_
          refine V_imul 76 rfl ?_
          refine V_iload_n 77 3 rfl rfl rfl ?_
          refine V_pc 144 rfl ?_
          refine V_iadd 78 rfl ?_
          obtain ⟨hin, h⟩ := h
          refine V_zald 79 rfl (wsh hW rfl) hin ?_
          refine V_if_eq 80 (tgt := 153) rfl (by decide) (fun hc => ?_) (fun hc => ?_)
          · replace h := h.1 hc
            refine V_iconst 83 (v := (0 : Int32)) rfl (by decide) ?_
            refine V_sub [1, 2, 3] (lv' := [(0, .ref 92), (1, .int a0), (2, .int a1)]) rfl ?_
            exact k_j154 (0 : Int32) σ hW h
          · replace h := h.2 hc
            refine V_pc 149 rfl ?_
            refine V_iconst 81 (v := (4 : Int32)) rfl (by decide) ?_
            refine V_goto 82 (tgt := 154) rfl (by decide) ?_
            refine V_sub [1, 2, 3] (lv' := [(0, .ref 92), (1, .int a0), (2, .int a1)]) rfl ?_
            exact k_j154 (4 : Int32) σ hW h
        · replace h := h.2 hc
          refine V_pc 131 rfl ?_
          refine V_iconst 70 (v := (3 : Int32)) rfl (by decide) ?_
          refine V_goto 71 (tgt := 154) rfl (by decide) ?_
          refine V_sub [1, 2, 3] (lv' := [(0, .ref 92), (1, .int a0), (2, .int a1)]) rfl ?_
          exact k_j154 (3 : Int32) σ hW h
      · replace h := h.2 hc
        refine V_pc 122 rfl ?_
        refine V_iconst 66 (v := (2 : Int32)) rfl (by decide) ?_
        refine V_goto 67 (tgt := 154) rfl (by decide) ?_
        refine V_sub [1, 2, 3] (lv' := [(0, .ref 92), (1, .int a0), (2, .int a1)]) rfl ?_
        exact k_j154 (2 : Int32) σ hW h
    · replace h := h.2 hc
      refine V_pc 114 rfl ?_
      refine V_iconst 62 (v := (1 : Int32)) rfl (by decide) ?_
      refine V_goto 63 (tgt := 154) rfl (by decide) ?_
      refine V_sub [1, 2, 3] (lv' := [(0, .ref 92), (1, .int a0), (2, .int a1)]) rfl ?_
      exact k_j154 (1 : Int32) σ hW h
  have k_j103 : ∀ (x3 : Int32)  (σ : ab_S), Wire σ → wX12_held_j103 a0 a1 Q E x3 σ → V l mdX12_held B 2 43 0 0 (ab_End (fun v σ' => Wire σ' ∧ ∃ r : Int32, v = some (.int r) ∧ Q r σ') (fun X σ' => Wire σ' ∧ E X σ')) 103 [(0, .ref 92), (1, .int a0), (2, .int a1), (3, .int x3)] [] σ := by
    intro x3  σ hW h
    refine V_iconst 56 (v := (0 : Int32)) rfl (by decide) ?_
    exact k_j104 x3 (0 : Int32) σ hW h
  have k_j93 : ∀ (x3 : Int32) (y0 : Int32) (y1 : Int32)  (σ : ab_S), Wire σ → wX12_held_j93 a0 a1 Q E x3 y0 y1 σ → V l mdX12_held B 2 43 0 0 (ab_End (fun v σ' => Wire σ' ∧ ∃ r : Int32, v = some (.int r) ∧ Q r σ') (fun X σ' => Wire σ' ∧ E X σ')) 93 [(0, .ref 92), (1, .int a0), (2, .int a1), (3, .int x3)] [.int y0, .int y1, .ref 123] σ := by
    intro x3 y0 y1  σ hW h
    refine V_iadd 50 rfl ?_
    obtain ⟨hin, h⟩ := h
    refine V_iald 51 rfl (wsh hW rfl) hin ?_
    refine V_iconst 52 (v := (2 : Int32)) rfl (by decide) ?_
    refine V_icmp_ne 53 (tgt := 103) rfl (by decide) (fun hc => ?_) (fun hc => ?_)
    · replace h := h.1 hc
      exact k_j103 x3 σ hW h
    · replace h := h.2 hc
      refine V_pc 99 rfl ?_
      refine V_iconst 54 (v := (1 : Int32)) rfl (by decide) ?_
      refine V_goto 55 (tgt := 104) rfl (by decide) ?_
      exact k_j104 x3 (1 : Int32) σ hW h
  have k_j80 : ∀ (x3 : Int32) (y0 : Int32) (y2 : Int32)  (σ : ab_S), Wire σ → wX12_held_j80 a0 a1 Q E x3 y0 y2 σ → V l mdX12_held B 2 43 0 0 (ab_End (fun v σ' => Wire σ' ∧ ∃ r : Int32, v = some (.int r) ∧ Q r σ') (fun X σ' => Wire σ' ∧ E X σ')) 80 [(0, .ref 92), (1, .int a0), (2, .int a1), (3, .int x3)] [.int y0, .ref 92, .int y2, .ref 123] σ := by
    intro x3 y0 y2  σ hW h
    refine V_callV 43 1 (as := [.int y0]) (rest := [.int y2, .ref 123]) rfl mlX12_542 yvX12_symbolOf rfl rfl clX12 (wsh hW rfl) (by decide) (by decide) (Nat.le_of_ble_eq_true rfl) (by decide) (by decide) (fun B9 => ceX12_symbolOf hl B9 hW h) (fun X9 τ9 h9 => VX_out rfl h9) ?_
    rintro v9 σ2 ⟨hW, u3, rfl, h⟩
    refine V_imul 44 rfl ?_
    refine V_iload_n 45 3 rfl rfl rfl ?_
    refine V_if_eq 46 (tgt := 92) rfl (by decide) (fun hc => ?_) (fun hc => ?_)
    · replace h := h.1 hc
      refine V_iconst 49 (v := (0 : Int32)) rfl (by decide) ?_
      exact k_j93 x3 (0 : Int32) (y2 * u3) σ2 hW h
    · replace h := h.2 hc
      refine V_pc 88 rfl ?_
      refine V_iload_n 47 2 rfl rfl rfl ?_
      refine V_goto 48 (tgt := 93) rfl (by decide) ?_
      exact k_j93 x3 a1 (y2 * u3) σ2 hW h
  have k_j59 : ∀ (y0 : Int32)  (σ : ab_S), Wire σ → wX12_held_j59 a0 a1 Q E y0 σ → V l mdX12_held B 2 43 0 0 (ab_End (fun v σ' => Wire σ' ∧ ∃ r : Int32, v = some (.int r) ∧ Q r σ') (fun X σ' => Wire σ' ∧ E X σ')) 59 [(0, .ref 92), (1, .int a0), (2, .int a1)] [.int y0] σ := by
    intro y0  σ hW h
    refine V_istore_n 31 (lv' := [(3, .int y0), (0, .ref 92), (1, .int a0), (2, .int a1)]) rfl rfl (by decide) rfl ?_
    refine V_iload_n 32 0 rfl rfl rfl ?_
    refine V_if_eq 33 (tgt := 103) rfl (by decide) (fun hc => ?_) (fun hc => ?_)
    · replace h := h.1 hc
      refine V_sub [1, 2, 3, 0] (lv' := [(0, .ref 92), (1, .int a0), (2, .int a1), (3, .int y0)]) rfl ?_
      exact k_j103 y0 σ hW h
    · replace h := h.2 hc
      refine V_pc 64 rfl ?_
      refine V_aload_n 34 1 rfl rfl rfl ?_
      refine V_getR 35 39 rfl clX12 flX12_102 (by decide) (wsh hW rfl) (fun _ => rfl) (wrf hW 124 rfl) ?_
      refine V_bipush 36 (v := (8 : Int32)) rfl (by decide) ?_
      refine V_aload_n 37 1 rfl rfl rfl ?_
      refine V_iload_n 38 0 rfl rfl rfl ?_
      refine V_if_eq 39 (tgt := 79) rfl (by decide) (fun hc => ?_) (fun hc => ?_)
      · replace h := h.1 hc
        refine V_iconst 42 (v := (0 : Int32)) rfl (by decide) ?_
        refine V_sub [1, 2, 3, 0] (lv' := [(0, .ref 92), (1, .int a0), (2, .int a1), (3, .int y0)]) rfl ?_
        exact k_j80 y0 (0 : Int32) (8 : Int32) σ hW h
      · replace h := h.2 hc
        refine V_pc 75 rfl ?_
        refine V_iload_n 40 2 rfl rfl rfl ?_
        refine V_goto 41 (tgt := 80) rfl (by decide) ?_
        refine V_sub [1, 2, 3, 0] (lv' := [(0, .ref 92), (1, .int a0), (2, .int a1), (3, .int y0)]) rfl ?_
        exact k_j80 y0 a0 (8 : Int32) σ hW h
  have k_j58 : ∀   (σ : ab_S), Wire σ → wX12_held_j58 a0 a1 Q E  σ → V l mdX12_held B 2 43 0 0 (ab_End (fun v σ' => Wire σ' ∧ ∃ r : Int32, v = some (.int r) ∧ Q r σ') (fun X σ' => Wire σ' ∧ E X σ')) 58 [(0, .ref 92), (1, .int a0), (2, .int a1)] [] σ := by
    intro   σ hW h
    refine V_iconst 30 (v := (0 : Int32)) rfl (by decide) ?_
    exact k_j59 (0 : Int32) σ hW h
  have k_j42 : ∀ (y0 : Int32) (y3 : Int32)  (σ : ab_S), Wire σ → wX12_held_j42 a0 a1 Q E y0 y3 σ → V l mdX12_held B 2 43 0 0 (ab_End (fun v σ' => Wire σ' ∧ ∃ r : Int32, v = some (.int r) ∧ Q r σ') (fun X σ' => Wire σ' ∧ E X σ')) 42 [(0, .ref 92), (1, .int a0), (2, .int a1)] [.int y0, .ref 92, .ref 99, .int y3, .int a1] σ := by
    intro y0 y3  σ hW h
    refine V_callV 22 1 (as := [.int y0]) (rest := [.ref 99, .int y3, .int a1]) rfl mlX12_542 yvX12_symbolOf rfl rfl clX12 (wsh hW rfl) (by decide) (by decide) (Nat.le_of_ble_eq_true rfl) (by decide) (by decide) (fun B9 => ceX12_symbolOf hl B9 hW h) (fun X9 τ9 h9 => VX_out rfl h9) ?_
    rintro v9 σ4 ⟨hW, u5, rfl, h⟩
    obtain ⟨hin, h⟩ := h
    refine V_iald 23 rfl (wsh hW rfl) hin ?_
    refine V_iconst 24 (v := (1 : Int32)) rfl (by decide) ?_
    refine V_isub 25 rfl ?_
    refine V_callS 26 3 (as := [.int a1, .int y3, .int ((σ4.2.1 99 u5.toNatClampNeg) - (1 : Int32))]) (rest := []) rfl mlX12_238 yvX12_in rfl rfl (by decide) (by decide) (Nat.le_of_ble_eq_true rfl) (by decide) (by decide) (fun B9 => ceX12_in hl B9 hW h) (fun X9 τ9 h9 => VX_out rfl h9) ?_
    rintro v9 σ6 ⟨hW, u7, rfl, h⟩
    refine V_if_eq 27 (tgt := 58) rfl (by decide) (fun hc => ?_) (fun hc => ?_)
    · replace h := h.1 hc
      exact k_j58 σ6 hW h
    · replace h := h.2 hc
      refine V_pc 54 rfl ?_
      refine V_iconst 28 (v := (1 : Int32)) rfl (by decide) ?_
      refine V_goto 29 (tgt := 59) rfl (by decide) ?_
      exact k_j59 (1 : Int32) σ6 hW h
  have k_j41 : ∀ (y2 : Int32)  (σ : ab_S), Wire σ → wX12_held_j41 a0 a1 Q E y2 σ → V l mdX12_held B 2 43 0 0 (ab_End (fun v σ' => Wire σ' ∧ ∃ r : Int32, v = some (.int r) ∧ Q r σ') (fun X σ' => Wire σ' ∧ E X σ')) 41 [(0, .ref 92), (1, .int a0), (2, .int a1)] [.ref 92, .ref 99, .int y2, .int a1] σ := by
    intro y2  σ hW h
    refine V_iconst 21 (v := (0 : Int32)) rfl (by decide) ?_
    exact k_j42 (0 : Int32) y2 σ hW h
  intro σ hW h
  refine V_aload_n 0 0 rfl rfl rfl ?_
  refine V_get (v := .int (σ.2.1 92 83)) 1 83 rfl clX12 flX12_505 (by decide) (wsh hW rfl) (fun _ => rfl) ?_
  refine V_if_eq 2 (tgt := 58) rfl (by decide) (fun hc => ?_) (fun hc => ?_)
  · replace h := h.1 hc
    exact k_j58 σ hW h
  · replace h := h.2 hc
    refine V_pc 7 rfl ?_
    refine V_aload_n 3 0 rfl rfl rfl ?_
    refine V_iload_n 4 1 rfl rfl rfl ?_
    refine V_callV 5 1 (as := [.int a0]) (rest := []) rfl mlX12_548 yvX12_isNode rfl rfl clX12 (wsh hW rfl) (by decide) (by decide) (Nat.le_of_ble_eq_true rfl) (by decide) (by decide) (fun B9 => ceX12_isNode hl B9 hW h) (fun X9 τ9 h9 => VX_out rfl h9) ?_
    rintro v9 σ8 ⟨hW, u9, rfl, h⟩
    refine V_if_eq 6 (tgt := 58) rfl (by decide) (fun hc => ?_) (fun hc => ?_)
    · replace h := h.1 hc
      exact k_j58 σ8 hW h
    · replace h := h.2 hc
      refine V_pc 15 rfl ?_
      refine V_iload_n 7 2 rfl rfl rfl ?_
      refine V_iconst 8 (v := (0 : Int32)) rfl (by decide) ?_
      refine V_aload_n 9 0 rfl rfl rfl ?_
      refine V_getR 10 12 rfl clX12 flX12_29 (by decide) (wsh hW rfl) (fun _ => rfl) (wrf hW 100 rfl) ?_
      refine V_aload_n 11 0 rfl rfl rfl ?_
      refine V_aload_n 12 0 rfl rfl rfl ?_
      refine V_pc 23 rfl ?_
      refine V_get (v := .int (σ8.2.1 92 83)) 13 83 rfl clX12 flX12_505 (by decide) (wsh hW rfl) (fun _ => rfl) ?_
      refine V_if_eq 14 (tgt := 41) rfl (by decide) (fun hc => ?_) (fun hc => ?_)
      · replace h := h.1 hc
        exact k_j41 (0 : Int32) σ8 hW h
      · replace h := h.2 hc
        refine V_pc 29 rfl ?_
        refine V_aload_n 15 0 rfl rfl rfl ?_
        refine V_iload_n 16 1 rfl rfl rfl ?_
        refine V_callV 17 1 (as := [.int a0]) (rest := [.ref 92, .ref 99, .int (0 : Int32), .int a1]) rfl mlX12_548 yvX12_isNode rfl rfl clX12 (wsh hW rfl) (by decide) (by decide) (Nat.le_of_ble_eq_true rfl) (by decide) (by decide) (fun B9 => ceX12_isNode hl B9 hW h) (fun X9 τ9 h9 => VX_out rfl h9) ?_
        rintro v9 σ10 ⟨hW, u11, rfl, h⟩
        refine V_if_eq 18 (tgt := 41) rfl (by decide) (fun hc => ?_) (fun hc => ?_)
        · replace h := h.1 hc
          exact k_j41 (0 : Int32) σ10 hW h
        · replace h := h.2 hc
          refine V_pc 37 rfl ?_
          refine V_iload_n 19 1 rfl rfl rfl ?_
          refine V_goto 20 (tgt := 42) rfl (by decide) ?_
          exact k_j42 a0 (0 : Int32) σ10 hW h

def wJ7_fill_fda19_l10_b (a0 : Nat) (a0n : Nat) (a1 : Int32) (a2 : Int32) (a3 : Int32) (Q : ab_S → Prop) (E : String → ab_S → Prop) (Bk : Int32 → ab_S → Prop) (x4 : Int32) (σ : ab_S) : Prop := ((a2 ≤ x4) → Q σ) ∧ (¬ (a2 ≤ x4) → vp_in x4 a0n ∧ (∀ σ1 : ab_S, σ1 = ab_I σ a0 x4.toNatClampNeg a3 → ∀ v2 : Int32, v2 = (x4 + 1) → Bk v2 σ1))
def wJ7_fill_fda19_l10 (a0 : Nat) (a0n : Nat) (a1 : Int32) (a2 : Int32) (a3 : Int32) (Q : ab_S → Prop) (E : String → ab_S → Prop) : Nat → Int32 → ab_S → Prop
  | 0, _, _ => False
  | n + 1, x4, σ => wJ7_fill_fda19_l10_b a0 a0n a1 a2 a3 Q E (wJ7_fill_fda19_l10 a0 a0n a1 a2 a3 Q E n) x4 σ
def wJ7_fill_fda19 (a0 : Nat) (a0n : Nat) (a1 : Int32) (a2 : Int32) (a3 : Int32) (Q : ab_S → Prop) (E : String → ab_S → Prop) (σ : ab_S) : Prop := wJ7_rangeCheck_23922 (nI a0n) a1 a2 (fun σ3 => ∃ n, wJ7_fill_fda19_l10 a0 a0n a1 a2 a3 Q E n a1 σ3) E σ
set_option maxHeartbeats 4000000 in
set_option maxRecDepth 100000 in
theorem ceJ7_fill_fda19 {l : Launch} (hl : l.stackTraces = false) (B : Nat) {a0 : Nat} {a0n : Nat} {a1 : Int32} {a2 : Int32} {a3 : Int32} (ha0 : SH[a0]? = some (20, a0n)) {Q : ab_S → Prop} {E : String → ab_S → Prop} {σ : ab_S} (hW : Wire σ) (h : wJ7_fill_fda19 a0 a0n a1 a2 a3 Q E σ) : ab_Mt l yJ7_fill_fda19 mdJ7_fill_fda19 B 1 22 0 0 [.ref a0, .int a1, .int a2, .int a3] σ (fun v σ' => Wire σ' ∧ v = none ∧ Q σ') (fun X σ' => Wire σ' ∧ E X σ') := by
  refine V_met hl ⟨rfl, rfl, by decide⟩ rfl dkJ7_fill_fda19 (Nat.le_of_ble_eq_true rfl) ?_
  show V l mdJ7_fill_fda19 B 1 22 0 0 (ab_End _ _) 0 [(0, .ref a0), (1, .int a1), (2, .int a2), (3, .int a3)] [] σ
  revert h hW
  revert σ
  have k_l10 : ∀ (n : Nat) (x4 : Int32)  (σ : ab_S), Wire σ → wJ7_fill_fda19_l10 a0 a0n a1 a2 a3 Q E n x4 σ → V l mdJ7_fill_fda19 B 1 22 0 0 (ab_End (fun v σ' => Wire σ' ∧ v = none ∧ Q σ') (fun X σ' => Wire σ' ∧ E X σ')) 10 [(0, .ref a0), (2, .int a2), (3, .int a3), (4, .int x4)] [] σ := by
    have step : ∀ (Bk : Int32 → ab_S → Prop) (k_Bk : ∀ (x4 : Int32)  (σ : ab_S), Wire σ → Bk x4 σ → V l mdJ7_fill_fda19 B 1 22 0 0 (ab_End (fun v σ' => Wire σ' ∧ v = none ∧ Q σ') (fun X σ' => Wire σ' ∧ E X σ')) 10 [(0, .ref a0), (2, .int a2), (3, .int a3), (4, .int x4)] [] σ), ∀ (x4 : Int32)  (σ : ab_S), Wire σ → wJ7_fill_fda19_l10_b a0 a0n a1 a2 a3 Q E Bk x4 σ → V l mdJ7_fill_fda19 B 1 22 0 0 (ab_End (fun v σ' => Wire σ' ∧ v = none ∧ Q σ') (fun X σ' => Wire σ' ∧ E X σ')) 10 [(0, .ref a0), (2, .int a2), (3, .int a3), (4, .int x4)] [] σ := by
      intro Bk k_Bk
      intro x4  σ hW h
      refine V_iload 7 3 rfl rfl ?_
      refine V_iload_n 8 1 rfl rfl rfl ?_
      refine V_icmp_ge 9 (tgt := 27) rfl (by decide) (fun hc => ?_) (fun hc => ?_)
      · replace h := h.1 hc
        exact V_vret 16 rfl rfl ⟨hW, rfl, h⟩
      · replace h := h.2 hc
        refine V_pc 16 rfl ?_
        refine V_aload_n 10 0 rfl rfl rfl ?_
        refine V_iload 11 3 rfl rfl ?_
        refine V_iload_n 12 2 rfl rfl rfl ?_
        obtain ⟨hin, h⟩ := h
        refine V_iast 13 rfl (wsh hW ha0) hin ?_
        refine V_nm (fun σ1 eσ1 => ?_)
        replace h := h σ1 eσ1
        have hW := wire_I eσ1 hW
        obtain ⟨v2, ev2⟩ : ∃ z : Int32, z = (x4 + 1) := ⟨_, rfl⟩
        replace h := h v2 ev2
        refine V_iinc 14 3 (v := v2) (lv' := [(4, .int v2), (0, .ref a0), (2, .int a2), (3, .int a3)]) rfl rfl ((in_1 _).trans ev2.symm) (by decide) rfl ?_
        refine V_goto 15 (tgt := 10) rfl (by decide) ?_
        refine V_sub [1, 2, 3, 0] (lv' := [(0, .ref a0), (2, .int a2), (3, .int a3), (4, .int v2)]) rfl ?_
        exact k_Bk v2  σ1 hW h
    intro n
    induction n with
    | zero => intro x4  σ hW h; exact absurd h id
    | succ n ih => exact step  _ ih
  intro σ hW h
  refine V_aload_n 0 0 rfl rfl rfl ?_
  refine V_alenI 1 0 rfl (wsh hW ha0) (by decide) (by decide) (fun _ => rfl) ?_
  refine V_iload_n 2 1 rfl rfl rfl ?_
  refine V_iload_n 3 2 rfl rfl rfl ?_
  refine V_callS 4 3 (as := [.int (nI a0n), .int a1, .int a2]) (rest := []) rfl mlJ7_13 yvJ7_rangeCheck_23922 rfl rfl (by decide) (by decide) (Nat.le_of_ble_eq_true rfl) (by decide) (by decide) (fun B9 => ceJ7_rangeCheck_23922 hl B9 hW h) (fun X9 τ9 h9 => VX_out rfl h9) ?_
  rintro v9 σ3 ⟨hW, rfl, h⟩
  refine V_iload_n 5 1 rfl rfl rfl ?_
  refine V_istore 6 (lv' := [(4, .int a1), (0, .ref a0), (1, .int a1), (2, .int a2), (3, .int a3)]) rfl (by decide) rfl ?_
  refine V_sub [1, 3, 4, 0] (lv' := [(0, .ref a0), (2, .int a2), (3, .int a3), (4, .int a1)]) rfl ?_
  obtain ⟨n, h⟩ := h
  exact k_l10 n a1 σ3 hW h

def wX0_addProduction (this : Nat) (a0 : Int64) (Q : ab_S → Prop) (E : String → ab_S → Prop) (σ : ab_S) : Prop := vp_in (σ.2.1 this 5) 30 ∧ (∀ σ1 : ab_S, σ1 = ab_L σ (this + 5) (σ.2.1 this 5).toNatClampNeg a0 → vp_in (σ1.2.1 this 5) 30 ∧ (∀ σ2 : ab_S, σ2 = ab_I σ1 (this + 6) (σ1.2.1 this 5).toNatClampNeg (0 : Int32) → vp_in (σ2.2.1 this 5) 30 ∧ (∀ σ3 : ab_S, σ3 = ab_I σ2 (this + 8) (σ2.2.1 this 5).toNatClampNeg (vp_nar .boolean (0 : Int32)) → vp_in (σ3.2.1 this 5) 30 ∧ (∀ σ4 : ab_S, σ4 = ab_I σ3 (this + 9) (σ3.2.1 this 5).toNatClampNeg (0 : Int32) → wJ7_fill_fda19 (this + 10) 960 ((σ4.2.1 this 5) * (32 : Int32)) (((σ4.2.1 this 5) + (1 : Int32)) * (32 : Int32)) (0 : Int32) (fun σ5 => (∀ σ6 : ab_S, σ6 = ab_I σ5 this 5 ((σ5.2.1 this 5) + (1 : Int32)) → Q σ6)) E σ4))))
set_option maxHeartbeats 4000000 in
set_option maxRecDepth 100000 in
theorem ceX0_addProduction {l : Launch} (hl : l.stackTraces = false) (B : Nat) {this : Nat} {a0 : Int64} (hthis : isG this) {Q : ab_S → Prop} {E : String → ab_S → Prop} {σ : ab_S} (hW : Wire σ) (h : wX0_addProduction this a0 Q E σ) : ab_Mt l yX0_addProduction mdX0_addProduction B 2 46 0 0 [.ref this, .long a0] σ (fun v σ' => Wire σ' ∧ v = none ∧ Q σ') (fun X σ' => Wire σ' ∧ E X σ') := by
  refine V_met hl ⟨rfl, rfl, by decide⟩ rfl dkX0_addProduction (Nat.le_of_ble_eq_true rfl) ?_
  show V l mdX0_addProduction B 2 46 0 0 (ab_End _ _) 0 [(0, .ref this), (1, .long a0)] [] σ
  refine V_aload_n 0 0 rfl rfl rfl ?_
  refine V_getR 1 6 rfl clX0 flX0_25 (by decide) (wG hW hthis) (fun _ => rfl) (wG_f6 hW hthis) ?_
  refine V_aload_n 2 0 rfl rfl rfl ?_
  refine V_get (v := .int (σ.2.1 this 5)) 3 5 rfl clX0 flX0_69 (by decide) (wG hW hthis) (fun _ => rfl) ?_
  refine V_lload_n 4 1 rfl rfl rfl ?_
  obtain ⟨hin, h⟩ := h
  refine V_last 5 rfl (wG_a5 hW hthis) hin ?_
  refine V_nm (fun σ1 eσ1 => ?_)
  replace h := h σ1 eσ1
  have hW := wire_L eσ1 hW
  refine V_pc 10 rfl ?_
  refine V_aload_n 6 0 rfl rfl rfl ?_
  refine V_getR 7 7 rfl clX0 flX0_28 (by decide) (wG hW hthis) (fun _ => rfl) (wG_f7 hW hthis) ?_
  refine V_aload_n 8 0 rfl rfl rfl ?_
  refine V_get (v := .int (σ1.2.1 this 5)) 9 5 rfl clX0 flX0_69 (by decide) (wG hW hthis) (fun _ => rfl) ?_
  refine V_iconst 10 (v := (0 : Int32)) rfl (by decide) ?_
  obtain ⟨hin, h⟩ := h
  refine V_iast 11 rfl (wG_a6 hW hthis) hin ?_
  refine V_nm (fun σ2 eσ2 => ?_)
  replace h := h σ2 eσ2
  have hW := wire_I eσ2 hW
  refine V_pc 20 rfl ?_
  refine V_aload_n 12 0 rfl rfl rfl ?_
  refine V_getR 13 9 rfl clX0 flX0_34 (by decide) (wG hW hthis) (fun _ => rfl) (wG_f9 hW hthis) ?_
  refine V_aload_n 14 0 rfl rfl rfl ?_
  refine V_get (v := .int (σ2.2.1 this 5)) 15 5 rfl clX0 flX0_69 (by decide) (wG hW hthis) (fun _ => rfl) ?_
  refine V_iconst 16 (v := (0 : Int32)) rfl (by decide) ?_
  obtain ⟨hin, h⟩ := h
  refine V_zast 17 rfl (wG_a8 hW hthis) hin ?_
  refine V_nm (fun σ3 eσ3 => ?_)
  replace h := h σ3 eσ3
  have hW := wire_I eσ3 hW
  refine V_pc 30 rfl ?_
  refine V_aload_n 18 0 rfl rfl rfl ?_
  refine V_getR 19 10 rfl clX0 flX0_38 (by decide) (wG hW hthis) (fun _ => rfl) (wG_f10 hW hthis) ?_
  refine V_aload_n 20 0 rfl rfl rfl ?_
  refine V_get (v := .int (σ3.2.1 this 5)) 21 5 rfl clX0 flX0_69 (by decide) (wG hW hthis) (fun _ => rfl) ?_
  refine V_iconst 22 (v := (0 : Int32)) rfl (by decide) ?_
  obtain ⟨hin, h⟩ := h
  refine V_iast 23 rfl (wG_a9 hW hthis) hin ?_
  refine V_nm (fun σ4 eσ4 => ?_)
  replace h := h σ4 eσ4
  have hW := wire_I eσ4 hW
  refine V_pc 40 rfl ?_
  refine V_aload_n 24 0 rfl rfl rfl ?_
  refine V_getR 25 11 rfl clX0 flX0_41 (by decide) (wG hW hthis) (fun _ => rfl) (wG_f11 hW hthis) ?_
  refine V_aload_n 26 0 rfl rfl rfl ?_
  refine V_get (v := .int (σ4.2.1 this 5)) 27 5 rfl clX0 flX0_69 (by decide) (wG hW hthis) (fun _ => rfl) ?_
  refine V_bipush 28 (v := (32 : Int32)) rfl (by decide) ?_
  refine V_imul 29 rfl ?_
  refine V_pc 51 rfl ?_
  refine V_aload_n 30 0 rfl rfl rfl ?_
  refine V_get (v := .int (σ4.2.1 this 5)) 31 5 rfl clX0 flX0_69 (by decide) (wG hW hthis) (fun _ => rfl) ?_
  refine V_iconst 32 (v := (1 : Int32)) rfl (by decide) ?_
  refine V_iadd 33 rfl ?_
  refine V_bipush 34 (v := (32 : Int32)) rfl (by decide) ?_
  refine V_imul 35 rfl ?_
  refine V_pc 60 rfl ?_
  refine V_iconst 36 (v := (0 : Int32)) rfl (by decide) ?_
  refine V_callS 37 4 (as := [.ref (this + 10), .int ((σ4.2.1 this 5) * (32 : Int32)), .int (((σ4.2.1 this 5) + (1 : Int32)) * (32 : Int32)), .int (0 : Int32)]) (rest := []) rfl mlX0_75 yvJ7_fill_fda19 rfl rfl (by decide) (by decide) (Nat.le_of_ble_eq_true rfl) (by decide) (by decide) (fun B9 => ceJ7_fill_fda19 hl B9 (wG_s10 hthis) hW h) (fun X9 τ9 h9 => VX_out rfl h9) ?_
  rintro v9 σ5 ⟨hW, rfl, h⟩
  refine V_aload_n 38 0 rfl rfl rfl ?_
  refine V_dup 39 rfl rfl ?_
  refine V_get (v := .int (σ5.2.1 this 5)) 40 5 rfl clX0 flX0_69 (by decide) (wG hW hthis) (fun _ => rfl) ?_
  refine V_iconst 41 (v := (1 : Int32)) rfl (by decide) ?_
  refine V_iadd 42 rfl ?_
  refine V_pc 71 rfl ?_
  refine V_putI 43 5 rfl clX0 flX0_69 (by decide) (wG hW hthis) rfl (fun _ _ => rfl) rfl rfl ?_
  refine V_nm (fun σ6 eσ6 => ?_)
  replace h := h σ6 eσ6
  have hW := wire_I eσ6 hW
  exact V_vret 44 rfl rfl ⟨hW, rfl, h⟩
