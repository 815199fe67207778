def wX12_isNaming_j76 (a0 : Int32) (a1 : Int32) (a2 : Int32) (a3 : Int32) (Q : Int32 → ab_S → Prop) (E : String → ab_S → Prop) (Bk : Int32 → Int32 → ab_S → Prop) (x6 : Int32) (y0 : Int32) (σ : ab_S) : Prop := ∀ v1 : Int32, v1 = (x6 + 1) → Bk y0 v1 σ
def wX12_isNaming_j71 (a0 : Int32) (a1 : Int32) (a2 : Int32) (a3 : Int32) (Q : Int32 → ab_S → Prop) (E : String → ab_S → Prop) (Bk : Int32 → Int32 → ab_S → Prop) (x6 : Int32) (σ : ab_S) : Prop := wX12_isNaming_j76 a0 a1 a2 a3 Q E Bk x6 (1 : Int32) σ
def wX12_isNaming_j75 (a0 : Int32) (a1 : Int32) (a2 : Int32) (a3 : Int32) (Q : Int32 → ab_S → Prop) (E : String → ab_S → Prop) (Bk : Int32 → Int32 → ab_S → Prop) (x6 : Int32) (σ : ab_S) : Prop := wX12_isNaming_j76 a0 a1 a2 a3 Q E Bk x6 (0 : Int32) σ
def wX12_isNaming_l16_b (a0 : Int32) (a1 : Int32) (a2 : Int32) (a3 : Int32) (Q : Int32 → ab_S → Prop) (E : String → ab_S → Prop) (Bk : Int32 → Int32 → ab_S → Prop) (x5 : Int32) (x6 : Int32) (σ : ab_S) : Prop := ((x6 < 0) → (x5 = 0 ∨ x5 = 1) ∧ Q x5 σ) ∧ (¬ (x6 < 0) → vp_in (((32 : Int32) * a0) + a1) 992 ∧ ((((σ.2.1 106 (((32 : Int32) * a0) + a1).toNatClampNeg) ≤ x6) → (x5 = 0 ∨ x5 = 1) ∧ Q x5 σ) ∧ (¬ ((σ.2.1 106 (((32 : Int32) * a0) + a1).toNatClampNeg) ≤ x6) → ((¬ x5 = 0) → wX12_isNaming_j71 a0 a1 a2 a3 Q E Bk x6 σ) ∧ (¬ (¬ x5 = 0) → vp_in x6 2500 ∧ (((¬ (σ.2.1 107 x6.toNatClampNeg) = (50 : Int32)) → wX12_isNaming_j75 a0 a1 a2 a3 Q E Bk x6 σ) ∧ (¬ (¬ (σ.2.1 107 x6.toNatClampNeg) = (50 : Int32)) → vp_in x6 2500 ∧ (((¬ (σ.2.1 108 x6.toNatClampNeg) = (((8 : Int32) * a2) + a3)) → wX12_isNaming_j75 a0 a1 a2 a3 Q E Bk x6 σ) ∧ (¬ (¬ (σ.2.1 108 x6.toNatClampNeg) = (((8 : Int32) * a2) + a3)) → wX12_isNaming_j71 a0 a1 a2 a3 Q E Bk x6 σ))))))))
def wX12_isNaming_l16 (a0 : Int32) (a1 : Int32) (a2 : Int32) (a3 : Int32) (Q : Int32 → ab_S → Prop) (E : String → ab_S → Prop) : Nat → Int32 → Int32 → ab_S → Prop
  | 0, _, _, _ => False
  | n + 1, x5, x6, σ => wX12_isNaming_l16_b a0 a1 a2 a3 Q E (wX12_isNaming_l16 a0 a1 a2 a3 Q E n) x5 x6 σ
def wX12_isNaming (a0 : Int32) (a1 : Int32) (a2 : Int32) (a3 : Int32) (Q : Int32 → ab_S → Prop) (E : String → ab_S → Prop) (σ : ab_S) : Prop := vp_in (((32 : Int32) * a0) + a1) 992 ∧ (∀ v2 : Int32, v2 = (σ.2.1 105 (((32 : Int32) * a0) + a1).toNatClampNeg) → ∃ n, wX12_isNaming_l16 a0 a1 a2 a3 Q E n (0 : Int32) v2 σ)
set_option maxHeartbeats 4000000 in
set_option maxRecDepth 100000 in
theorem ceX12_isNaming {l : Launch} (hl : l.stackTraces = false) (B : Nat) {a0 : Int32} {a1 : Int32} {a2 : Int32} {a3 : Int32}  {Q : Int32 → ab_S → Prop} {E : String → ab_S → Prop} {σ : ab_S} (hW : Wire σ) (h : wX12_isNaming a0 a1 a2 a3 Q E σ) : ab_Mt l yX12_isNaming mdX12_isNaming B 0 0 0 0 [.ref 92, .int a0, .int a1, .int a2, .int a3] σ (fun v σ' => Wire σ' ∧ ∃ r : Int32, v = some (.int r) ∧ Q r σ') (fun X σ' => Wire σ' ∧ E X σ') := by
  refine V_met hl ⟨rfl, rfl, by decide⟩ rfl dkX12_isNaming (Nat.le_of_ble_eq_true rfl) ?_
  show V l mdX12_isNaming B 0 0 0 0 (ab_End _ _) 0 [(0, .ref 92), (1, .int a0), (2, .int a1), (3, .int a2), (4, .int a3)] [] σ
  revert h hW
  revert σ
  have k_l16 : ∀ (n : Nat) (x5 : Int32) (x6 : Int32)  (σ : ab_S), Wire σ → wX12_isNaming_l16 a0 a1 a2 a3 Q E n x5 x6 σ → V l mdX12_isNaming B 0 0 0 0 (ab_End (fun v σ' => Wire σ' ∧ ∃ r : Int32, v = some (.int r) ∧ Q r σ') (fun X σ' => Wire σ' ∧ E X σ')) 16 [(0, .ref 92), (1, .int a0), (2, .int a1), (3, .int a2), (4, .int a3), (5, .int x5), (6, .int x6)] [] σ := by
    have step : ∀ (Bk : Int32 → Int32 → ab_S → Prop) (k_Bk : ∀ (x5 : Int32) (x6 : Int32)  (σ : ab_S), Wire σ → Bk x5 x6 σ → V l mdX12_isNaming B 0 0 0 0 (ab_End (fun v σ' => Wire σ' ∧ ∃ r : Int32, v = some (.int r) ∧ Q r σ') (fun X σ' => Wire σ' ∧ E X σ')) 16 [(0, .ref 92), (1, .int a0), (2, .int a1), (3, .int a2), (4, .int a3), (5, .int x5), (6, .int x6)] [] σ), ∀ (x5 : Int32) (x6 : Int32)  (σ : ab_S), Wire σ → wX12_isNaming_l16_b a0 a1 a2 a3 Q E Bk x5 x6 σ → V l mdX12_isNaming B 0 0 0 0 (ab_End (fun v σ' => Wire σ' ∧ ∃ r : Int32, v = some (.int r) ∧ Q r σ') (fun X σ' => Wire σ' ∧ E X σ')) 16 [(0, .ref 92), (1, .int a0), (2, .int a1), (3, .int a2), (4, .int a3), (5, .int x5), (6, .int x6)] [] σ := by
      intro Bk k_Bk
      have k_j76 : ∀ (x6 : Int32) (y0 : Int32)  (σ : ab_S), Wire σ → wX12_isNaming_j76 a0 a1 a2 a3 Q E Bk x6 y0 σ → V l mdX12_isNaming B 0 0 0 0 (ab_End (fun v σ' => Wire σ' ∧ ∃ r : Int32, v = some (.int r) ∧ Q r σ') (fun X σ' => Wire σ' ∧ E X σ')) 76 [(0, .ref 92), (1, .int a0), (2, .int a1), (3, .int a2), (4, .int a3), (6, .int x6)] [.int y0] σ := by
        intro x6 y0  σ hW h
        refine V_istore 44 (lv' := [(5, .int y0), (0, .ref 92), (1, .int a0), (2, .int a1), (3, .int a2), (4, .int a3), (6, .int x6)]) rfl (by decide) rfl ?_
        obtain ⟨v1, ev1⟩ : ∃ z : Int32, z = (x6 + 1) := ⟨_, rfl⟩
        replace h := h v1 ev1
        refine V_iinc 45 6 (v := v1) (lv' := [(6, .int v1), (5, .int y0), (0, .ref 92), (1, .int a0), (2, .int a1), (3, .int a2), (4, .int a3)]) rfl rfl ((in_1 _).trans ev1.symm) (by decide) rfl ?_
        refine V_goto 46 (tgt := 16) rfl (by decide) ?_
        refine V_sub [2, 3, 4, 5, 6, 1, 0] (lv' := [(0, .ref 92), (1, .int a0), (2, .int a1), (3, .int a2), (4, .int a3), (5, .int y0), (6, .int v1)]) rfl ?_
        exact k_Bk y0 v1  σ hW h
      have k_j71 : ∀ (x6 : Int32)  (σ : ab_S), Wire σ → wX12_isNaming_j71 a0 a1 a2 a3 Q E Bk x6 σ → V l mdX12_isNaming B 0 0 0 0 (ab_End (fun v σ' => Wire σ' ∧ ∃ r : Int32, v = some (.int r) ∧ Q r σ') (fun X σ' => Wire σ' ∧ E X σ')) 71 [(0, .ref 92), (1, .int a0), (2, .int a1), (3, .int a2), (4, .int a3), (6, .int x6)] [] σ := by
        intro x6  σ hW h
        refine V_iconst 41 (v := (1 : Int32)) rfl (by decide) ?_
        refine V_goto 42 (tgt := 76) rfl (by decide) ?_
        exact k_j76 x6 (1 : Int32) σ hW h
      have k_j75 : ∀ (x6 : Int32)  (σ : ab_S), Wire σ → wX12_isNaming_j75 a0 a1 a2 a3 Q E Bk x6 σ → V l mdX12_isNaming B 0 0 0 0 (ab_End (fun v σ' => Wire σ' ∧ ∃ r : Int32, v = some (.int r) ∧ Q r σ') (fun X σ' => Wire σ' ∧ E X σ')) 75 [(0, .ref 92), (1, .int a0), (2, .int a1), (3, .int a2), (4, .int a3), (6, .int x6)] [] σ := by
        intro x6  σ hW h
        refine V_iconst 43 (v := (0 : Int32)) rfl (by decide) ?_
        exact k_j76 x6 (0 : Int32) σ hW h
      intro x5 x6  σ hW h
      refine V_iload 11 6 rfl rfl ?_
      refine V_if_lt 12 (tgt := 84) rfl (by decide) (fun hc => ?_) (fun hc => ?_)
      · replace h := h.1 hc
        refine V_iload 47 5 rfl rfl ?_
        exact V_zret 48 rfl rfl (nb1 h.1) ⟨hW, _, rfl, h.2⟩
      · replace h := h.2 hc
        refine V_pc 21 rfl ?_
        refine V_iload 13 6 rfl rfl ?_
        refine V_aload_n 14 0 rfl rfl rfl ?_
        refine V_getR 15 20 rfl clX12 flX12_51 (by decide) (wsh hW rfl) (fun _ => rfl) (wrf hW 107 rfl) ?_
        refine V_bipush 16 (v := (32 : Int32)) rfl (by decide) ?_
        refine V_iload_n 17 1 rfl rfl rfl ?_
        refine V_imul 18 rfl ?_
        refine V_pc 31 rfl ?_
        refine V_iload_n 19 2 rfl rfl rfl ?_
        refine V_iadd 20 rfl ?_
        obtain ⟨hin, h⟩ := h
        refine V_iald 21 rfl (wsh hW rfl) hin ?_
        refine V_icmp_ge 22 (tgt := 84) rfl (by decide) (fun hc => ?_) (fun hc => ?_)
        · replace h := h.1 hc
          refine V_iload 47 5 rfl rfl ?_
          exact V_zret 48 rfl rfl (nb1 h.1) ⟨hW, _, rfl, h.2⟩
        · replace h := h.2 hc
          refine V_pc 37 rfl ?_
          refine V_iload 23 5 rfl rfl ?_
          refine V_if_ne 24 (tgt := 71) rfl (by decide) (fun hc => ?_) (fun hc => ?_)
          · replace h := h.1 hc
            refine V_sub [0, 1, 2, 3, 4, 6] (lv' := [(0, .ref 92), (1, .int a0), (2, .int a1), (3, .int a2), (4, .int a3), (6, .int x6)]) rfl ?_
            exact k_j71 x6 σ hW h
          · replace h := h.2 hc
            refine V_pc 42 rfl ?_
            refine V_aload_n 25 0 rfl rfl rfl ?_
            refine V_getR 26 22 rfl clX12 flX12_54 (by decide) (wsh hW rfl) (fun _ => rfl) (wrf hW 108 rfl) ?_
            refine V_iload 27 6 rfl rfl ?_
            obtain ⟨hin, h⟩ := h
            refine V_iald 28 rfl (wsh hW rfl) hin ?_
            refine V_bipush 29 (v := (50 : Int32)) rfl (by decide) ?_
            refine V_icmp_ne 30 (tgt := 75) rfl (by decide) (fun hc => ?_) (fun hc => ?_)
            · replace h := h.1 hc
              refine V_sub [0, 1, 2, 3, 4, 6] (lv' := [(0, .ref 92), (1, .int a0), (2, .int a1), (3, .int a2), (4, .int a3), (6, .int x6)]) rfl ?_
              exact k_j75 x6 σ hW h
            · replace h := h.2 hc
              refine V_pc 54 rfl ?_
              refine V_aload_n 31 0 rfl rfl rfl ?_
              refine V_getR 32 23 rfl clX12 flX12_57 (by decide) (wsh hW rfl) (fun _ => rfl) (wrf hW 109 rfl) ?_
              refine V_iload 33 6 rfl rfl ?_
              obtain ⟨hin, h⟩ := h
              refine V_iald 34 rfl (wsh hW rfl) hin ?_
              refine V_bipush 35 (v := (8 : Int32)) rfl (by decide) ?_
              refine V_iload_n 36 3 rfl rfl rfl ?_
              refine V_pc 64 rfl ?_
              refine V_imul 37 rfl ?_
              refine V_iload 38 4 rfl rfl ?_
              refine V_iadd 39 rfl ?_
              refine V_icmp_ne 40 (tgt := 75) rfl (by decide) (fun hc => ?_) (fun hc => ?_)
              · replace h := h.1 hc
                refine V_sub [0, 1, 2, 3, 4, 6] (lv' := [(0, .ref 92), (1, .int a0), (2, .int a1), (3, .int a2), (4, .int a3), (6, .int x6)]) rfl ?_
                exact k_j75 x6 σ hW h
              · replace h := h.2 hc
                refine V_pc 71 rfl ?_
                refine V_sub [0, 1, 2, 3, 4, 6] (lv' := [(0, .ref 92), (1, .int a0), (2, .int a1), (3, .int a2), (4, .int a3), (6, .int x6)]) rfl ?_
                exact k_j71 x6 σ hW h
    intro n
    induction n with
    | zero => intro x5 x6  σ hW h; exact absurd h id
    | succ n ih => exact step  _ ih
  intro σ hW h
  refine V_iconst 0 (v := (0 : Int32)) rfl (by decide) ?_
  refine V_istore 1 (lv' := [(5, .int (0 : Int32)), (0, .ref 92), (1, .int a0), (2, .int a1), (3, .int a2), (4, .int a3)]) rfl (by decide) rfl ?_
  refine V_aload_n 2 1 rfl rfl rfl ?_
  refine V_getR 3 19 rfl clX12 flX12_48 (by decide) (wsh hW rfl) (fun _ => rfl) (wrf hW 106 rfl) ?_
  refine V_bipush 4 (v := (32 : Int32)) rfl (by decide) ?_
  refine V_iload_n 5 2 rfl rfl rfl ?_
  refine V_pc 10 rfl ?_
  refine V_imul 6 rfl ?_
  refine V_iload_n 7 3 rfl rfl rfl ?_
  refine V_iadd 8 rfl ?_
  obtain ⟨hin, h⟩ := h
  refine V_iald 9 rfl (wsh hW rfl) hin ?_
  refine V_topi (fun v2 ev2 => ?_)
  replace h := h v2 ev2
  refine V_istore 10 (lv' := [(6, .int v2), (5, .int (0 : Int32)), (0, .ref 92), (1, .int a0), (2, .int a1), (3, .int a2), (4, .int a3)]) rfl (by decide) rfl ?_
  refine V_sub [2, 3, 4, 5, 6, 1, 0] (lv' := [(0, .ref 92), (1, .int a0), (2, .int a1), (3, .int a2), (4, .int a3), (5, .int (0 : Int32)), (6, .int v2)]) rfl ?_
  obtain ⟨n, h⟩ := h
  exact k_l16 n (0 : Int32) v2 σ hW h

def wX12_areNamedIn_j52 (a0 : Int32) (a1 : Int32) (a2 : Int32) (a3 : Int32) (Q : Int32 → ab_S → Prop) (E : String → ab_S → Prop) (Bk : Int32 → Int32 → ab_S → Prop) (x6 : Int32) (y0 : Int32) (σ : ab_S) : Prop := ∀ v1 : Int32, v1 = (x6 + 1) → Bk y0 v1 σ
def wX12_areNamedIn_j47 (a0 : Int32) (a1 : Int32) (a2 : Int32) (a3 : Int32) (Q : Int32 → ab_S → Prop) (E : String → ab_S → Prop) (Bk : Int32 → Int32 → ab_S → Prop) (x6 : Int32) (σ : ab_S) : Prop := wX12_areNamedIn_j52 a0 a1 a2 a3 Q E Bk x6 (1 : Int32) σ
def wX12_areNamedIn_j51 (a0 : Int32) (a1 : Int32) (a2 : Int32) (a3 : Int32) (Q : Int32 → ab_S → Prop) (E : String → ab_S → Prop) (Bk : Int32 → Int32 → ab_S → Prop) (x6 : Int32) (σ : ab_S) : Prop := wX12_areNamedIn_j52 a0 a1 a2 a3 Q E Bk x6 (0 : Int32) σ
def wX12_areNamedIn_l6_b (a0 : Int32) (a1 : Int32) (a2 : Int32) (a3 : Int32) (Q : Int32 → ab_S → Prop) (E : String → ab_S → Prop) (Bk : Int32 → Int32 → ab_S → Prop) (x5 : Int32) (x6 : Int32) (σ : ab_S) : Prop := (((32 : Int32) ≤ x6) → (x5 = 0 ∨ x5 = 1) ∧ Q x5 σ) ∧ (¬ ((32 : Int32) ≤ x6) → ((x5 = 0) → wX12_areNamedIn_j51 a0 a1 a2 a3 Q E Bk x6 σ) ∧ (¬ (x5 = 0) → wX12_isNaming a0 x6 a1 a2 (fun u3 σ2 => ((u3 = 0) → wX12_areNamedIn_j47 a0 a1 a2 a3 Q E Bk x6 σ2) ∧ (¬ (u3 = 0) → vp_in (((32 : Int32) * a0) + x6) 992 ∧ (((¬ (σ2.2.1 116 (((32 : Int32) * a0) + x6).toNatClampNeg) = a3) → wX12_areNamedIn_j51 a0 a1 a2 a3 Q E Bk x6 σ2) ∧ (¬ (¬ (σ2.2.1 116 (((32 : Int32) * a0) + x6).toNatClampNeg) = a3) → wX12_areNamedIn_j47 a0 a1 a2 a3 Q E Bk x6 σ2)))) E σ))
def wX12_areNamedIn_l6 (a0 : Int32) (a1 : Int32) (a2 : Int32) (a3 : Int32) (Q : Int32 → ab_S → Prop) (E : String → ab_S → Prop) : Nat → Int32 → Int32 → ab_S → Prop
  | 0, _, _, _ => False
  | n + 1, x5, x6, σ => wX12_areNamedIn_l6_b a0 a1 a2 a3 Q E (wX12_areNamedIn_l6 a0 a1 a2 a3 Q E n) x5 x6 σ
def wX12_areNamedIn (a0 : Int32) (a1 : Int32) (a2 : Int32) (a3 : Int32) (Q : Int32 → ab_S → Prop) (E : String → ab_S → Prop) (σ : ab_S) : Prop := ∃ n, wX12_areNamedIn_l6 a0 a1 a2 a3 Q E n (1 : Int32) (0 : Int32) σ
set_option maxHeartbeats 4000000 in
set_option maxRecDepth 100000 in
theorem ceX12_areNamedIn {l : Launch} (hl : l.stackTraces = false) (B : Nat) {a0 : Int32} {a1 : Int32} {a2 : Int32} {a3 : Int32}  {Q : Int32 → ab_S → Prop} {E : String → ab_S → Prop} {σ : ab_S} (hW : Wire σ) (h : wX12_areNamedIn a0 a1 a2 a3 Q E σ) : ab_Mt l yX12_areNamedIn mdX12_areNamedIn B 1 26 0 0 [.ref 92, .int a0, .int a1, .int a2, .int a3] σ (fun v σ' => Wire σ' ∧ ∃ r : Int32, v = some (.int r) ∧ Q r σ') (fun X σ' => Wire σ' ∧ E X σ') := by
  refine V_met hl ⟨rfl, rfl, by decide⟩ rfl dkX12_areNamedIn (Nat.le_of_ble_eq_true rfl) ?_
  show V l mdX12_areNamedIn B 1 26 0 0 (ab_End _ _) 0 [(0, .ref 92), (1, .int a0), (2, .int a1), (3, .int a2), (4, .int a3)] [] σ
  revert h hW
  revert σ
  have k_l6 : ∀ (n : Nat) (x5 : Int32) (x6 : Int32)  (σ : ab_S), Wire σ → wX12_areNamedIn_l6 a0 a1 a2 a3 Q E n x5 x6 σ → V l mdX12_areNamedIn B 1 26 0 0 (ab_End (fun v σ' => Wire σ' ∧ ∃ r : Int32, v = some (.int r) ∧ Q r σ') (fun X σ' => Wire σ' ∧ E X σ')) 6 [(0, .ref 92), (1, .int a0), (2, .int a1), (3, .int a2), (4, .int a3), (5, .int x5), (6, .int x6)] [] σ := by
    have step : ∀ (Bk : Int32 → Int32 → ab_S → Prop) (k_Bk : ∀ (x5 : Int32) (x6 : Int32)  (σ : ab_S), Wire σ → Bk x5 x6 σ → V l mdX12_areNamedIn B 1 26 0 0 (ab_End (fun v σ' => Wire σ' ∧ ∃ r : Int32, v = some (.int r) ∧ Q r σ') (fun X σ' => Wire σ' ∧ E X σ')) 6 [(0, .ref 92), (1, .int a0), (2, .int a1), (3, .int a2), (4, .int a3), (5, .int x5), (6, .int x6)] [] σ), ∀ (x5 : Int32) (x6 : Int32)  (σ : ab_S), Wire σ → wX12_areNamedIn_l6_b a0 a1 a2 a3 Q E Bk x5 x6 σ → V l mdX12_areNamedIn B 1 26 0 0 (ab_End (fun v σ' => Wire σ' ∧ ∃ r : Int32, v = some (.int r) ∧ Q r σ') (fun X σ' => Wire σ' ∧ E X σ')) 6 [(0, .ref 92), (1, .int a0), (2, .int a1), (3, .int a2), (4, .int a3), (5, .int x5), (6, .int x6)] [] σ := by
      intro Bk k_Bk
      have k_j52 : ∀ (x6 : Int32) (y0 : Int32)  (σ : ab_S), Wire σ → wX12_areNamedIn_j52 a0 a1 a2 a3 Q E Bk x6 y0 σ → V l mdX12_areNamedIn B 1 26 0 0 (ab_End (fun v σ' => Wire σ' ∧ ∃ r : Int32, v = some (.int r) ∧ Q r σ') (fun X σ' => Wire σ' ∧ E X σ')) 52 [(0, .ref 92), (1, .int a0), (2, .int a1), (3, .int a2), (4, .int a3), (6, .int x6)] [.int y0] σ := by
        intro x6 y0  σ hW h
        refine V_istore 29 (lv' := [(5, .int y0), (0, .ref 92), (1, .int a0), (2, .int a1), (3, .int a2), (4, .int a3), (6, .int x6)]) rfl (by decide) rfl ?_
        obtain ⟨v1, ev1⟩ : ∃ z : Int32, z = (x6 + 1) := ⟨_, rfl⟩
        replace h := h v1 ev1
        refine V_iinc 30 6 (v := v1) (lv' := [(6, .int v1), (5, .int y0), (0, .ref 92), (1, .int a0), (2, .int a1), (3, .int a2), (4, .int a3)]) rfl rfl ((in_1 _).trans ev1.symm) (by decide) rfl ?_
        refine V_goto 31 (tgt := 6) rfl (by decide) ?_
        refine V_sub [2, 3, 4, 5, 6, 1, 0] (lv' := [(0, .ref 92), (1, .int a0), (2, .int a1), (3, .int a2), (4, .int a3), (5, .int y0), (6, .int v1)]) rfl ?_
        exact k_Bk y0 v1  σ hW h
      have k_j47 : ∀ (x6 : Int32)  (σ : ab_S), Wire σ → wX12_areNamedIn_j47 a0 a1 a2 a3 Q E Bk x6 σ → V l mdX12_areNamedIn B 1 26 0 0 (ab_End (fun v σ' => Wire σ' ∧ ∃ r : Int32, v = some (.int r) ∧ Q r σ') (fun X σ' => Wire σ' ∧ E X σ')) 47 [(0, .ref 92), (1, .int a0), (2, .int a1), (3, .int a2), (4, .int a3), (6, .int x6)] [] σ := by
        intro x6  σ hW h
        refine V_iconst 26 (v := (1 : Int32)) rfl (by decide) ?_
        refine V_goto 27 (tgt := 52) rfl (by decide) ?_
        exact k_j52 x6 (1 : Int32) σ hW h
      have k_j51 : ∀ (x6 : Int32)  (σ : ab_S), Wire σ → wX12_areNamedIn_j51 a0 a1 a2 a3 Q E Bk x6 σ → V l mdX12_areNamedIn B 1 26 0 0 (ab_End (fun v σ' => Wire σ' ∧ ∃ r : Int32, v = some (.int r) ∧ Q r σ') (fun X σ' => Wire σ' ∧ E X σ')) 51 [(0, .ref 92), (1, .int a0), (2, .int a1), (3, .int a2), (4, .int a3), (6, .int x6)] [] σ := by
        intro x6  σ hW h
        refine V_iconst 28 (v := (0 : Int32)) rfl (by decide) ?_
        exact k_j52 x6 (0 : Int32) σ hW h
      intro x5 x6  σ hW h
      refine V_iload 4 6 rfl rfl ?_
      refine V_bipush 5 (v := (32 : Int32)) rfl (by decide) ?_
      refine V_icmp_ge 6 (tgt := 60) rfl (by decide) (fun hc => ?_) (fun hc => ?_)
      · replace h := h.1 hc
        refine V_iload 32 5 rfl rfl ?_
        exact V_zret 33 rfl rfl (nb1 h.1) ⟨hW, _, rfl, h.2⟩
      · replace h := h.2 hc
        refine V_pc 13 rfl ?_
        refine V_iload 7 5 rfl rfl ?_
        refine V_if_eq 8 (tgt := 51) rfl (by decide) (fun hc => ?_) (fun hc => ?_)
        · replace h := h.1 hc
          refine V_sub [0, 1, 2, 3, 4, 6] (lv' := [(0, .ref 92), (1, .int a0), (2, .int a1), (3, .int a2), (4, .int a3), (6, .int x6)]) rfl ?_
          exact k_j51 x6 σ hW h
        · replace h := h.2 hc
          refine V_pc 18 rfl ?_
          refine V_aload_n 9 0 rfl rfl rfl ?_
          refine V_iload_n 10 1 rfl rfl rfl ?_
          refine V_iload 11 6 rfl rfl ?_
          refine V_iload_n 12 2 rfl rfl rfl ?_
          refine V_iload_n 13 3 rfl rfl rfl ?_
          refine V_callV 14 4 (as := [.int a0, .int x6, .int a1, .int a2]) (rest := []) rfl mlX12_467 yvX12_isNaming rfl rfl clX12 (wsh hW rfl) (by decide) (by decide) (Nat.le_of_ble_eq_true rfl) (by decide) (by decide) (fun B9 => ceX12_isNaming hl B9 hW h) (fun X9 τ9 h9 => VX_out rfl h9) ?_
          rintro v9 σ2 ⟨hW, u3, rfl, h⟩
          refine V_if_eq 15 (tgt := 47) rfl (by decide) (fun hc => ?_) (fun hc => ?_)
          · replace h := h.1 hc
            refine V_sub [0, 1, 2, 3, 4, 6] (lv' := [(0, .ref 92), (1, .int a0), (2, .int a1), (3, .int a2), (4, .int a3), (6, .int x6)]) rfl ?_
            exact k_j47 x6 σ2 hW h
          · replace h := h.2 hc
            refine V_pc 30 rfl ?_
            refine V_aload_n 16 0 rfl rfl rfl ?_
            refine V_getR 17 32 rfl clX12 flX12_81 (by decide) (wsh hW rfl) (fun _ => rfl) (wrf hW 117 rfl) ?_
            refine V_bipush 18 (v := (32 : Int32)) rfl (by decide) ?_
            refine V_iload_n 19 1 rfl rfl rfl ?_
            refine V_imul 20 rfl ?_
            refine V_iload 21 6 rfl rfl ?_
            refine V_pc 40 rfl ?_
            refine V_iadd 22 rfl ?_
            obtain ⟨hin, h⟩ := h
            refine V_iald 23 rfl (wsh hW rfl) hin ?_
            refine V_iload 24 4 rfl rfl ?_
            refine V_icmp_ne 25 (tgt := 51) rfl (by decide) (fun hc => ?_) (fun hc => ?_)
            · replace h := h.1 hc
              refine V_sub [0, 1, 2, 3, 4, 6] (lv' := [(0, .ref 92), (1, .int a0), (2, .int a1), (3, .int a2), (4, .int a3), (6, .int x6)]) rfl ?_
              exact k_j51 x6 σ2 hW h
            · replace h := h.2 hc
              refine V_pc 47 rfl ?_
              refine V_sub [0, 1, 2, 3, 4, 6] (lv' := [(0, .ref 92), (1, .int a0), (2, .int a1), (3, .int a2), (4, .int a3), (6, .int x6)]) rfl ?_
              exact k_j47 x6 σ2 hW h
    intro n
    induction n with
    | zero => intro x5 x6  σ hW h; exact absurd h id
    | succ n ih => exact step  _ ih
  intro σ hW h
  refine V_iconst 0 (v := (1 : Int32)) rfl (by decide) ?_
  refine V_istore 1 (lv' := [(5, .int (1 : Int32)), (0, .ref 92), (1, .int a0), (2, .int a1), (3, .int a2), (4, .int a3)]) rfl (by decide) rfl ?_
  refine V_iconst 2 (v := (0 : Int32)) rfl (by decide) ?_
  refine V_istore 3 (lv' := [(6, .int (0 : Int32)), (5, .int (1 : Int32)), (0, .ref 92), (1, .int a0), (2, .int a1), (3, .int a2), (4, .int a3)]) rfl (by decide) rfl ?_
  refine V_sub [2, 3, 4, 5, 6, 1, 0] (lv' := [(0, .ref 92), (1, .int a0), (2, .int a1), (3, .int a2), (4, .int a3), (5, .int (1 : Int32)), (6, .int (0 : Int32))]) rfl ?_
  obtain ⟨n, h⟩ := h
  exact k_l6 n (1 : Int32) (0 : Int32) σ hW h

def wX12_isShortAt_j20 (a0 : Int32) (a1 : Int32) (a2 : Int32) (a3 : Int32) (Q : Int32 → ab_S → Prop) (E : String → ab_S → Prop) (y0 : Int32) (σ : ab_S) : Prop := wX12_visitOf a2 a3 (fun u2 σ1 => ((¬ a1 = 0) → vp_in ((((24 : Int32) * a0) + ((6 : Int32) * a1)) + u2) 744 ∧ (∀ v3 : Int32, v3 = (σ1.2.1 118 ((((24 : Int32) * a0) + ((6 : Int32) * a1)) + u2).toNatClampNeg) → ((y0 = 0) → wX12_areNamedIn a0 a1 a3 v3 (fun u5 σ4 => (u5 = 0 ∨ u5 = 1) ∧ Q u5 σ4) E σ1) ∧ (¬ (y0 = 0) → vp_in ((((32 : Int32) * a0) + ((8 : Int32) * a1)) + a3) 992 ∧ (((¬ (σ1.2.1 116 ((((32 : Int32) * a0) + ((8 : Int32) * a1)) + a3).toNatClampNeg) = v3) → Q (0 : Int32) σ1) ∧ (¬ (¬ (σ1.2.1 116 ((((32 : Int32) * a0) + ((8 : Int32) * a1)) + a3).toNatClampNeg) = v3) → Q (1 : Int32) σ1))))) ∧ (¬ (¬ a1 = 0) → ((y0 = 0) → vp_in (((32 : Int32) * a0) + a3) 992 ∧ (((¬ (σ1.2.1 116 (((32 : Int32) * a0) + a3).toNatClampNeg) = u2) → Q (0 : Int32) σ1) ∧ (¬ (¬ (σ1.2.1 116 (((32 : Int32) * a0) + a3).toNatClampNeg) = u2) → Q (1 : Int32) σ1))) ∧ (¬ (y0 = 0) → wX12_areNamedIn a0 (0 : Int32) a3 u2 (fun u7 σ6 => (u7 = 0 ∨ u7 = 1) ∧ Q u7 σ6) E σ1))) E σ
def wX12_isShortAt (a0 : Int32) (a1 : Int32) (a2 : Int32) (a3 : Int32) (Q : Int32 → ab_S → Prop) (E : String → ab_S → Prop) (σ : ab_S) : Prop := vp_in a2 13 ∧ (((¬ (((σ.2.1 100 a2.toNatClampNeg) >>> (a3 &&& 31)) &&& (1 : Int32)) = (1 : Int32)) → wX12_isShortAt_j20 a0 a1 a2 a3 Q E (0 : Int32) σ) ∧ (¬ (¬ (((σ.2.1 100 a2.toNatClampNeg) >>> (a3 &&& 31)) &&& (1 : Int32)) = (1 : Int32)) → wX12_isShortAt_j20 a0 a1 a2 a3 Q E (1 : Int32) σ))
set_option maxHeartbeats 4000000 in
set_option maxRecDepth 100000 in
theorem ceX12_isShortAt {l : Launch} (hl : l.stackTraces = false) (B : Nat) {a0 : Int32} {a1 : Int32} {a2 : Int32} {a3 : Int32}  {Q : Int32 → ab_S → Prop} {E : String → ab_S → Prop} {σ : ab_S} (hW : Wire σ) (h : wX12_isShortAt a0 a1 a2 a3 Q E σ) : ab_Mt l yX12_isShortAt mdX12_isShortAt B 2 52 0 0 [.ref 92, .int a0, .int a1, .int a2, .int a3] σ (fun v σ' => Wire σ' ∧ ∃ r : Int32, v = some (.int r) ∧ Q r σ') (fun X σ' => Wire σ' ∧ E X σ') := by
  refine V_met hl ⟨rfl, rfl, by decide⟩ rfl dkX12_isShortAt (Nat.le_of_ble_eq_true rfl) ?_
  show V l mdX12_isShortAt B 2 52 0 0 (ab_End _ _) 0 [(0, .ref 92), (1, .int a0), (2, .int a1), (3, .int a2), (4, .int a3)] [] σ
  revert h hW
  revert σ
  have k_j20 : ∀ (y0 : Int32)  (σ : ab_S), Wire σ → wX12_isShortAt_j20 a0 a1 a2 a3 Q E y0 σ → V l mdX12_isShortAt B 2 52 0 0 (ab_End (fun v σ' => Wire σ' ∧ ∃ r : Int32, v = some (.int r) ∧ Q r σ') (fun X σ' => Wire σ' ∧ E X σ')) 20 [(0, .ref 92), (1, .int a0), (2, .int a1), (3, .int a2), (4, .int a3)] [.int y0] σ := by
    intro y0  σ hW h
    refine V_istore 13 (lv' := [(5, .int y0), (0, .ref 92), (1, .int a0), (2, .int a1), (3, .int a2), (4, .int a3)]) rfl (by decide) rfl ?_
    refine V_aload_n 14 1 rfl rfl rfl ?_
    refine V_iload_n 15 4 rfl rfl rfl ?_
    refine V_iload 16 5 rfl rfl ?_
    refine V_callV 17 2 (as := [.int a2, .int a3]) (rest := []) rfl mlX12_432 yvX12_visitOf rfl rfl clX12 (wsh hW rfl) (by decide) (by decide) (Nat.le_of_ble_eq_true rfl) (by decide) (by decide) (fun B9 => ceX12_visitOf hl B9 hW h) (fun X9 τ9 h9 => VX_out rfl h9) ?_
    rintro v9 σ1 ⟨hW, u2, rfl, h⟩
    refine V_istore 18 (lv' := [(6, .int u2), (5, .int y0), (0, .ref 92), (1, .int a0), (2, .int a1), (3, .int a2), (4, .int a3)]) rfl (by decide) rfl ?_
    refine V_iload_n 19 4 rfl rfl rfl ?_
    refine V_if_ne 20 (tgt := 76) rfl (by decide) (fun hc => ?_) (fun hc => ?_)
    · replace h := h.1 hc
      refine V_aload_n 44 2 rfl rfl rfl ?_
      refine V_getR 45 34 rfl clX12 flX12_87 (by decide) (wsh hW rfl) (fun _ => rfl) (wrf hW 119 rfl) ?_
      refine V_bipush 46 (v := (24 : Int32)) rfl (by decide) ?_
      refine V_iload_n 47 3 rfl rfl rfl ?_
      refine V_imul 48 rfl ?_
      refine V_bipush 49 (v := (6 : Int32)) rfl (by decide) ?_
      refine V_pc 86 rfl ?_
      refine V_iload_n 50 4 rfl rfl rfl ?_
      refine V_imul 51 rfl ?_
      refine V_iadd 52 rfl ?_
      refine V_iload 53 0 rfl rfl ?_
      refine V_iadd 54 rfl ?_
      obtain ⟨hin, h⟩ := h
      refine V_iald 55 rfl (wsh hW rfl) hin ?_
      refine V_pc 93 rfl ?_
      refine V_topi (fun v3 ev3 => ?_)
      replace h := h v3 ev3
      refine V_istore 56 (lv' := [(7, .int v3), (6, .int u2), (5, .int y0), (0, .ref 92), (1, .int a0), (2, .int a1), (3, .int a2), (4, .int a3)]) rfl (by decide) rfl ?_
      refine V_iload 57 2 rfl rfl ?_
      refine V_if_eq 58 (tgt := 130) rfl (by decide) (fun hc => ?_) (fun hc => ?_)
      · replace h := h.1 hc
        refine V_aload_n 77 3 rfl rfl rfl ?_
        refine V_iload_n 78 4 rfl rfl rfl ?_
        refine V_iload_n 79 5 rfl rfl rfl ?_
        refine V_iload 80 7 rfl rfl ?_
        refine V_iload 81 0 rfl rfl ?_
        refine V_callV 82 4 (as := [.int a0, .int a1, .int a3, .int v3]) (rest := []) rfl mlX12_470 yvX12_areNamedIn rfl rfl clX12 (wsh hW rfl) (by decide) (by decide) (Nat.le_of_ble_eq_true rfl) (by decide) (by decide) (fun B9 => ceX12_areNamedIn hl B9 hW h) (fun X9 τ9 h9 => VX_out rfl h9) ?_
        rintro v9 σ4 ⟨hW, u5, rfl, h⟩
        exact V_zret 83 rfl rfl (nb1 h.1) ⟨hW, _, rfl, h.2⟩
      · replace h := h.2 hc
        refine V_pc 100 rfl ?_
        refine V_aload_n 59 3 rfl rfl rfl ?_
        refine V_getR 60 32 rfl clX12 flX12_81 (by decide) (wsh hW rfl) (fun _ => rfl) (wrf hW 117 rfl) ?_
        refine V_bipush 61 (v := (32 : Int32)) rfl (by decide) ?_
        refine V_iload_n 62 4 rfl rfl rfl ?_
        refine V_imul 63 rfl ?_
        refine V_bipush 64 (v := (8 : Int32)) rfl (by decide) ?_
        refine V_pc 110 rfl ?_
        refine V_iload_n 65 5 rfl rfl rfl ?_
        refine V_imul 66 rfl ?_
        refine V_iadd 67 rfl ?_
        refine V_iload 68 7 rfl rfl ?_
        refine V_iadd 69 rfl ?_
        obtain ⟨hin, h⟩ := h
        refine V_iald 70 rfl (wsh hW rfl) hin ?_
        refine V_pc 117 rfl ?_
        refine V_iload 71 0 rfl rfl ?_
        refine V_icmp_ne 72 (tgt := 126) rfl (by decide) (fun hc => ?_) (fun hc => ?_)
        · replace h := h.1 hc
          refine V_iconst 75 (v := (0 : Int32)) rfl (by decide) ?_
          refine V_goto 76 (tgt := 140) rfl (by decide) ?_
          exact V_zret 83 rfl rfl rfl ⟨hW, _, rfl, h⟩
        · replace h := h.2 hc
          refine V_pc 122 rfl ?_
          refine V_iconst 73 (v := (1 : Int32)) rfl (by decide) ?_
          refine V_goto 74 (tgt := 140) rfl (by decide) ?_
          exact V_zret 83 rfl rfl rfl ⟨hW, _, rfl, h⟩
    · replace h := h.2 hc
      refine V_pc 35 rfl ?_
      refine V_iload 21 1 rfl rfl ?_
      refine V_if_eq 22 (tgt := 53) rfl (by decide) (fun hc => ?_) (fun hc => ?_)
      · replace h := h.1 hc
        refine V_aload_n 30 2 rfl rfl rfl ?_
        refine V_getR 31 32 rfl clX12 flX12_81 (by decide) (wsh hW rfl) (fun _ => rfl) (wrf hW 117 rfl) ?_
        refine V_bipush 32 (v := (32 : Int32)) rfl (by decide) ?_
        refine V_iload_n 33 3 rfl rfl rfl ?_
        refine V_imul 34 rfl ?_
        refine V_iload 35 6 rfl rfl ?_
        refine V_pc 63 rfl ?_
        refine V_iadd 36 rfl ?_
        obtain ⟨hin, h⟩ := h
        refine V_iald 37 rfl (wsh hW rfl) hin ?_
        refine V_iload 38 0 rfl rfl ?_
        refine V_icmp_ne 39 (tgt := 74) rfl (by decide) (fun hc => ?_) (fun hc => ?_)
        · replace h := h.1 hc
          refine V_iconst 42 (v := (0 : Int32)) rfl (by decide) ?_
          exact V_zret 43 rfl rfl rfl ⟨hW, _, rfl, h⟩
        · replace h := h.2 hc
          refine V_pc 70 rfl ?_
          refine V_iconst 40 (v := (1 : Int32)) rfl (by decide) ?_
          refine V_goto 41 (tgt := 75) rfl (by decide) ?_
          exact V_zret 43 rfl rfl rfl ⟨hW, _, rfl, h⟩
      · replace h := h.2 hc
        refine V_pc 40 rfl ?_
        refine V_aload_n 23 2 rfl rfl rfl ?_
        refine V_iload_n 24 3 rfl rfl rfl ?_
        refine V_iconst 25 (v := (0 : Int32)) rfl (by decide) ?_
        refine V_iload 26 6 rfl rfl ?_
        refine V_iload 27 0 rfl rfl ?_
        refine V_callV 28 4 (as := [.int a0, .int (0 : Int32), .int a3, .int u2]) (rest := []) rfl mlX12_470 yvX12_areNamedIn rfl rfl clX12 (wsh hW rfl) (by decide) (by decide) (Nat.le_of_ble_eq_true rfl) (by decide) (by decide) (fun B9 => ceX12_areNamedIn hl B9 hW h) (fun X9 τ9 h9 => VX_out rfl h9) ?_
        rintro v9 σ6 ⟨hW, u7, rfl, h⟩
        refine V_goto 29 (tgt := 75) rfl (by decide) ?_
        exact V_zret 43 rfl rfl (nb1 h.1) ⟨hW, _, rfl, h.2⟩
  intro σ hW h
  refine V_aload_n 0 0 rfl rfl rfl ?_
  refine V_getR 1 13 rfl clX12 flX12_32 (by decide) (wsh hW rfl) (fun _ => rfl) (wrf hW 101 rfl) ?_
  refine V_iload_n 2 3 rfl rfl rfl ?_
  obtain ⟨hin, h⟩ := h
  refine V_iald 3 rfl (wsh hW rfl) hin ?_
  refine V_iload 4 4 rfl rfl ?_
  refine V_ishr 5 rfl ?_
  refine V_pc 9 rfl ?_
  refine V_iconst 6 (v := (1 : Int32)) rfl (by decide) ?_
  refine V_iand 7 rfl ?_
  refine V_iconst 8 (v := (1 : Int32)) rfl (by decide) ?_
  refine V_icmp_ne 9 (tgt := 19) rfl (by decide) (fun hc => ?_) (fun hc => ?_)
  · replace h := h.1 hc
    refine V_iconst 12 (v := (0 : Int32)) rfl (by decide) ?_
    exact k_j20 (0 : Int32) σ hW h
  · replace h := h.2 hc
    refine V_pc 15 rfl ?_
    refine V_iconst 10 (v := (1 : Int32)) rfl (by decide) ?_
    refine V_goto 11 (tgt := 20) rfl (by decide) ?_
    exact k_j20 (1 : Int32) σ hW h

def wX12_lastNaming_j59 (a0 : Int32) (a1 : Int32) (a2 : Int32) (Q : Int32 → ab_S → Prop) (E : String → ab_S → Prop) (Bk : Int32 → Int32 → ab_S → Prop) (x5 : Int32) (y0 : Int32) (σ : ab_S) : Prop := ∀ v1 : Int32, v1 = (x5 + 1) → Bk y0 v1 σ
def wX12_lastNaming_j57 (a0 : Int32) (a1 : Int32) (a2 : Int32) (Q : Int32 → ab_S → Prop) (E : String → ab_S → Prop) (Bk : Int32 → Int32 → ab_S → Prop) (x4 : Int32) (x5 : Int32) (σ : ab_S) : Prop := wX12_lastNaming_j59 a0 a1 a2 Q E Bk x5 x4 σ
def wX12_lastNaming_l6_b (a0 : Int32) (a1 : Int32) (a2 : Int32) (Q : Int32 → ab_S → Prop) (E : String → ab_S → Prop) (Bk : Int32 → Int32 → ab_S → Prop) (x4 : Int32) (x5 : Int32) (σ : ab_S) : Prop := (((32 : Int32) ≤ x5) → Q x4 σ) ∧ (¬ ((32 : Int32) ≤ x5) → wX12_isNaming a0 x5 a1 a2 (fun u3 σ2 => ((u3 = 0) → wX12_lastNaming_j57 a0 a1 a2 Q E Bk x4 x5 σ2) ∧ (¬ (u3 = 0) → vp_in (((32 : Int32) * a0) + x5) 992 ∧ ((((σ2.2.1 117 (((32 : Int32) * a0) + x5).toNatClampNeg) ≤ x4) → wX12_lastNaming_j57 a0 a1 a2 Q E Bk x4 x5 σ2) ∧ (¬ ((σ2.2.1 117 (((32 : Int32) * a0) + x5).toNatClampNeg) ≤ x4) → vp_in (((32 : Int32) * a0) + x5) 992 ∧ (wX12_lastNaming_j59 a0 a1 a2 Q E Bk x5 (σ2.2.1 117 (((32 : Int32) * a0) + x5).toNatClampNeg) σ2))))) E σ)
def wX12_lastNaming_l6 (a0 : Int32) (a1 : Int32) (a2 : Int32) (Q : Int32 → ab_S → Prop) (E : String → ab_S → Prop) : Nat → Int32 → Int32 → ab_S → Prop
  | 0, _, _, _ => False
  | n + 1, x4, x5, σ => wX12_lastNaming_l6_b a0 a1 a2 Q E (wX12_lastNaming_l6 a0 a1 a2 Q E n) x4 x5 σ
def wX12_lastNaming (a0 : Int32) (a1 : Int32) (a2 : Int32) (Q : Int32 → ab_S → Prop) (E : String → ab_S → Prop) (σ : ab_S) : Prop := ∃ n, wX12_lastNaming_l6 a0 a1 a2 Q E n (-1 : Int32) (0 : Int32) σ
set_option maxHeartbeats 4000000 in
set_option maxRecDepth 100000 in
theorem ceX12_lastNaming {l : Launch} (hl : l.stackTraces = false) (B : Nat) {a0 : Int32} {a1 : Int32} {a2 : Int32}  {Q : Int32 → ab_S → Prop} {E : String → ab_S → Prop} {σ : ab_S} (hW : Wire σ) (h : wX12_lastNaming a0 a1 a2 Q E σ) : ab_Mt l yX12_lastNaming mdX12_lastNaming B 1 26 0 0 [.ref 92, .int a0, .int a1, .int a2] σ (fun v σ' => Wire σ' ∧ ∃ r : Int32, v = some (.int r) ∧ Q r σ') (fun X σ' => Wire σ' ∧ E X σ') := by
  refine V_met hl ⟨rfl, rfl, by decide⟩ rfl dkX12_lastNaming (Nat.le_of_ble_eq_true rfl) ?_
  show V l mdX12_lastNaming B 1 26 0 0 (ab_End _ _) 0 [(0, .ref 92), (1, .int a0), (2, .int a1), (3, .int a2)] [] σ
  revert h hW
  revert σ
  have k_l6 : ∀ (n : Nat) (x4 : Int32) (x5 : Int32)  (σ : ab_S), Wire σ → wX12_lastNaming_l6 a0 a1 a2 Q E n x4 x5 σ → V l mdX12_lastNaming B 1 26 0 0 (ab_End (fun v σ' => Wire σ' ∧ ∃ r : Int32, v = some (.int r) ∧ Q r σ') (fun X σ' => Wire σ' ∧ E X σ')) 6 [(0, .ref 92), (1, .int a0), (2, .int a1), (3, .int a2), (4, .int x4), (5, .int x5)] [] σ := by
    have step : ∀ (Bk : Int32 → Int32 → ab_S → Prop) (k_Bk : ∀ (x4 : Int32) (x5 : Int32)  (σ : ab_S), Wire σ → Bk x4 x5 σ → V l mdX12_lastNaming B 1 26 0 0 (ab_End (fun v σ' => Wire σ' ∧ ∃ r : Int32, v = some (.int r) ∧ Q r σ') (fun X σ' => Wire σ' ∧ E X σ')) 6 [(0, .ref 92), (1, .int a0), (2, .int a1), (3, .int a2), (4, .int x4), (5, .int x5)] [] σ), ∀ (x4 : Int32) (x5 : Int32)  (σ : ab_S), Wire σ → wX12_lastNaming_l6_b a0 a1 a2 Q E Bk x4 x5 σ → V l mdX12_lastNaming B 1 26 0 0 (ab_End (fun v σ' => Wire σ' ∧ ∃ r : Int32, v = some (.int r) ∧ Q r σ') (fun X σ' => Wire σ' ∧ E X σ')) 6 [(0, .ref 92), (1, .int a0), (2, .int a1), (3, .int a2), (4, .int x4), (5, .int x5)] [] σ := by
      intro Bk k_Bk
      have k_j59 : ∀ (x5 : Int32) (y0 : Int32)  (σ : ab_S), Wire σ → wX12_lastNaming_j59 a0 a1 a2 Q E Bk x5 y0 σ → V l mdX12_lastNaming B 1 26 0 0 (ab_End (fun v σ' => Wire σ' ∧ ∃ r : Int32, v = some (.int r) ∧ Q r σ') (fun X σ' => Wire σ' ∧ E X σ')) 59 [(0, .ref 92), (1, .int a0), (2, .int a1), (3, .int a2), (5, .int x5)] [.int y0] σ := by
        intro x5 y0  σ hW h
        refine V_istore 34 (lv' := [(4, .int y0), (0, .ref 92), (1, .int a0), (2, .int a1), (3, .int a2), (5, .int x5)]) rfl (by decide) rfl ?_
        obtain ⟨v1, ev1⟩ : ∃ z : Int32, z = (x5 + 1) := ⟨_, rfl⟩
        replace h := h v1 ev1
        refine V_iinc 35 5 (v := v1) (lv' := [(5, .int v1), (4, .int y0), (0, .ref 92), (1, .int a0), (2, .int a1), (3, .int a2)]) rfl rfl ((in_1 _).trans ev1.symm) (by decide) rfl ?_
        refine V_goto 36 (tgt := 6) rfl (by decide) ?_
        refine V_sub [2, 3, 4, 5, 1, 0] (lv' := [(0, .ref 92), (1, .int a0), (2, .int a1), (3, .int a2), (4, .int y0), (5, .int v1)]) rfl ?_
        exact k_Bk y0 v1  σ hW h
      have k_j57 : ∀ (x4 : Int32) (x5 : Int32)  (σ : ab_S), Wire σ → wX12_lastNaming_j57 a0 a1 a2 Q E Bk x4 x5 σ → V l mdX12_lastNaming B 1 26 0 0 (ab_End (fun v σ' => Wire σ' ∧ ∃ r : Int32, v = some (.int r) ∧ Q r σ') (fun X σ' => Wire σ' ∧ E X σ')) 57 [(0, .ref 92), (1, .int a0), (2, .int a1), (3, .int a2), (4, .int x4), (5, .int x5)] [] σ := by
        intro x4 x5  σ hW h
        refine V_iload 33 4 rfl rfl ?_
        refine V_sub [0, 1, 2, 3, 5] (lv' := [(0, .ref 92), (1, .int a0), (2, .int a1), (3, .int a2), (5, .int x5)]) rfl ?_
        exact k_j59 x5 x4 σ hW h
      intro x4 x5  σ hW h
      refine V_iload 4 5 rfl rfl ?_
      refine V_bipush 5 (v := (32 : Int32)) rfl (by decide) ?_
      refine V_icmp_ge 6 (tgt := 67) rfl (by decide) (fun hc => ?_) (fun hc => ?_)
      · replace h := h.1 hc
        refine V_iload 37 4 rfl rfl ?_
        exact V_iret 38 rfl rfl ⟨hW, _, rfl, h⟩
      · replace h := h.2 hc
        refine V_pc 13 rfl ?_
        refine V_aload_n 7 0 rfl rfl rfl ?_
        refine V_iload_n 8 1 rfl rfl rfl ?_
        refine V_iload 9 5 rfl rfl ?_
        refine V_iload_n 10 2 rfl rfl rfl ?_
        refine V_iload_n 11 3 rfl rfl rfl ?_
        refine V_callV 12 4 (as := [.int a0, .int x5, .int a1, .int a2]) (rest := []) rfl mlX12_467 yvX12_isNaming rfl rfl clX12 (wsh hW rfl) (by decide) (by decide) (Nat.le_of_ble_eq_true rfl) (by decide) (by decide) (fun B9 => ceX12_isNaming hl B9 hW h) (fun X9 τ9 h9 => VX_out rfl h9) ?_
        rintro v9 σ2 ⟨hW, u3, rfl, h⟩
        refine V_if_eq 13 (tgt := 57) rfl (by decide) (fun hc => ?_) (fun hc => ?_)
        · replace h := h.1 hc
          exact k_j57 x4 x5 σ2 hW h
        · replace h := h.2 hc
          refine V_pc 25 rfl ?_
          refine V_aload_n 14 0 rfl rfl rfl ?_
          refine V_getR 15 33 rfl clX12 flX12_84 (by decide) (wsh hW rfl) (fun _ => rfl) (wrf hW 118 rfl) ?_
          refine V_bipush 16 (v := (32 : Int32)) rfl (by decide) ?_
          refine V_iload_n 17 1 rfl rfl rfl ?_
          refine V_imul 18 rfl ?_
          refine V_iload 19 5 rfl rfl ?_
          refine V_pc 35 rfl ?_
          refine V_iadd 20 rfl ?_
          obtain ⟨hin, h⟩ := h
          refine V_iald 21 rfl (wsh hW rfl) hin ?_
          refine V_iload 22 4 rfl rfl ?_
          refine V_icmp_le 23 (tgt := 57) rfl (by decide) (fun hc => ?_) (fun hc => ?_)
          · replace h := h.1 hc
            exact k_j57 x4 x5 σ2 hW h
          · replace h := h.2 hc
            refine V_pc 42 rfl ?_
            refine V_aload_n 24 0 rfl rfl rfl ?_
            refine V_getR 25 33 rfl clX12 flX12_84 (by decide) (wsh hW rfl) (fun _ => rfl) (wrf hW 118 rfl) ?_
            refine V_bipush 26 (v := (32 : Int32)) rfl (by decide) ?_
            refine V_iload_n 27 1 rfl rfl rfl ?_
            refine V_imul 28 rfl ?_
            refine V_iload 29 5 rfl rfl ?_
            refine V_pc 52 rfl ?_
            refine V_iadd 30 rfl ?_
            obtain ⟨hin, h⟩ := h
            refine V_iald 31 rfl (wsh hW rfl) hin ?_
            refine V_goto 32 (tgt := 59) rfl (by decide) ?_
            refine V_sub [0, 1, 2, 3, 5] (lv' := [(0, .ref 92), (1, .int a0), (2, .int a1), (3, .int a2), (5, .int x5)]) rfl ?_
            exact k_j59 x5 (σ2.2.1 117 (((32 : Int32) * a0) + x5).toNatClampNeg) σ2 hW h
    intro n
    induction n with
    | zero => intro x4 x5  σ hW h; exact absurd h id
    | succ n ih => exact step  _ ih
  intro σ hW h
  refine V_iconst 0 (v := (-1 : Int32)) rfl (by decide) ?_
  refine V_istore 1 (lv' := [(4, .int (-1 : Int32)), (0, .ref 92), (1, .int a0), (2, .int a1), (3, .int a2)]) rfl (by decide) rfl ?_
  refine V_iconst 2 (v := (0 : Int32)) rfl (by decide) ?_
  refine V_istore 3 (lv' := [(5, .int (0 : Int32)), (4, .int (-1 : Int32)), (0, .ref 92), (1, .int a0), (2, .int a1), (3, .int a2)]) rfl (by decide) rfl ?_
  refine V_sub [2, 3, 4, 5, 1, 0] (lv' := [(0, .ref 92), (1, .int a0), (2, .int a1), (3, .int a2), (4, .int (-1 : Int32)), (5, .int (0 : Int32))]) rfl ?_
  obtain ⟨n, h⟩ := h
  exact k_l6 n (-1 : Int32) (0 : Int32) σ hW h

def wX12_isAloneAt_j20 (a0 : Int32) (a1 : Int32) (a2 : Int32) (a3 : Int32) (Q : Int32 → ab_S → Prop) (E : String → ab_S → Prop) (y0 : Int32) (σ : ab_S) : Prop := wX12_visitOf a2 a3 (fun u2 σ1 => vp_in ((((32 : Int32) * a0) + ((8 : Int32) * a1)) + a3) 992 ∧ (∀ v3 : Int32, v3 = (σ1.2.1 117 ((((32 : Int32) * a0) + ((8 : Int32) * a1)) + a3).toNatClampNeg) → ((¬ a1 = 0) → vp_in ((((24 : Int32) * a0) + ((6 : Int32) * a1)) + u2) 744 ∧ (∀ v4 : Int32, v4 = (σ1.2.1 119 ((((24 : Int32) * a0) + ((6 : Int32) * a1)) + u2).toNatClampNeg) → ((y0 = 0) → wX12_lastNaming a0 a1 a3 (fun u6 σ5 => wX12_anyDefining a0 (v4 + (1 : Int32)) u6 a2 a3 (fun u8 σ7 => ((¬ u8 = 0) → Q (0 : Int32) σ7) ∧ (¬ (¬ u8 = 0) → Q (1 : Int32) σ7)) E σ5) E σ1) ∧ (¬ (y0 = 0) → wX12_anyDefining a0 (v3 + (1 : Int32)) v4 a2 a3 (fun u10 σ9 => ((¬ u10 = 0) → Q (0 : Int32) σ9) ∧ (¬ (¬ u10 = 0) → Q (1 : Int32) σ9)) E σ1))) ∧ (¬ (¬ a1 = 0) → ((y0 = 0) → vp_in (((6 : Int32) * a0) + u2) 187 ∧ (wX12_anyDefining a0 (v3 + (1 : Int32)) (σ1.2.1 115 (((6 : Int32) * a0) + u2).toNatClampNeg) a2 a3 (fun u12 σ11 => ((¬ u12 = 0) → Q (0 : Int32) σ11) ∧ (¬ (¬ u12 = 0) → Q (1 : Int32) σ11)) E σ1)) ∧ (¬ (y0 = 0) → vp_in (((6 : Int32) * a0) + u2) 187 ∧ (wX12_lastNaming a0 (0 : Int32) a3 (fun u14 σ13 => wX12_anyDefining a0 (σ1.2.1 114 (((6 : Int32) * a0) + u2).toNatClampNeg) u14 a2 a3 (fun u16 σ15 => ((¬ u16 = 0) → Q (0 : Int32) σ15) ∧ (¬ (¬ u16 = 0) → Q (1 : Int32) σ15)) E σ13) E σ1))))) E σ
def wX12_isAloneAt (a0 : Int32) (a1 : Int32) (a2 : Int32) (a3 : Int32) (Q : Int32 → ab_S → Prop) (E : String → ab_S → Prop) (σ : ab_S) : Prop := vp_in a2 13 ∧ (((¬ (((σ.2.1 100 a2.toNatClampNeg) >>> (a3 &&& 31)) &&& (1 : Int32)) = (1 : Int32)) → wX12_isAloneAt_j20 a0 a1 a2 a3 Q E (0 : Int32) σ) ∧ (¬ (¬ (((σ.2.1 100 a2.toNatClampNeg) >>> (a3 &&& 31)) &&& (1 : Int32)) = (1 : Int32)) → wX12_isAloneAt_j20 a0 a1 a2 a3 Q E (1 : Int32) σ))
set_option maxHeartbeats 4000000 in
set_option maxRecDepth 100000 in
theorem ceX12_isAloneAt {l : Launch} (hl : l.stackTraces = false) (B : Nat) {a0 : Int32} {a1 : Int32} {a2 : Int32} {a3 : Int32}  {Q : Int32 → ab_S → Prop} {E : String → ab_S → Prop} {σ : ab_S} (hW : Wire σ) (h : wX12_isAloneAt a0 a1 a2 a3 Q E σ) : ab_Mt l yX12_isAloneAt mdX12_isAloneAt B 3 76 0 0 [.ref 92, .int a0, .int a1, .int a2, .int a3] σ (fun v σ' => Wire σ' ∧ ∃ r : Int32, v = some (.int r) ∧ Q r σ') (fun X σ' => Wire σ' ∧ E X σ') := by
  refine V_met hl ⟨rfl, rfl, by decide⟩ rfl dkX12_isAloneAt (Nat.le_of_ble_eq_true rfl) ?_
  show V l mdX12_isAloneAt B 3 76 0 0 (ab_End _ _) 0 [(0, .ref 92), (1, .int a0), (2, .int a1), (3, .int a2), (4, .int a3)] [] σ
  revert h hW
  revert σ
  have k_j20 : ∀ (y0 : Int32)  (σ : ab_S), Wire σ → wX12_isAloneAt_j20 a0 a1 a2 a3 Q E y0 σ → V l mdX12_isAloneAt B 3 76 0 0 (ab_End (fun v σ' => Wire σ' ∧ ∃ r : Int32, v = some (.int r) ∧ Q r σ') (fun X σ' => Wire σ' ∧ E X σ')) 20 [(0, .ref 92), (1, .int a0), (2, .int a1), (3, .int a2), (4, .int a3)] [.int y0] σ := by
    intro y0  σ hW h
    refine V_istore 13 (lv' := [(5, .int y0), (0, .ref 92), (1, .int a0), (2, .int a1), (3, .int a2), (4, .int a3)]) rfl (by decide) rfl ?_
    refine V_aload_n 14 1 rfl rfl rfl ?_
    refine V_iload_n 15 4 rfl rfl rfl ?_
    refine V_iload 16 5 rfl rfl ?_
    refine V_callV 17 2 (as := [.int a2, .int a3]) (rest := []) rfl mlX12_432 yvX12_visitOf rfl rfl clX12 (wsh hW rfl) (by decide) (by decide) (Nat.le_of_ble_eq_true rfl) (by decide) (by decide) (fun B9 => ceX12_visitOf hl B9 hW h) (fun X9 τ9 h9 => VX_out rfl h9) ?_
    rintro v9 σ1 ⟨hW, u2, rfl, h⟩
    refine V_istore 18 (lv' := [(6, .int u2), (5, .int y0), (0, .ref 92), (1, .int a0), (2, .int a1), (3, .int a2), (4, .int a3)]) rfl (by decide) rfl ?_
    refine V_aload_n 19 2 rfl rfl rfl ?_
    refine V_getR 20 33 rfl clX12 flX12_84 (by decide) (wsh hW rfl) (fun _ => rfl) (wrf hW 118 rfl) ?_
    refine V_bipush 21 (v := (32 : Int32)) rfl (by decide) ?_
    refine V_iload_n 22 3 rfl rfl rfl ?_
    refine V_pc 38 rfl ?_
    refine V_imul 23 rfl ?_
    refine V_bipush 24 (v := (8 : Int32)) rfl (by decide) ?_
    refine V_iload_n 25 4 rfl rfl rfl ?_
    refine V_imul 26 rfl ?_
    refine V_iadd 27 rfl ?_
    refine V_iload 28 6 rfl rfl ?_
    refine V_pc 46 rfl ?_
    refine V_iadd 29 rfl ?_
    obtain ⟨hin, h⟩ := h
    refine V_iald 30 rfl (wsh hW rfl) hin ?_
    refine V_topi (fun v3 ev3 => ?_)
    replace h := h v3 ev3
    refine V_istore 31 (lv' := [(7, .int v3), (6, .int u2), (5, .int y0), (0, .ref 92), (1, .int a0), (2, .int a1), (3, .int a2), (4, .int a3)]) rfl (by decide) rfl ?_
    refine V_iload_n 32 5 rfl rfl rfl ?_
    refine V_if_ne 33 (tgt := 131) rfl (by decide) (fun hc => ?_) (fun hc => ?_)
    · replace h := h.1 hc
      refine V_aload_n 80 3 rfl rfl rfl ?_
      refine V_getR 81 35 rfl clX12 flX12_90 (by decide) (wsh hW rfl) (fun _ => rfl) (wrf hW 120 rfl) ?_
      refine V_bipush 82 (v := (24 : Int32)) rfl (by decide) ?_
      refine V_iload_n 83 4 rfl rfl rfl ?_
      refine V_imul 84 rfl ?_
      refine V_bipush 85 (v := (6 : Int32)) rfl (by decide) ?_
      refine V_pc 141 rfl ?_
      refine V_iload_n 86 5 rfl rfl rfl ?_
      refine V_imul 87 rfl ?_
      refine V_iadd 88 rfl ?_
      refine V_iload 89 1 rfl rfl ?_
      refine V_iadd 90 rfl ?_
      obtain ⟨hin, h⟩ := h
      refine V_iald 91 rfl (wsh hW rfl) hin ?_
      refine V_pc 148 rfl ?_
      refine V_topi (fun v4 ev4 => ?_)
      replace h := h v4 ev4
      refine V_istore 92 (lv' := [(8, .int v4), (7, .int v3), (6, .int u2), (5, .int y0), (0, .ref 92), (1, .int a0), (2, .int a1), (3, .int a2), (4, .int a3)]) rfl (by decide) rfl ?_
      refine V_iload 93 3 rfl rfl ?_
      refine V_if_eq 94 (tgt := 180) rfl (by decide) (fun hc => ?_) (fun hc => ?_)
      · replace h := h.1 hc
        refine V_aload_n 109 4 rfl rfl rfl ?_
        refine V_iload_n 110 5 rfl rfl rfl ?_
        refine V_iload 111 0 rfl rfl ?_
        refine V_iconst 112 (v := (1 : Int32)) rfl (by decide) ?_
        refine V_iadd 113 rfl ?_
        refine V_aload_n 114 4 rfl rfl rfl ?_
        refine V_pc 187 rfl ?_
        refine V_iload_n 115 5 rfl rfl rfl ?_
        refine V_iload_n 116 6 rfl rfl rfl ?_
        refine V_iload 117 8 rfl rfl ?_
        refine V_callV 118 3 (as := [.int a0, .int a1, .int a3]) (rest := [.int (v4 + (1 : Int32)), .int a0, .ref 92]) rfl mlX12_473 yvX12_lastNaming rfl rfl clX12 (wsh hW rfl) (by decide) (by decide) (Nat.le_of_ble_eq_true rfl) (by decide) (by decide) (fun B9 => ceX12_lastNaming hl B9 hW h) (fun X9 τ9 h9 => VX_out rfl h9) ?_
        rintro v9 σ5 ⟨hW, u6, rfl, h⟩
        refine V_iload_n 119 7 rfl rfl rfl ?_
        refine V_iload 120 8 rfl rfl ?_
        refine V_callV 121 5 (as := [.int a0, .int (v4 + (1 : Int32)), .int u6, .int a2, .int a3]) (rest := []) rfl mlX12_463 yvX12_anyDefining rfl rfl clX12 (wsh hW rfl) (by decide) (by decide) (Nat.le_of_ble_eq_true rfl) (by decide) (by decide) (fun B9 => ceX12_anyDefining hl B9 hW h) (fun X9 τ9 h9 => VX_out rfl h9) ?_
        rintro v9 σ7 ⟨hW, u8, rfl, h⟩
        refine V_if_ne 122 (tgt := 207) rfl (by decide) (fun hc => ?_) (fun hc => ?_)
        · replace h := h.1 hc
          refine V_iconst 125 (v := (0 : Int32)) rfl (by decide) ?_
          exact V_zret 126 rfl rfl rfl ⟨hW, _, rfl, h⟩
        · replace h := h.2 hc
          refine V_pc 203 rfl ?_
          refine V_iconst 123 (v := (1 : Int32)) rfl (by decide) ?_
          refine V_goto 124 (tgt := 208) rfl (by decide) ?_
          exact V_zret 126 rfl rfl rfl ⟨hW, _, rfl, h⟩
      · replace h := h.2 hc
        refine V_pc 155 rfl ?_
        refine V_aload_n 95 4 rfl rfl rfl ?_
        refine V_iload_n 96 5 rfl rfl rfl ?_
        refine V_iload 97 1 rfl rfl ?_
        refine V_iconst 98 (v := (1 : Int32)) rfl (by decide) ?_
        refine V_iadd 99 rfl ?_
        refine V_iload 100 0 rfl rfl ?_
        refine V_pc 163 rfl ?_
        refine V_iload_n 101 7 rfl rfl rfl ?_
        refine V_iload 102 8 rfl rfl ?_
        refine V_callV 103 5 (as := [.int a0, .int (v3 + (1 : Int32)), .int v4, .int a2, .int a3]) (rest := []) rfl mlX12_463 yvX12_anyDefining rfl rfl clX12 (wsh hW rfl) (by decide) (by decide) (Nat.le_of_ble_eq_true rfl) (by decide) (by decide) (fun B9 => ceX12_anyDefining hl B9 hW h) (fun X9 τ9 h9 => VX_out rfl h9) ?_
        rintro v9 σ9 ⟨hW, u10, rfl, h⟩
        refine V_if_ne 104 (tgt := 176) rfl (by decide) (fun hc => ?_) (fun hc => ?_)
        · replace h := h.1 hc
          refine V_iconst 107 (v := (0 : Int32)) rfl (by decide) ?_
          refine V_goto 108 (tgt := 208) rfl (by decide) ?_
          exact V_zret 126 rfl rfl rfl ⟨hW, _, rfl, h⟩
        · replace h := h.2 hc
          refine V_pc 172 rfl ?_
          refine V_iconst 105 (v := (1 : Int32)) rfl (by decide) ?_
          refine V_goto 106 (tgt := 208) rfl (by decide) ?_
          exact V_zret 126 rfl rfl rfl ⟨hW, _, rfl, h⟩
    · replace h := h.2 hc
      refine V_pc 54 rfl ?_
      refine V_iload 34 2 rfl rfl ?_
      refine V_if_eq 35 (tgt := 98) rfl (by decide) (fun hc => ?_) (fun hc => ?_)
      · replace h := h.1 hc
        refine V_aload_n 59 3 rfl rfl rfl ?_
        refine V_iload_n 60 4 rfl rfl rfl ?_
        refine V_iload 61 0 rfl rfl ?_
        refine V_iconst 62 (v := (1 : Int32)) rfl (by decide) ?_
        refine V_iadd 63 rfl ?_
        refine V_aload_n 64 3 rfl rfl rfl ?_
        refine V_pc 105 rfl ?_
        refine V_getR 65 31 rfl clX12 flX12_78 (by decide) (wsh hW rfl) (fun _ => rfl) (wrf hW 116 rfl) ?_
        refine V_bipush 66 (v := (6 : Int32)) rfl (by decide) ?_
        refine V_iload_n 67 4 rfl rfl rfl ?_
        refine V_imul 68 rfl ?_
        refine V_iload 69 1 rfl rfl ?_
        refine V_iadd 70 rfl ?_
        refine V_pc 115 rfl ?_
        obtain ⟨hin, h⟩ := h
        refine V_iald 71 rfl (wsh hW rfl) hin ?_
        refine V_iload_n 72 6 rfl rfl rfl ?_
        refine V_iload 73 7 rfl rfl ?_
        refine V_callV 74 5 (as := [.int a0, .int (v3 + (1 : Int32)), .int (σ1.2.1 115 (((6 : Int32) * a0) + u2).toNatClampNeg), .int a2, .int a3]) (rest := []) rfl mlX12_463 yvX12_anyDefining rfl rfl clX12 (wsh hW rfl) (by decide) (by decide) (Nat.le_of_ble_eq_true rfl) (by decide) (by decide) (fun B9 => ceX12_anyDefining hl B9 hW h) (fun X9 τ9 h9 => VX_out rfl h9) ?_
        rintro v9 σ11 ⟨hW, u12, rfl, h⟩
        refine V_if_ne 75 (tgt := 129) rfl (by decide) (fun hc => ?_) (fun hc => ?_)
        · replace h := h.1 hc
          refine V_iconst 78 (v := (0 : Int32)) rfl (by decide) ?_
          exact V_zret 79 rfl rfl rfl ⟨hW, _, rfl, h⟩
        · replace h := h.2 hc
          refine V_pc 125 rfl ?_
          refine V_iconst 76 (v := (1 : Int32)) rfl (by decide) ?_
          refine V_goto 77 (tgt := 130) rfl (by decide) ?_
          exact V_zret 79 rfl rfl rfl ⟨hW, _, rfl, h⟩
      · replace h := h.2 hc
        refine V_pc 59 rfl ?_
        refine V_aload_n 36 3 rfl rfl rfl ?_
        refine V_iload_n 37 4 rfl rfl rfl ?_
        refine V_aload_n 38 3 rfl rfl rfl ?_
        refine V_getR 39 30 rfl clX12 flX12_75 (by decide) (wsh hW rfl) (fun _ => rfl) (wrf hW 115 rfl) ?_
        refine V_bipush 40 (v := (6 : Int32)) rfl (by decide) ?_
        refine V_iload_n 41 4 rfl rfl rfl ?_
        refine V_pc 68 rfl ?_
        refine V_imul 42 rfl ?_
        refine V_iload 43 1 rfl rfl ?_
        refine V_iadd 44 rfl ?_
        obtain ⟨hin, h⟩ := h
        refine V_iald 45 rfl (wsh hW rfl) hin ?_
        refine V_aload_n 46 3 rfl rfl rfl ?_
        refine V_iload_n 47 4 rfl rfl rfl ?_
        refine V_pc 75 rfl ?_
        refine V_iconst 48 (v := (0 : Int32)) rfl (by decide) ?_
        refine V_iload 49 7 rfl rfl ?_
        refine V_callV 50 3 (as := [.int a0, .int (0 : Int32), .int a3]) (rest := [.int (σ1.2.1 114 (((6 : Int32) * a0) + u2).toNatClampNeg), .int a0, .ref 92]) rfl mlX12_473 yvX12_lastNaming rfl rfl clX12 (wsh hW rfl) (by decide) (by decide) (Nat.le_of_ble_eq_true rfl) (by decide) (by decide) (fun B9 => ceX12_lastNaming hl B9 hW h) (fun X9 τ9 h9 => VX_out rfl h9) ?_
        rintro v9 σ13 ⟨hW, u14, rfl, h⟩
        refine V_iload_n 51 6 rfl rfl rfl ?_
        refine V_iload 52 7 rfl rfl ?_
        refine V_callV 53 5 (as := [.int a0, .int (σ1.2.1 114 (((6 : Int32) * a0) + u2).toNatClampNeg), .int u14, .int a2, .int a3]) (rest := []) rfl mlX12_463 yvX12_anyDefining rfl rfl clX12 (wsh hW rfl) (by decide) (by decide) (Nat.le_of_ble_eq_true rfl) (by decide) (by decide) (fun B9 => ceX12_anyDefining hl B9 hW h) (fun X9 τ9 h9 => VX_out rfl h9) ?_
        rintro v9 σ15 ⟨hW, u16, rfl, h⟩
        refine V_if_ne 54 (tgt := 94) rfl (by decide) (fun hc => ?_) (fun hc => ?_)
        · replace h := h.1 hc
          refine V_iconst 57 (v := (0 : Int32)) rfl (by decide) ?_
          refine V_goto 58 (tgt := 130) rfl (by decide) ?_
          exact V_zret 79 rfl rfl rfl ⟨hW, _, rfl, h⟩
        · replace h := h.2 hc
          refine V_pc 90 rfl ?_
          refine V_iconst 55 (v := (1 : Int32)) rfl (by decide) ?_
          refine V_goto 56 (tgt := 130) rfl (by decide) ?_
          exact V_zret 79 rfl rfl rfl ⟨hW, _, rfl, h⟩
  intro σ hW h
  refine V_aload_n 0 0 rfl rfl rfl ?_
  refine V_getR 1 13 rfl clX12 flX12_32 (by decide) (wsh hW rfl) (fun _ => rfl) (wrf hW 101 rfl) ?_
  refine V_iload_n 2 3 rfl rfl rfl ?_
  obtain ⟨hin, h⟩ := h
  refine V_iald 3 rfl (wsh hW rfl) hin ?_
  refine V_iload 4 4 rfl rfl ?_
  refine V_ishr 5 rfl ?_
  refine V_pc 9 rfl ?_
  refine V_iconst 6 (v := (1 : Int32)) rfl (by decide) ?_
  refine V_iand 7 rfl ?_
  refine V_iconst 8 (v := (1 : Int32)) rfl (by decide) ?_
  refine V_icmp_ne 9 (tgt := 19) rfl (by decide) (fun hc => ?_) (fun hc => ?_)
  · replace h := h.1 hc
    refine V_iconst 12 (v := (0 : Int32)) rfl (by decide) ?_
    exact k_j20 (0 : Int32) σ hW h
  · replace h := h.2 hc
    refine V_pc 15 rfl ?_
    refine V_iconst 10 (v := (1 : Int32)) rfl (by decide) ?_
    refine V_goto 11 (tgt := 20) rfl (by decide) ?_
    exact k_j20 (1 : Int32) σ hW h

def wX12_findStores_j186 (Q : ab_S → Prop) (E : String → ab_S → Prop) (Bk : Int32 → ab_S → Prop) (x1 : Int32) (σ : ab_S) : Prop := ∀ v1 : Int32, v1 = (x1 + 1) → Bk v1 σ
def wX12_findStores_j179 (Q : ab_S → Prop) (E : String → ab_S → Prop) (K186 : Int32 → ab_S → Prop) (Bk : Int32 → Int32 → ab_S → Prop) (x1 : Int32) (x2 : Int32) (y0 : Int32) (y1 : Int32) (σ : ab_S) : Prop := vp_in y1 104 ∧ (∀ σ2 : ab_S, σ2 = ab_I σ 123 y1.toNatClampNeg y0 → ∀ v3 : Int32, v3 = (x2 + 1) → Bk x1 v3 σ2)
def wX12_findStores_j165 (Q : ab_S → Prop) (E : String → ab_S → Prop) (K186 : Int32 → ab_S → Prop) (Bk : Int32 → Int32 → ab_S → Prop) (x1 : Int32) (x2 : Int32) (y0 : Int32) (σ : ab_S) : Prop := wX12_findStores_j179 Q E K186 Bk x1 x2 (2 : Int32) y0 σ
def wX12_findStores_j147 (Q : ab_S → Prop) (E : String → ab_S → Prop) (K186 : Int32 → ab_S → Prop) (Bk : Int32 → Int32 → ab_S → Prop) (x1 : Int32) (x2 : Int32) (x3 : Int32) (x4 : Int32) (σ : ab_S) : Prop := ((x1 = 0) → wX12_findStores_j165 Q E K186 Bk x1 x2 (((8 : Int32) * x1) + x2) σ) ∧ (¬ (x1 = 0) → ((¬ x3 = 0) → ((x4 = 0) → wX12_findStores_j179 Q E K186 Bk x1 x2 (1 : Int32) (((8 : Int32) * x1) + x2) σ) ∧ (¬ (x4 = 0) → wX12_findStores_j179 Q E K186 Bk x1 x2 (0 : Int32) (((8 : Int32) * x1) + x2) σ)) ∧ (¬ (¬ x3 = 0) → wX12_findStores_j165 Q E K186 Bk x1 x2 (((8 : Int32) * x1) + x2) σ))
def wX12_findStores_j141 (Q : ab_S → Prop) (E : String → ab_S → Prop) (K147 : Int32 → Int32 → Int32 → Int32 → ab_S → Prop) (Bk : Int32 → Int32 → Int32 → Int32 → Int32 → ab_S → Prop) (x1 : Int32) (x2 : Int32) (x3 : Int32) (x4 : Int32) (x5 : Int32) (σ : ab_S) : Prop := ∀ v4 : Int32, v4 = (x5 + 1) → Bk x1 x2 x3 x4 v4 σ
def wX12_findStores_j133 (Q : ab_S → Prop) (E : String → ab_S → Prop) (K141 : Int32 → Int32 → Int32 → Int32 → Int32 → ab_S → Prop) (Bk : Int32 → Int32 → Int32 → Int32 → Int32 → Int32 → ab_S → Prop) (x1 : Int32) (x2 : Int32) (x3 : Int32) (x5 : Int32) (x6 : Int32) (y0 : Int32) (σ : ab_S) : Prop := ∀ v5 : Int32, v5 = (x6 + 1) → Bk x1 x2 x3 y0 x5 v5 σ
def wX12_findStores_j128 (Q : ab_S → Prop) (E : String → ab_S → Prop) (K141 : Int32 → Int32 → Int32 → Int32 → Int32 → ab_S → Prop) (Bk : Int32 → Int32 → Int32 → Int32 → Int32 → Int32 → ab_S → Prop) (x1 : Int32) (x2 : Int32) (x3 : Int32) (x5 : Int32) (x6 : Int32) (σ : ab_S) : Prop := wX12_findStores_j133 Q E K141 Bk x1 x2 x3 x5 x6 (1 : Int32) σ
def wX12_findStores_j132 (Q : ab_S → Prop) (E : String → ab_S → Prop) (K141 : Int32 → Int32 → Int32 → Int32 → Int32 → ab_S → Prop) (Bk : Int32 → Int32 → Int32 → Int32 → Int32 → Int32 → ab_S → Prop) (x1 : Int32) (x2 : Int32) (x3 : Int32) (x5 : Int32) (x6 : Int32) (σ : ab_S) : Prop := wX12_findStores_j133 Q E K141 Bk x1 x2 x3 x5 x6 (0 : Int32) σ
def wX12_findStores_j104 (Q : ab_S → Prop) (E : String → ab_S → Prop) (K141 : Int32 → Int32 → Int32 → Int32 → Int32 → ab_S → Prop) (Bk : Int32 → Int32 → Int32 → Int32 → Int32 → Int32 → ab_S → Prop) (x1 : Int32) (x2 : Int32) (x4 : Int32) (x5 : Int32) (x6 : Int32) (x7 : Int32) (y0 : Int32) (σ : ab_S) : Prop := ((x4 = 0) → wX12_findStores_j132 Q E K141 Bk x1 x2 y0 x5 x6 σ) ∧ (¬ (x4 = 0) → ((x7 = 0) → wX12_findStores_j128 Q E K141 Bk x1 x2 y0 x5 x6 σ) ∧ (¬ (x7 = 0) → wX12_isAloneAt x5 x6 x1 x2 (fun u7 σ6 => ((u7 = 0) → wX12_findStores_j132 Q E K141 Bk x1 x2 y0 x5 x6 σ6) ∧ (¬ (u7 = 0) → wX12_findStores_j128 Q E K141 Bk x1 x2 y0 x5 x6 σ6)) E σ))
def wX12_findStores_j99 (Q : ab_S → Prop) (E : String → ab_S → Prop) (K141 : Int32 → Int32 → Int32 → Int32 → Int32 → ab_S → Prop) (Bk : Int32 → Int32 → Int32 → Int32 → Int32 → Int32 → ab_S → Prop) (x1 : Int32) (x2 : Int32) (x4 : Int32) (x5 : Int32) (x6 : Int32) (x7 : Int32) (σ : ab_S) : Prop := wX12_findStores_j104 Q E K141 Bk x1 x2 x4 x5 x6 x7 (1 : Int32) σ
def wX12_findStores_j103 (Q : ab_S → Prop) (E : String → ab_S → Prop) (K141 : Int32 → Int32 → Int32 → Int32 → Int32 → ab_S → Prop) (Bk : Int32 → Int32 → Int32 → Int32 → Int32 → Int32 → ab_S → Prop) (x1 : Int32) (x2 : Int32) (x4 : Int32) (x5 : Int32) (x6 : Int32) (x7 : Int32) (σ : ab_S) : Prop := wX12_findStores_j104 Q E K141 Bk x1 x2 x4 x5 x6 x7 (0 : Int32) σ
def wX12_findStores_j75 (Q : ab_S → Prop) (E : String → ab_S → Prop) (K141 : Int32 → Int32 → Int32 → Int32 → Int32 → ab_S → Prop) (Bk : Int32 → Int32 → Int32 → Int32 → Int32 → Int32 → ab_S → Prop) (x1 : Int32) (x2 : Int32) (x3 : Int32) (x4 : Int32) (x5 : Int32) (x6 : Int32) (y0 : Int32) (σ : ab_S) : Prop := ((x3 = 0) → wX12_findStores_j103 Q E K141 Bk x1 x2 x4 x5 x6 y0 σ) ∧ (¬ (x3 = 0) → ((y0 = 0) → wX12_findStores_j99 Q E K141 Bk x1 x2 x4 x5 x6 y0 σ) ∧ (¬ (y0 = 0) → wX12_isShortAt x5 x6 x1 x2 (fun u9 σ8 => ((u9 = 0) → wX12_findStores_j103 Q E K141 Bk x1 x2 x4 x5 x6 y0 σ8) ∧ (¬ (u9 = 0) → wX12_findStores_j99 Q E K141 Bk x1 x2 x4 x5 x6 y0 σ8)) E σ))
def wX12_findStores_l42_b (Q : ab_S → Prop) (E : String → ab_S → Prop) (K141 : Int32 → Int32 → Int32 → Int32 → Int32 → ab_S → Prop) (Bk : Int32 → Int32 → Int32 → Int32 → Int32 → Int32 → ab_S → Prop) (x1 : Int32) (x2 : Int32) (x3 : Int32) (x4 : Int32) (x5 : Int32) (x6 : Int32) (σ : ab_S) : Prop := vp_in x5 31 ∧ ((((σ.2.1 103 x5.toNatClampNeg) < x6) → K141 x1 x2 x3 x4 x5 σ) ∧ (¬ ((σ.2.1 103 x5.toNatClampNeg) < x6) → vp_in (((4 : Int32) * x5) + x6) 124 ∧ (((¬ (σ.2.1 104 (((4 : Int32) * x5) + x6).toNatClampNeg) = x1) → wX12_findStores_j75 Q E K141 Bk x1 x2 x3 x4 x5 x6 (0 : Int32) σ) ∧ (¬ (¬ (σ.2.1 104 (((4 : Int32) * x5) + x6).toNatClampNeg) = x1) → wX12_findStores_j75 Q E K141 Bk x1 x2 x3 x4 x5 x6 (1 : Int32) σ))))
def wX12_findStores_l42 (Q : ab_S → Prop) (E : String → ab_S → Prop) (K141 : Int32 → Int32 → Int32 → Int32 → Int32 → ab_S → Prop) : Nat → Int32 → Int32 → Int32 → Int32 → Int32 → Int32 → ab_S → Prop
  | 0, _, _, _, _, _, _, _ => False
  | n + 1, x1, x2, x3, x4, x5, x6, σ => wX12_findStores_l42_b Q E K141 (wX12_findStores_l42 Q E K141 n) x1 x2 x3 x4 x5 x6 σ
def wX12_findStores_l30_b (Q : ab_S → Prop) (E : String → ab_S → Prop) (K147 : Int32 → Int32 → Int32 → Int32 → ab_S → Prop) (Bk : Int32 → Int32 → Int32 → Int32 → Int32 → ab_S → Prop) (x1 : Int32) (x2 : Int32) (x3 : Int32) (x4 : Int32) (x5 : Int32) (σ : ab_S) : Prop := (((σ.2.1 92 14) ≤ x5) → K147 x1 x2 x3 x4 σ) ∧ (¬ ((σ.2.1 92 14) ≤ x5) → ∃ n, wX12_findStores_l42 Q E (wX12_findStores_j141 Q E K147 Bk) n x1 x2 x3 x4 x5 (0 : Int32) σ)
def wX12_findStores_l30 (Q : ab_S → Prop) (E : String → ab_S → Prop) (K147 : Int32 → Int32 → Int32 → Int32 → ab_S → Prop) : Nat → Int32 → Int32 → Int32 → Int32 → Int32 → ab_S → Prop
  | 0, _, _, _, _, _, _ => False
  | n + 1, x1, x2, x3, x4, x5, σ => wX12_findStores_l30_b Q E K147 (wX12_findStores_l30 Q E K147 n) x1 x2 x3 x4 x5 σ
def wX12_findStores_l12_b (Q : ab_S → Prop) (E : String → ab_S → Prop) (K186 : Int32 → ab_S → Prop) (Bk : Int32 → Int32 → ab_S → Prop) (x1 : Int32) (x2 : Int32) (σ : ab_S) : Prop := vp_in x1 13 ∧ ((((σ.2.1 99 x1.toNatClampNeg) ≤ x2) → K186 x1 σ) ∧ (¬ ((σ.2.1 99 x1.toNatClampNeg) ≤ x2) → ∃ n, wX12_findStores_l30 Q E (wX12_findStores_j147 Q E K186 Bk) n x1 x2 (1 : Int32) (1 : Int32) (0 : Int32) σ))
def wX12_findStores_l12 (Q : ab_S → Prop) (E : String → ab_S → Prop) (K186 : Int32 → ab_S → Prop) : Nat → Int32 → Int32 → ab_S → Prop
  | 0, _, _, _ => False
  | n + 1, x1, x2, σ => wX12_findStores_l12_b Q E K186 (wX12_findStores_l12 Q E K186 n) x1 x2 σ
def wX12_findStores_l2_b (Q : ab_S → Prop) (E : String → ab_S → Prop) (Bk : Int32 → ab_S → Prop) (x1 : Int32) (σ : ab_S) : Prop := (((σ.2.1 92 9) ≤ x1) → Q σ) ∧ (¬ ((σ.2.1 92 9) ≤ x1) → ∃ n, wX12_findStores_l12 Q E (wX12_findStores_j186 Q E Bk) n x1 (0 : Int32) σ)
def wX12_findStores_l2 (Q : ab_S → Prop) (E : String → ab_S → Prop) : Nat → Int32 → ab_S → Prop
  | 0, _, _ => False
  | n + 1, x1, σ => wX12_findStores_l2_b Q E (wX12_findStores_l2 Q E n) x1 σ
def wX12_findStores  (Q : ab_S → Prop) (E : String → ab_S → Prop) (σ : ab_S) : Prop := ∃ n, wX12_findStores_l2 Q E n (0 : Int32) σ
set_option maxHeartbeats 4000000 in
set_option maxRecDepth 100000 in
theorem ceX12_findStores {l : Launch} (hl : l.stackTraces = false) (B : Nat)   {Q : ab_S → Prop} {E : String → ab_S → Prop} {σ : ab_S} (hW : Wire σ) (h : wX12_findStores  Q E σ) : ab_Mt l yX12_findStores mdX12_findStores B 4 104 0 0 [.ref 92] σ (fun v σ' => Wire σ' ∧ v = none ∧ Q σ') (fun X σ' => Wire σ' ∧ E X σ') := by
  refine V_met hl ⟨rfl, rfl, by decide⟩ rfl dkX12_findStores (Nat.le_of_ble_eq_true rfl) ?_
  show V l mdX12_findStores B 4 104 0 0 (ab_End _ _) 0 [(0, .ref 92)] [] σ
  revert h hW
  revert σ
  have k_l2 : ∀ (n : Nat) (x1 : Int32)  (σ : ab_S), Wire σ → wX12_findStores_l2 Q E n x1 σ → V l mdX12_findStores B 4 104 0 0 (ab_End (fun v σ' => Wire σ' ∧ v = none ∧ Q σ') (fun X σ' => Wire σ' ∧ E X σ')) 2 [(0, .ref 92), (1, .int x1)] [] σ := by
    have step : ∀ (Bk : Int32 → ab_S → Prop) (k_Bk : ∀ (x1 : Int32)  (σ : ab_S), Wire σ → Bk x1 σ → V l mdX12_findStores B 4 104 0 0 (ab_End (fun v σ' => Wire σ' ∧ v = none ∧ Q σ') (fun X σ' => Wire σ' ∧ E X σ')) 2 [(0, .ref 92), (1, .int x1)] [] σ), ∀ (x1 : Int32)  (σ : ab_S), Wire σ → wX12_findStores_l2_b Q E Bk x1 σ → V l mdX12_findStores B 4 104 0 0 (ab_End (fun v σ' => Wire σ' ∧ v = none ∧ Q σ') (fun X σ' => Wire σ' ∧ E X σ')) 2 [(0, .ref 92), (1, .int x1)] [] σ := by
      intro Bk k_Bk
      have k_j186 : ∀ (x1 : Int32)  (σ : ab_S), Wire σ → wX12_findStores_j186 Q E Bk x1 σ → V l mdX12_findStores B 4 104 0 0 (ab_End (fun v σ' => Wire σ' ∧ v = none ∧ Q σ') (fun X σ' => Wire σ' ∧ E X σ')) 186 [(0, .ref 92), (1, .int x1)] [] σ := by
        intro x1  σ hW h
        obtain ⟨v1, ev1⟩ : ∃ z : Int32, z = (x1 + 1) := ⟨_, rfl⟩
        replace h := h v1 ev1
        refine V_iinc 101 1 (v := v1) (lv' := [(1, .int v1), (0, .ref 92)]) rfl rfl ((in_1 _).trans ev1.symm) (by decide) rfl ?_
        refine V_goto 102 (tgt := 2) rfl (by decide) ?_
        refine V_sub [1, 0] (lv' := [(0, .ref 92), (1, .int v1)]) rfl ?_
        exact k_Bk v1  σ hW h
      have k_l12 : ∀ (n : Nat) (x1 : Int32) (x2 : Int32)  (σ : ab_S), Wire σ → wX12_findStores_l12 Q E (wX12_findStores_j186 Q E Bk) n x1 x2 σ → V l mdX12_findStores B 4 104 0 0 (ab_End (fun v σ' => Wire σ' ∧ v = none ∧ Q σ') (fun X σ' => Wire σ' ∧ E X σ')) 12 [(0, .ref 92), (1, .int x1), (2, .int x2)] [] σ := by
        have step : ∀ (K186 : Int32 → ab_S → Prop) (k_K186 : ∀ (x1 : Int32)  (σ : ab_S), Wire σ → K186 x1 σ → V l mdX12_findStores B 4 104 0 0 (ab_End (fun v σ' => Wire σ' ∧ v = none ∧ Q σ') (fun X σ' => Wire σ' ∧ E X σ')) 186 [(0, .ref 92), (1, .int x1)] [] σ), ∀ (Bk : Int32 → Int32 → ab_S → Prop) (k_Bk : ∀ (x1 : Int32) (x2 : Int32)  (σ : ab_S), Wire σ → Bk x1 x2 σ → V l mdX12_findStores B 4 104 0 0 (ab_End (fun v σ' => Wire σ' ∧ v = none ∧ Q σ') (fun X σ' => Wire σ' ∧ E X σ')) 12 [(0, .ref 92), (1, .int x1), (2, .int x2)] [] σ), ∀ (x1 : Int32) (x2 : Int32)  (σ : ab_S), Wire σ → wX12_findStores_l12_b Q E K186 Bk x1 x2 σ → V l mdX12_findStores B 4 104 0 0 (ab_End (fun v σ' => Wire σ' ∧ v = none ∧ Q σ') (fun X σ' => Wire σ' ∧ E X σ')) 12 [(0, .ref 92), (1, .int x1), (2, .int x2)] [] σ := by
          intro K186 k_K186 Bk k_Bk
          have k_j179 : ∀ (x1 : Int32) (x2 : Int32) (y0 : Int32) (y1 : Int32)  (σ : ab_S), Wire σ → wX12_findStores_j179 Q E K186 Bk x1 x2 y0 y1 σ → V l mdX12_findStores B 4 104 0 0 (ab_End (fun v σ' => Wire σ' ∧ v = none ∧ Q σ') (fun X σ' => Wire σ' ∧ E X σ')) 179 [(0, .ref 92), (1, .int x1), (2, .int x2)] [.int y0, .int y1, .ref 123] σ := by
            intro x1 x2 y0 y1  σ hW h
            obtain ⟨hin, h⟩ := h
            refine V_iast 98 rfl (wsh hW rfl) hin ?_
            refine V_nm (fun σ2 eσ2 => ?_)
            replace h := h σ2 eσ2
            have hW := wire_I eσ2 hW
            obtain ⟨v3, ev3⟩ : ∃ z : Int32, z = (x2 + 1) := ⟨_, rfl⟩
            replace h := h v3 ev3
            refine V_iinc 99 2 (v := v3) (lv' := [(2, .int v3), (0, .ref 92), (1, .int x1)]) rfl rfl ((in_1 _).trans ev3.symm) (by decide) rfl ?_
            refine V_goto 100 (tgt := 12) rfl (by decide) ?_
            refine V_sub [1, 2, 0] (lv' := [(0, .ref 92), (1, .int x1), (2, .int v3)]) rfl ?_
            exact k_Bk x1 v3  σ2 hW h
          have k_j165 : ∀ (x1 : Int32) (x2 : Int32) (y0 : Int32)  (σ : ab_S), Wire σ → wX12_findStores_j165 Q E K186 Bk x1 x2 y0 σ → V l mdX12_findStores B 4 104 0 0 (ab_End (fun v σ' => Wire σ' ∧ v = none ∧ Q σ') (fun X σ' => Wire σ' ∧ E X σ')) 165 [(0, .ref 92), (1, .int x1), (2, .int x2)] [.int y0, .ref 123] σ := by
            intro x1 x2 y0  σ hW h
            refine V_iconst 91 (v := (2 : Int32)) rfl (by decide) ?_
            refine V_goto 92 (tgt := 179) rfl (by decide) ?_
            exact k_j179 x1 x2 (2 : Int32) y0 σ hW h
          have k_j147 : ∀ (x1 : Int32) (x2 : Int32) (x3 : Int32) (x4 : Int32)  (σ : ab_S), Wire σ → wX12_findStores_j147 Q E K186 Bk x1 x2 x3 x4 σ → V l mdX12_findStores B 4 104 0 0 (ab_End (fun v σ' => Wire σ' ∧ v = none ∧ Q σ') (fun X σ' => Wire σ' ∧ E X σ')) 147 [(0, .ref 92), (1, .int x1), (2, .int x2), (3, .int x3), (4, .int x4)] [] σ := by
            intro x1 x2 x3 x4  σ hW h
            refine V_aload_n 80 0 rfl rfl rfl ?_
            refine V_getR 81 39 rfl clX12 flX12_102 (by decide) (wsh hW rfl) (fun _ => rfl) (wrf hW 124 rfl) ?_
            refine V_bipush 82 (v := (8 : Int32)) rfl (by decide) ?_
            refine V_iload_n 83 1 rfl rfl rfl ?_
            refine V_imul 84 rfl ?_
            refine V_iload_n 85 2 rfl rfl rfl ?_
            refine V_pc 156 rfl ?_
            refine V_iadd 86 rfl ?_
            refine V_iload_n 87 1 rfl rfl rfl ?_
            refine V_if_eq 88 (tgt := 165) rfl (by decide) (fun hc => ?_) (fun hc => ?_)
            · replace h := h.1 hc
              refine V_sub [0, 1, 2] (lv' := [(0, .ref 92), (1, .int x1), (2, .int x2)]) rfl ?_
              exact k_j165 x1 x2 (((8 : Int32) * x1) + x2) σ hW h
            · replace h := h.2 hc
              refine V_pc 161 rfl ?_
              refine V_iload_n 89 3 rfl rfl rfl ?_
              refine V_if_ne 90 (tgt := 169) rfl (by decide) (fun hc => ?_) (fun hc => ?_)
              · replace h := h.1 hc
                refine V_iload 93 4 rfl rfl ?_
                refine V_if_eq 94 (tgt := 178) rfl (by decide) (fun hc => ?_) (fun hc => ?_)
                · replace h := h.1 hc
                  refine V_iconst 97 (v := (1 : Int32)) rfl (by decide) ?_
                  refine V_sub [0, 1, 2] (lv' := [(0, .ref 92), (1, .int x1), (2, .int x2)]) rfl ?_
                  exact k_j179 x1 x2 (1 : Int32) (((8 : Int32) * x1) + x2) σ hW h
                · replace h := h.2 hc
                  refine V_pc 174 rfl ?_
                  refine V_iconst 95 (v := (0 : Int32)) rfl (by decide) ?_
                  refine V_goto 96 (tgt := 179) rfl (by decide) ?_
                  refine V_sub [0, 1, 2] (lv' := [(0, .ref 92), (1, .int x1), (2, .int x2)]) rfl ?_
                  exact k_j179 x1 x2 (0 : Int32) (((8 : Int32) * x1) + x2) σ hW h
              · replace h := h.2 hc
                refine V_pc 165 rfl ?_
                refine V_sub [0, 1, 2] (lv' := [(0, .ref 92), (1, .int x1), (2, .int x2)]) rfl ?_
                exact k_j165 x1 x2 (((8 : Int32) * x1) + x2) σ hW h
          have k_l30 : ∀ (n : Nat) (x1 : Int32) (x2 : Int32) (x3 : Int32) (x4 : Int32) (x5 : Int32)  (σ : ab_S), Wire σ → wX12_findStores_l30 Q E (wX12_findStores_j147 Q E K186 Bk) n x1 x2 x3 x4 x5 σ → V l mdX12_findStores B 4 104 0 0 (ab_End (fun v σ' => Wire σ' ∧ v = none ∧ Q σ') (fun X σ' => Wire σ' ∧ E X σ')) 30 [(0, .ref 92), (1, .int x1), (2, .int x2), (3, .int x3), (4, .int x4), (5, .int x5)] [] σ := by
            have step : ∀ (K147 : Int32 → Int32 → Int32 → Int32 → ab_S → Prop) (k_K147 : ∀ (x1 : Int32) (x2 : Int32) (x3 : Int32) (x4 : Int32)  (σ : ab_S), Wire σ → K147 x1 x2 x3 x4 σ → V l mdX12_findStores B 4 104 0 0 (ab_End (fun v σ' => Wire σ' ∧ v = none ∧ Q σ') (fun X σ' => Wire σ' ∧ E X σ')) 147 [(0, .ref 92), (1, .int x1), (2, .int x2), (3, .int x3), (4, .int x4)] [] σ), ∀ (Bk : Int32 → Int32 → Int32 → Int32 → Int32 → ab_S → Prop) (k_Bk : ∀ (x1 : Int32) (x2 : Int32) (x3 : Int32) (x4 : Int32) (x5 : Int32)  (σ : ab_S), Wire σ → Bk x1 x2 x3 x4 x5 σ → V l mdX12_findStores B 4 104 0 0 (ab_End (fun v σ' => Wire σ' ∧ v = none ∧ Q σ') (fun X σ' => Wire σ' ∧ E X σ')) 30 [(0, .ref 92), (1, .int x1), (2, .int x2), (3, .int x3), (4, .int x4), (5, .int x5)] [] σ), ∀ (x1 : Int32) (x2 : Int32) (x3 : Int32) (x4 : Int32) (x5 : Int32)  (σ : ab_S), Wire σ → wX12_findStores_l30_b Q E K147 Bk x1 x2 x3 x4 x5 σ → V l mdX12_findStores B 4 104 0 0 (ab_End (fun v σ' => Wire σ' ∧ v = none ∧ Q σ') (fun X σ' => Wire σ' ∧ E X σ')) 30 [(0, .ref 92), (1, .int x1), (2, .int x2), (3, .int x3), (4, .int x4), (5, .int x5)] [] σ := by
              intro K147 k_K147 Bk k_Bk
              have k_j141 : ∀ (x1 : Int32) (x2 : Int32) (x3 : Int32) (x4 : Int32) (x5 : Int32)  (σ : ab_S), Wire σ → wX12_findStores_j141 Q E K147 Bk x1 x2 x3 x4 x5 σ → V l mdX12_findStores B 4 104 0 0 (ab_End (fun v σ' => Wire σ' ∧ v = none ∧ Q σ') (fun X σ' => Wire σ' ∧ E X σ')) 141 [(0, .ref 92), (1, .int x1), (2, .int x2), (3, .int x3), (4, .int x4), (5, .int x5)] [] σ := by
                intro x1 x2 x3 x4 x5  σ hW h
                obtain ⟨v4, ev4⟩ : ∃ z : Int32, z = (x5 + 1) := ⟨_, rfl⟩
                replace h := h v4 ev4
                refine V_iinc 78 5 (v := v4) (lv' := [(5, .int v4), (0, .ref 92), (1, .int x1), (2, .int x2), (3, .int x3), (4, .int x4)]) rfl rfl ((in_1 _).trans ev4.symm) (by decide) rfl ?_
                refine V_goto 79 (tgt := 30) rfl (by decide) ?_
                refine V_sub [1, 2, 3, 4, 5, 0] (lv' := [(0, .ref 92), (1, .int x1), (2, .int x2), (3, .int x3), (4, .int x4), (5, .int v4)]) rfl ?_
                exact k_Bk x1 x2 x3 x4 v4  σ hW h
              have k_l42 : ∀ (n : Nat) (x1 : Int32) (x2 : Int32) (x3 : Int32) (x4 : Int32) (x5 : Int32) (x6 : Int32)  (σ : ab_S), Wire σ → wX12_findStores_l42 Q E (wX12_findStores_j141 Q E K147 Bk) n x1 x2 x3 x4 x5 x6 σ → V l mdX12_findStores B 4 104 0 0 (ab_End (fun v σ' => Wire σ' ∧ v = none ∧ Q σ') (fun X σ' => Wire σ' ∧ E X σ')) 42 [(0, .ref 92), (1, .int x1), (2, .int x2), (3, .int x3), (4, .int x4), (5, .int x5), (6, .int x6)] [] σ := by
                have step : ∀ (K141 : Int32 → Int32 → Int32 → Int32 → Int32 → ab_S → Prop) (k_K141 : ∀ (x1 : Int32) (x2 : Int32) (x3 : Int32) (x4 : Int32) (x5 : Int32)  (σ : ab_S), Wire σ → K141 x1 x2 x3 x4 x5 σ → V l mdX12_findStores B 4 104 0 0 (ab_End (fun v σ' => Wire σ' ∧ v = none ∧ Q σ') (fun X σ' => Wire σ' ∧ E X σ')) 141 [(0, .ref 92), (1, .int x1), (2, .int x2), (3, .int x3), (4, .int x4), (5, .int x5)] [] σ), ∀ (Bk : Int32 → Int32 → Int32 → Int32 → Int32 → Int32 → ab_S → Prop) (k_Bk : ∀ (x1 : Int32) (x2 : Int32) (x3 : Int32) (x4 : Int32) (x5 : Int32) (x6 : Int32)  (σ : ab_S), Wire σ → Bk x1 x2 x3 x4 x5 x6 σ → V l mdX12_findStores B 4 104 0 0 (ab_End (fun v σ' => Wire σ' ∧ v = none ∧ Q σ') (fun X σ' => Wire σ' ∧ E X σ')) 42 [(0, .ref 92), (1, .int x1), (2, .int x2), (3, .int x3), (4, .int x4), (5, .int x5), (6, .int x6)] [] σ), ∀ (x1 : Int32) (x2 : Int32) (x3 : Int32) (x4 : Int32) (x5 : Int32) (x6 : Int32)  (σ : ab_S), Wire σ → wX12_findStores_l42_b Q E K141 Bk x1 x2 x3 x4 x5 x6 σ → V l mdX12_findStores B 4 104 0 0 (ab_End (fun v σ' => Wire σ' ∧ v = none ∧ Q σ') (fun X σ' => Wire σ' ∧ E X σ')) 42 [(0, .ref 92), (1, .int x1), (2, .int x2), (3, .int x3), (4, .int x4), (5, .int x5), (6, .int x6)] [] σ := by
                  intro K141 k_K141 Bk k_Bk
                  have k_j133 : ∀ (x1 : Int32) (x2 : Int32) (x3 : Int32) (x5 : Int32) (x6 : Int32) (y0 : Int32)  (σ : ab_S), Wire σ → wX12_findStores_j133 Q E K141 Bk x1 x2 x3 x5 x6 y0 σ → V l mdX12_findStores B 4 104 0 0 (ab_End (fun v σ' => Wire σ' ∧ v = none ∧ Q σ') (fun X σ' => Wire σ' ∧ E X σ')) 133 [(0, .ref 92), (1, .int x1), (2, .int x2), (3, .int x3), (5, .int x5), (6, .int x6)] [.int y0] σ := by
                    intro x1 x2 x3 x5 x6 y0  σ hW h
                    refine V_istore 75 (lv' := [(4, .int y0), (0, .ref 92), (1, .int x1), (2, .int x2), (3, .int x3), (5, .int x5), (6, .int x6)]) rfl (by decide) rfl ?_
                    obtain ⟨v5, ev5⟩ : ∃ z : Int32, z = (x6 + 1) := ⟨_, rfl⟩
                    replace h := h v5 ev5
                    refine V_iinc 76 6 (v := v5) (lv' := [(6, .int v5), (4, .int y0), (0, .ref 92), (1, .int x1), (2, .int x2), (3, .int x3), (5, .int x5)]) rfl rfl ((in_1 _).trans ev5.symm) (by decide) rfl ?_
                    refine V_goto 77 (tgt := 42) rfl (by decide) ?_
                    refine V_sub [2, 3, 4, 5, 1, 6, 0] (lv' := [(0, .ref 92), (1, .int x1), (2, .int x2), (3, .int x3), (4, .int y0), (5, .int x5), (6, .int v5)]) rfl ?_
                    exact k_Bk x1 x2 x3 y0 x5 v5  σ hW h
                  have k_j128 : ∀ (x1 : Int32) (x2 : Int32) (x3 : Int32) (x5 : Int32) (x6 : Int32)  (σ : ab_S), Wire σ → wX12_findStores_j128 Q E K141 Bk x1 x2 x3 x5 x6 σ → V l mdX12_findStores B 4 104 0 0 (ab_End (fun v σ' => Wire σ' ∧ v = none ∧ Q σ') (fun X σ' => Wire σ' ∧ E X σ')) 128 [(0, .ref 92), (1, .int x1), (2, .int x2), (3, .int x3), (5, .int x5), (6, .int x6)] [] σ := by
                    intro x1 x2 x3 x5 x6  σ hW h
                    refine V_iconst 72 (v := (1 : Int32)) rfl (by decide) ?_
                    refine V_goto 73 (tgt := 133) rfl (by decide) ?_
                    exact k_j133 x1 x2 x3 x5 x6 (1 : Int32) σ hW h
                  have k_j132 : ∀ (x1 : Int32) (x2 : Int32) (x3 : Int32) (x5 : Int32) (x6 : Int32)  (σ : ab_S), Wire σ → wX12_findStores_j132 Q E K141 Bk x1 x2 x3 x5 x6 σ → V l mdX12_findStores B 4 104 0 0 (ab_End (fun v σ' => Wire σ' ∧ v = none ∧ Q σ') (fun X σ' => Wire σ' ∧ E X σ')) 132 [(0, .ref 92), (1, .int x1), (2, .int x2), (3, .int x3), (5, .int x5), (6, .int x6)] [] σ := by
                    intro x1 x2 x3 x5 x6  σ hW h
                    refine V_iconst 74 (v := (0 : Int32)) rfl (by decide) ?_
                    exact k_j133 x1 x2 x3 x5 x6 (0 : Int32) σ hW h
                  have k_j104 : ∀ (x1 : Int32) (x2 : Int32) (x4 : Int32) (x5 : Int32) (x6 : Int32) (x7 : Int32) (y0 : Int32)  (σ : ab_S), Wire σ → wX12_findStores_j104 Q E K141 Bk x1 x2 x4 x5 x6 x7 y0 σ → V l mdX12_findStores B 4 104 0 0 (ab_End (fun v σ' => Wire σ' ∧ v = none ∧ Q σ') (fun X σ' => Wire σ' ∧ E X σ')) 104 [(0, .ref 92), (1, .int x1), (2, .int x2), (4, .int x4), (5, .int x5), (6, .int x6), (7, .int x7)] [.int y0] σ := by
                    intro x1 x2 x4 x5 x6 x7 y0  σ hW h
                    refine V_istore_n 60 (lv' := [(3, .int y0), (0, .ref 92), (1, .int x1), (2, .int x2), (4, .int x4), (5, .int x5), (6, .int x6), (7, .int x7)]) rfl rfl (by decide) rfl ?_
                    refine V_iload 61 4 rfl rfl ?_
                    refine V_if_eq 62 (tgt := 132) rfl (by decide) (fun hc => ?_) (fun hc => ?_)
                    · replace h := h.1 hc
                      refine V_sub [1, 2, 3, 0, 5, 6] (lv' := [(0, .ref 92), (1, .int x1), (2, .int x2), (3, .int y0), (5, .int x5), (6, .int x6)]) rfl ?_
                      exact k_j132 x1 x2 y0 x5 x6 σ hW h
                    · replace h := h.2 hc
                      refine V_pc 110 rfl ?_
                      refine V_iload 63 7 rfl rfl ?_
                      refine V_if_eq 64 (tgt := 128) rfl (by decide) (fun hc => ?_) (fun hc => ?_)
                      · replace h := h.1 hc
                        refine V_sub [1, 2, 3, 0, 5, 6] (lv' := [(0, .ref 92), (1, .int x1), (2, .int x2), (3, .int y0), (5, .int x5), (6, .int x6)]) rfl ?_
                        exact k_j128 x1 x2 y0 x5 x6 σ hW h
                      · replace h := h.2 hc
                        refine V_pc 115 rfl ?_
                        refine V_aload_n 65 1 rfl rfl rfl ?_
                        refine V_iload 66 5 rfl rfl ?_
                        refine V_iload 67 6 rfl rfl ?_
                        refine V_iload_n 68 2 rfl rfl rfl ?_
                        refine V_iload_n 69 3 rfl rfl rfl ?_
                        refine V_callV 70 4 (as := [.int x5, .int x6, .int x1, .int x2]) (rest := []) rfl mlX12_480 yvX12_isAloneAt rfl rfl clX12 (wsh hW rfl) (by decide) (by decide) (Nat.le_of_ble_eq_true rfl) (by decide) (by decide) (fun B9 => ceX12_isAloneAt hl B9 hW h) (fun X9 τ9 h9 => VX_out rfl h9) ?_
                        rintro v9 σ6 ⟨hW, u7, rfl, h⟩
                        refine V_if_eq 71 (tgt := 132) rfl (by decide) (fun hc => ?_) (fun hc => ?_)
                        · replace h := h.1 hc
                          refine V_sub [1, 2, 3, 0, 5, 6] (lv' := [(0, .ref 92), (1, .int x1), (2, .int x2), (3, .int y0), (5, .int x5), (6, .int x6)]) rfl ?_
                          exact k_j132 x1 x2 y0 x5 x6 σ6 hW h
                        · replace h := h.2 hc
                          refine V_pc 128 rfl ?_
                          refine V_sub [1, 2, 3, 0, 5, 6] (lv' := [(0, .ref 92), (1, .int x1), (2, .int x2), (3, .int y0), (5, .int x5), (6, .int x6)]) rfl ?_
                          exact k_j128 x1 x2 y0 x5 x6 σ6 hW h
                  have k_j99 : ∀ (x1 : Int32) (x2 : Int32) (x4 : Int32) (x5 : Int32) (x6 : Int32) (x7 : Int32)  (σ : ab_S), Wire σ → wX12_findStores_j99 Q E K141 Bk x1 x2 x4 x5 x6 x7 σ → V l mdX12_findStores B 4 104 0 0 (ab_End (fun v σ' => Wire σ' ∧ v = none ∧ Q σ') (fun X σ' => Wire σ' ∧ E X σ')) 99 [(0, .ref 92), (1, .int x1), (2, .int x2), (4, .int x4), (5, .int x5), (6, .int x6), (7, .int x7)] [] σ := by
                    intro x1 x2 x4 x5 x6 x7  σ hW h
                    refine V_iconst 57 (v := (1 : Int32)) rfl (by decide) ?_
                    refine V_goto 58 (tgt := 104) rfl (by decide) ?_
                    exact k_j104 x1 x2 x4 x5 x6 x7 (1 : Int32) σ hW h
                  have k_j103 : ∀ (x1 : Int32) (x2 : Int32) (x4 : Int32) (x5 : Int32) (x6 : Int32) (x7 : Int32)  (σ : ab_S), Wire σ → wX12_findStores_j103 Q E K141 Bk x1 x2 x4 x5 x6 x7 σ → V l mdX12_findStores B 4 104 0 0 (ab_End (fun v σ' => Wire σ' ∧ v = none ∧ Q σ') (fun X σ' => Wire σ' ∧ E X σ')) 103 [(0, .ref 92), (1, .int x1), (2, .int x2), (4, .int x4), (5, .int x5), (6, .int x6), (7, .int x7)] [] σ := by
                    intro x1 x2 x4 x5 x6 x7  σ hW h
                    refine V_iconst 59 (v := (0 : Int32)) rfl (by decide) ?_
                    exact k_j104 x1 x2 x4 x5 x6 x7 (0 : Int32) σ hW h
                  have k_j75 : ∀ (x1 : Int32) (x2 : Int32) (x3 : Int32) (x4 : Int32) (x5 : Int32) (x6 : Int32) (y0 : Int32)  (σ : ab_S), Wire σ → wX12_findStores_j75 Q E K141 Bk x1 x2 x3 x4 x5 x6 y0 σ → V l mdX12_findStores B 4 104 0 0 (ab_End (fun v σ' => Wire σ' ∧ v = none ∧ Q σ') (fun X σ' => Wire σ' ∧ E X σ')) 75 [(0, .ref 92), (1, .int x1), (2, .int x2), (3, .int x3), (4, .int x4), (5, .int x5), (6, .int x6)] [.int y0] σ := by
                    intro x1 x2 x3 x4 x5 x6 y0  σ hW h
                    refine V_istore 45 (lv' := [(7, .int y0), (0, .ref 92), (1, .int x1), (2, .int x2), (3, .int x3), (4, .int x4), (5, .int x5), (6, .int x6)]) rfl (by decide) rfl ?_
                    refine V_iload_n 46 4 rfl rfl rfl ?_
                    refine V_if_eq 47 (tgt := 103) rfl (by decide) (fun hc => ?_) (fun hc => ?_)
                    · replace h := h.1 hc
                      refine V_sub [1, 2, 3, 5, 6, 7, 0] (lv' := [(0, .ref 92), (1, .int x1), (2, .int x2), (4, .int x4), (5, .int x5), (6, .int x6), (7, .int y0)]) rfl ?_
                      exact k_j103 x1 x2 x4 x5 x6 y0 σ hW h
                    · replace h := h.2 hc
                      refine V_pc 81 rfl ?_
                      refine V_iload 48 0 rfl rfl ?_
                      refine V_if_eq 49 (tgt := 99) rfl (by decide) (fun hc => ?_) (fun hc => ?_)
                      · replace h := h.1 hc
                        refine V_sub [1, 2, 3, 5, 6, 7, 0] (lv' := [(0, .ref 92), (1, .int x1), (2, .int x2), (4, .int x4), (5, .int x5), (6, .int x6), (7, .int y0)]) rfl ?_
                        exact k_j99 x1 x2 x4 x5 x6 y0 σ hW h
                      · replace h := h.2 hc
                        refine V_pc 86 rfl ?_
                        refine V_aload_n 50 1 rfl rfl rfl ?_
                        refine V_iload 51 6 rfl rfl ?_
                        refine V_iload 52 7 rfl rfl ?_
                        refine V_iload_n 53 2 rfl rfl rfl ?_
                        refine V_iload_n 54 3 rfl rfl rfl ?_
                        refine V_callV 55 4 (as := [.int x5, .int x6, .int x1, .int x2]) (rest := []) rfl mlX12_477 yvX12_isShortAt rfl rfl clX12 (wsh hW rfl) (by decide) (by decide) (Nat.le_of_ble_eq_true rfl) (by decide) (by decide) (fun B9 => ceX12_isShortAt hl B9 hW h) (fun X9 τ9 h9 => VX_out rfl h9) ?_
                        rintro v9 σ8 ⟨hW, u9, rfl, h⟩
                        refine V_if_eq 56 (tgt := 103) rfl (by decide) (fun hc => ?_) (fun hc => ?_)
                        · replace h := h.1 hc
                          refine V_sub [1, 2, 3, 5, 6, 7, 0] (lv' := [(0, .ref 92), (1, .int x1), (2, .int x2), (4, .int x4), (5, .int x5), (6, .int x6), (7, .int y0)]) rfl ?_
                          exact k_j103 x1 x2 x4 x5 x6 y0 σ8 hW h
                        · replace h := h.2 hc
                          refine V_pc 99 rfl ?_
                          refine V_sub [1, 2, 3, 5, 6, 7, 0] (lv' := [(0, .ref 92), (1, .int x1), (2, .int x2), (4, .int x4), (5, .int x5), (6, .int x6), (7, .int y0)]) rfl ?_
                          exact k_j99 x1 x2 x4 x5 x6 y0 σ8 hW h
                  intro x1 x2 x3 x4 x5 x6  σ hW h
                  refine V_iload 26 6 rfl rfl ?_
                  refine V_aload_n 27 0 rfl rfl rfl ?_
                  refine V_getR 28 17 rfl clX12 flX12_42 (by decide) (wsh hW rfl) (fun _ => rfl) (wrf hW 104 rfl) ?_
                  refine V_iload 29 5 rfl rfl ?_
                  obtain ⟨hin, h⟩ := h
                  refine V_iald 30 rfl (wsh hW rfl) hin ?_
                  refine V_icmp_gt 31 (tgt := 141) rfl (by decide) (fun hc => ?_) (fun hc => ?_)
                  · replace h := h.1 hc
                    refine V_sub [0, 1, 2, 3, 4, 5] (lv' := [(0, .ref 92), (1, .int x1), (2, .int x2), (3, .int x3), (4, .int x4), (5, .int x5)]) rfl ?_
                    exact k_K141 x1 x2 x3 x4 x5  σ hW h
                  · replace h := h.2 hc
                    refine V_pc 54 rfl ?_
                    refine V_aload_n 32 0 rfl rfl rfl ?_
                    refine V_getR 33 18 rfl clX12 flX12_45 (by decide) (wsh hW rfl) (fun _ => rfl) (wrf hW 105 rfl) ?_
                    refine V_iconst 34 (v := (4 : Int32)) rfl (by decide) ?_
                    refine V_iload 35 5 rfl rfl ?_
                    refine V_imul 36 rfl ?_
                    refine V_iload 37 6 rfl rfl ?_
                    refine V_pc 64 rfl ?_
                    refine V_iadd 38 rfl ?_
                    obtain ⟨hin, h⟩ := h
                    refine V_iald 39 rfl (wsh hW rfl) hin ?_
                    refine V_iload_n 40 1 rfl rfl rfl ?_
                    refine V_icmp_ne 41 (tgt := 74) rfl (by decide) (fun hc => ?_) (fun hc => ?_)
                    · replace h := h.1 hc
                      refine V_iconst 44 (v := (0 : Int32)) rfl (by decide) ?_
                      exact k_j75 x1 x2 x3 x4 x5 x6 (0 : Int32) σ hW h
                    · replace h := h.2 hc
                      refine V_pc 70 rfl ?_
                      refine V_iconst 42 (v := (1 : Int32)) rfl (by decide) ?_
                      refine V_goto 43 (tgt := 75) rfl (by decide) ?_
                      exact k_j75 x1 x2 x3 x4 x5 x6 (1 : Int32) σ hW h
                intro n
                induction n with
                | zero => intro x1 x2 x3 x4 x5 x6  σ hW h; exact absurd h id
                | succ n ih => exact step _ k_j141 _ ih
              intro x1 x2 x3 x4 x5  σ hW h
              refine V_iload 20 5 rfl rfl ?_
              refine V_aload_n 21 0 rfl rfl rfl ?_
              refine V_get (v := .int (σ.2.1 92 14)) 22 14 rfl clX12 flX12_316 (by decide) (wsh hW rfl) (fun _ => rfl) ?_
              refine V_icmp_ge 23 (tgt := 147) rfl (by decide) (fun hc => ?_) (fun hc => ?_)
              · replace h := h.1 hc
                refine V_sub [0, 1, 2, 3, 4] (lv' := [(0, .ref 92), (1, .int x1), (2, .int x2), (3, .int x3), (4, .int x4)]) rfl ?_
                exact k_K147 x1 x2 x3 x4  σ hW h
              · replace h := h.2 hc
                refine V_pc 39 rfl ?_
                refine V_iconst 24 (v := (0 : Int32)) rfl (by decide) ?_
                refine V_istore 25 (lv' := [(6, .int (0 : Int32)), (0, .ref 92), (1, .int x1), (2, .int x2), (3, .int x3), (4, .int x4), (5, .int x5)]) rfl (by decide) rfl ?_
                refine V_sub [1, 2, 3, 4, 5, 6, 0] (lv' := [(0, .ref 92), (1, .int x1), (2, .int x2), (3, .int x3), (4, .int x4), (5, .int x5), (6, .int (0 : Int32))]) rfl ?_
                obtain ⟨n, h⟩ := h
                exact k_l42 n x1 x2 x3 x4 x5 (0 : Int32) σ hW h
            intro n
            induction n with
            | zero => intro x1 x2 x3 x4 x5  σ hW h; exact absurd h id
            | succ n ih => exact step _ k_j147 _ ih
          intro x1 x2  σ hW h
          refine V_iload_n 8 2 rfl rfl rfl ?_
          refine V_aload_n 9 0 rfl rfl rfl ?_
          refine V_getR 10 12 rfl clX12 flX12_29 (by decide) (wsh hW rfl) (fun _ => rfl) (wrf hW 100 rfl) ?_
          refine V_iload_n 11 1 rfl rfl rfl ?_
          obtain ⟨hin, h⟩ := h
          refine V_iald 12 rfl (wsh hW rfl) hin ?_
          refine V_icmp_ge 13 (tgt := 186) rfl (by decide) (fun hc => ?_) (fun hc => ?_)
          · replace h := h.1 hc
            refine V_sub [0, 1] (lv' := [(0, .ref 92), (1, .int x1)]) rfl ?_
            exact k_K186 x1  σ hW h
          · replace h := h.2 hc
            refine V_pc 22 rfl ?_
            refine V_iconst 14 (v := (1 : Int32)) rfl (by decide) ?_
            refine V_istore_n 15 (lv' := [(3, .int (1 : Int32)), (0, .ref 92), (1, .int x1), (2, .int x2)]) rfl rfl (by decide) rfl ?_
            refine V_iconst 16 (v := (1 : Int32)) rfl (by decide) ?_
            refine V_istore 17 (lv' := [(4, .int (1 : Int32)), (3, .int (1 : Int32)), (0, .ref 92), (1, .int x1), (2, .int x2)]) rfl (by decide) rfl ?_
            refine V_iconst 18 (v := (0 : Int32)) rfl (by decide) ?_
            refine V_istore 19 (lv' := [(5, .int (0 : Int32)), (4, .int (1 : Int32)), (3, .int (1 : Int32)), (0, .ref 92), (1, .int x1), (2, .int x2)]) rfl (by decide) rfl ?_
            refine V_sub [3, 4, 5, 2, 1, 0] (lv' := [(0, .ref 92), (1, .int x1), (2, .int x2), (3, .int (1 : Int32)), (4, .int (1 : Int32)), (5, .int (0 : Int32))]) rfl ?_
            obtain ⟨n, h⟩ := h
            exact k_l30 n x1 x2 (1 : Int32) (1 : Int32) (0 : Int32) σ hW h
        intro n
        induction n with
        | zero => intro x1 x2  σ hW h; exact absurd h id
        | succ n ih => exact step _ k_j186 _ ih
      intro x1  σ hW h
      refine V_iload_n 2 1 rfl rfl rfl ?_
      refine V_aload_n 3 0 rfl rfl rfl ?_
      refine V_get (v := .int (σ.2.1 92 9)) 4 9 rfl clX12 flX12_306 (by decide) (wsh hW rfl) (fun _ => rfl) ?_
      refine V_icmp_ge 5 (tgt := 192) rfl (by decide) (fun hc => ?_) (fun hc => ?_)
      · replace h := h.1 hc
        exact V_vret 103 rfl rfl ⟨hW, rfl, h⟩
      · replace h := h.2 hc
        refine V_pc 10 rfl ?_
        refine V_iconst 6 (v := (0 : Int32)) rfl (by decide) ?_
        refine V_istore_n 7 (lv' := [(2, .int (0 : Int32)), (0, .ref 92), (1, .int x1)]) rfl rfl (by decide) rfl ?_
        refine V_sub [1, 2, 0] (lv' := [(0, .ref 92), (1, .int x1), (2, .int (0 : Int32))]) rfl ?_
        obtain ⟨n, h⟩ := h
        exact k_l12 n x1 (0 : Int32) σ hW h
    intro n
    induction n with
    | zero => intro x1  σ hW h; exact absurd h id
    | succ n ih => exact step  _ ih
  intro σ hW h
  refine V_iconst 0 (v := (0 : Int32)) rfl (by decide) ?_
  refine V_istore_n 1 (lv' := [(1, .int (0 : Int32)), (0, .ref 92)]) rfl rfl (by decide) rfl ?_
  refine V_sub [1, 0] (lv' := [(0, .ref 92), (1, .int (0 : Int32))]) rfl ?_
  obtain ⟨n, h⟩ := h
  exact k_l2 n (0 : Int32) σ hW h

def wX12_write (a0 : Int32) (a1 : Int32) (Q : ab_S → Prop) (E : String → ab_S → Prop) (σ : ab_S) : Prop := vp_in (σ.2.1 92 74) 7000 ∧ (∀ σ1 : ab_S, σ1 = ab_I σ 146 (σ.2.1 92 74).toNatClampNeg a0 → vp_in (σ1.2.1 92 74) 7000 ∧ (∀ σ2 : ab_S, σ2 = ab_I σ1 147 (σ1.2.1 92 74).toNatClampNeg a1 → (∀ σ3 : ab_S, σ3 = ab_I σ2 92 74 ((σ2.2.1 92 74) + (1 : Int32)) → Q σ3)))
set_option maxHeartbeats 4000000 in
set_option maxRecDepth 100000 in
theorem ceX12_write {l : Launch} (hl : l.stackTraces = false) (B : Nat) {a0 : Int32} {a1 : Int32}  {Q : ab_S → Prop} {E : String → ab_S → Prop} {σ : ab_S} (hW : Wire σ) (h : wX12_write a0 a1 Q E σ) : ab_Mt l yX12_write mdX12_write B 0 0 0 0 [.ref 92, .int a0, .int a1] σ (fun v σ' => Wire σ' ∧ v = none ∧ Q σ') (fun X σ' => Wire σ' ∧ E X σ') := by
  refine V_met hl ⟨rfl, rfl, by decide⟩ rfl dkX12_write (Nat.le_of_ble_eq_true rfl) ?_
  show V l mdX12_write B 0 0 0 0 (ab_End _ _) 0 [(0, .ref 92), (1, .int a0), (2, .int a1)] [] σ
  refine V_aload_n 0 0 rfl rfl rfl ?_
  refine V_getR 1 75 rfl clX12 flX12_171 (by decide) (wsh hW rfl) (fun _ => rfl) (wrf hW 147 rfl) ?_
  refine V_aload_n 2 0 rfl rfl rfl ?_
  refine V_get (v := .int (σ.2.1 92 74)) 3 74 rfl clX12 flX12_551 (by decide) (wsh hW rfl) (fun _ => rfl) ?_
  refine V_iload_n 4 1 rfl rfl rfl ?_
  obtain ⟨hin, h⟩ := h
  refine V_iast 5 rfl (wsh hW rfl) hin ?_
  refine V_nm (fun σ1 eσ1 => ?_)
  replace h := h σ1 eσ1
  have hW := wire_I eσ1 hW
  refine V_pc 10 rfl ?_
  refine V_aload_n 6 0 rfl rfl rfl ?_
  refine V_getR 7 76 rfl clX12 flX12_174 (by decide) (wsh hW rfl) (fun _ => rfl) (wrf hW 148 rfl) ?_
  refine V_aload_n 8 0 rfl rfl rfl ?_
  refine V_get (v := .int (σ1.2.1 92 74)) 9 74 rfl clX12 flX12_551 (by decide) (wsh hW rfl) (fun _ => rfl) ?_
  refine V_iload_n 10 2 rfl rfl rfl ?_
  obtain ⟨hin, h⟩ := h
  refine V_iast 11 rfl (wsh hW rfl) hin ?_
  refine V_nm (fun σ2 eσ2 => ?_)
  replace h := h σ2 eσ2
  have hW := wire_I eσ2 hW
  refine V_pc 20 rfl ?_
  refine V_aload_n 12 0 rfl rfl rfl ?_
  refine V_dup 13 rfl rfl ?_
  refine V_get (v := .int (σ2.2.1 92 74)) 14 74 rfl clX12 flX12_551 (by decide) (wsh hW rfl) (fun _ => rfl) ?_
  refine V_iconst 15 (v := (1 : Int32)) rfl (by decide) ?_
  refine V_iadd 16 rfl ?_
  refine V_putI 17 74 rfl clX12 flX12_551 (by decide) (wsh hW rfl) rfl (fun _ _ => rfl) rfl rfl ?_
  refine V_nm (fun σ3 eσ3 => ?_)
  replace h := h σ3 eσ3
  have hW := wire_I eσ3 hW
  exact V_vret 18 rfl rfl ⟨hW, rfl, h⟩

def wX12_findParts_j168 (a0 : Int32) (a1 : Int32) (Q : ab_S → Prop) (E : String → ab_S → Prop) (Bk : Int32 → ab_S → Prop) (x3 : Int32) (σ : ab_S) : Prop := ∀ v1 : Int32, v1 = (x3 + 1) → Bk v1 σ
def wX12_findParts_j63 (a0 : Int32) (a1 : Int32) (Q : ab_S → Prop) (E : String → ab_S → Prop) (Bk : Int32 → ab_S → Prop) (x3 : Int32) (σ : ab_S) : Prop := vp_in x3 2500 ∧ (∀ σ2 : ab_S, σ2 = ab_I σ 149 x3.toNatClampNeg x3 → wX12_findParts_j168 a0 a1 Q E Bk x3 σ2)
def wX12_findParts_l29_b (a0 : Int32) (a1 : Int32) (Q : ab_S → Prop) (E : String → ab_S → Prop) (Bk : Int32 → ab_S → Prop) (x3 : Int32) (σ : ab_S) : Prop := ((a1 ≤ x3) → Q σ) ∧ (¬ (a1 ≤ x3) → vp_in x3 2500 ∧ (∀ v3 : Int32, v3 = (σ.2.1 107 x3.toNatClampNeg) → ((v3 = (40 : Int32)) → wX12_findParts_j63 a0 a1 Q E Bk x3 σ) ∧ (¬ (v3 = (40 : Int32)) → ((v3 = (41 : Int32)) → wX12_findParts_j63 a0 a1 Q E Bk x3 σ) ∧ (¬ (v3 = (41 : Int32)) → ((¬ v3 = (50 : Int32)) → ((¬ v3 = (30 : Int32)) → vp_in (x3 - (1 : Int32)) 2500 ∧ (∀ v4 : Int32, v4 = (σ.2.1 149 (x3 - (1 : Int32)).toNatClampNeg) → vp_in (v4 - (1 : Int32)) 2500 ∧ (vp_in x3 2500 ∧ (∀ σ5 : ab_S, σ5 = ab_I σ 149 x3.toNatClampNeg (σ.2.1 149 (v4 - (1 : Int32)).toNatClampNeg) → ((¬ v3 = (31 : Int32)) → wX12_findParts_j168 a0 a1 Q E Bk x3 σ5) ∧ (¬ (¬ v3 = (31 : Int32)) → vp_in v4 2500 ∧ (∀ σ6 : ab_S, σ6 = ab_I σ5 151 v4.toNatClampNeg x3 → vp_in x3 2500 ∧ (vp_in (σ6.2.1 149 x3.toNatClampNeg) 2500 ∧ (∀ σ7 : ab_S, σ7 = ab_I σ6 150 (σ6.2.1 149 x3.toNatClampNeg).toNatClampNeg x3 → vp_in x3 2500 ∧ (vp_in ((σ7.2.1 149 x3.toNatClampNeg) - (1 : Int32)) 2500 ∧ (vp_in x3 2500 ∧ (∀ σ8 : ab_S, σ8 = ab_I σ7 149 x3.toNatClampNeg (σ7.2.1 149 ((σ7.2.1 149 x3.toNatClampNeg) - (1 : Int32)).toNatClampNeg) → wX12_findParts_j168 a0 a1 Q E Bk x3 σ8))))))))))) ∧ (¬ (¬ v3 = (30 : Int32)) → vp_in (x3 - (1 : Int32)) 2500 ∧ (vp_in x3 2500 ∧ (∀ σ9 : ab_S, σ9 = ab_I σ 149 x3.toNatClampNeg (σ.2.1 149 (x3 - (1 : Int32)).toNatClampNeg) → wX12_findParts_j168 a0 a1 Q E Bk x3 σ9)))) ∧ (¬ (¬ v3 = (50 : Int32)) → wX12_findParts_j63 a0 a1 Q E Bk x3 σ)))))
def wX12_findParts_l29 (a0 : Int32) (a1 : Int32) (Q : ab_S → Prop) (E : String → ab_S → Prop) : Nat → Int32 → ab_S → Prop
  | 0, _, _ => False
  | n + 1, x3, σ => wX12_findParts_l29_b a0 a1 Q E (wX12_findParts_l29 a0 a1 Q E n) x3 σ
def wX12_findParts_j27 (a0 : Int32) (a1 : Int32) (Q : ab_S → Prop) (E : String → ab_S → Prop)  (σ : ab_S) : Prop := ∃ n, wX12_findParts_l29 a0 a1 Q E n a0 σ
def wX12_findParts_l2_b (a0 : Int32) (a1 : Int32) (Q : ab_S → Prop) (E : String → ab_S → Prop) (K27 : ab_S → Prop) (Bk : Int32 → ab_S → Prop) (x3 : Int32) (σ : ab_S) : Prop := ((a1 ≤ x3) → K27 σ) ∧ (¬ (a1 ≤ x3) → vp_in x3 2500 ∧ (∀ σ10 : ab_S, σ10 = ab_I σ 150 x3.toNatClampNeg (-1 : Int32) → vp_in x3 2500 ∧ (∀ σ11 : ab_S, σ11 = ab_I σ10 151 x3.toNatClampNeg (-1 : Int32) → ∀ v12 : Int32, v12 = (x3 + 1) → Bk v12 σ11)))
def wX12_findParts_l2 (a0 : Int32) (a1 : Int32) (Q : ab_S → Prop) (E : String → ab_S → Prop) (K27 : ab_S → Prop) : Nat → Int32 → ab_S → Prop
  | 0, _, _ => False
  | n + 1, x3, σ => wX12_findParts_l2_b a0 a1 Q E K27 (wX12_findParts_l2 a0 a1 Q E K27 n) x3 σ
def wX12_findParts (a0 : Int32) (a1 : Int32) (Q : ab_S → Prop) (E : String → ab_S → Prop) (σ : ab_S) : Prop := ∃ n, wX12_findParts_l2 a0 a1 Q E (wX12_findParts_j27 a0 a1 Q E) n a0 σ
set_option maxHeartbeats 4000000 in
set_option maxRecDepth 100000 in
theorem ceX12_findParts {l : Launch} (hl : l.stackTraces = false) (B : Nat) {a0 : Int32} {a1 : Int32}  {Q : ab_S → Prop} {E : String → ab_S → Prop} {σ : ab_S} (hW : Wire σ) (h : wX12_findParts a0 a1 Q E σ) : ab_Mt l yX12_findParts mdX12_findParts B 0 0 0 0 [.ref 92, .int a0, .int a1] σ (fun v σ' => Wire σ' ∧ v = none ∧ Q σ') (fun X σ' => Wire σ' ∧ E X σ') := by
  refine V_met hl ⟨rfl, rfl, by decide⟩ rfl dkX12_findParts (Nat.le_of_ble_eq_true rfl) ?_
  show V l mdX12_findParts B 0 0 0 0 (ab_End _ _) 0 [(0, .ref 92), (1, .int a0), (2, .int a1)] [] σ
  revert h hW
  revert σ
  have k_l29 : ∀ (n : Nat) (x3 : Int32)  (σ : ab_S), Wire σ → wX12_findParts_l29 a0 a1 Q E n x3 σ → V l mdX12_findParts B 0 0 0 0 (ab_End (fun v σ' => Wire σ' ∧ v = none ∧ Q σ') (fun X σ' => Wire σ' ∧ E X σ')) 29 [(0, .ref 92), (2, .int a1), (3, .int x3)] [] σ := by
    have step : ∀ (Bk : Int32 → ab_S → Prop) (k_Bk : ∀ (x3 : Int32)  (σ : ab_S), Wire σ → Bk x3 σ → V l mdX12_findParts B 0 0 0 0 (ab_End (fun v σ' => Wire σ' ∧ v = none ∧ Q σ') (fun X σ' => Wire σ' ∧ E X σ')) 29 [(0, .ref 92), (2, .int a1), (3, .int x3)] [] σ), ∀ (x3 : Int32)  (σ : ab_S), Wire σ → wX12_findParts_l29_b a0 a1 Q E Bk x3 σ → V l mdX12_findParts B 0 0 0 0 (ab_End (fun v σ' => Wire σ' ∧ v = none ∧ Q σ') (fun X σ' => Wire σ' ∧ E X σ')) 29 [(0, .ref 92), (2, .int a1), (3, .int x3)] [] σ := by
      intro Bk k_Bk
      have k_j168 : ∀ (x3 : Int32)  (σ : ab_S), Wire σ → wX12_findParts_j168 a0 a1 Q E Bk x3 σ → V l mdX12_findParts B 0 0 0 0 (ab_End (fun v σ' => Wire σ' ∧ v = none ∧ Q σ') (fun X σ' => Wire σ' ∧ E X σ')) 168 [(0, .ref 92), (2, .int a1), (3, .int x3)] [] σ := by
        intro x3  σ hW h
        obtain ⟨v1, ev1⟩ : ∃ z : Int32, z = (x3 + 1) := ⟨_, rfl⟩
        replace h := h v1 ev1
        refine V_iinc 102 2 (v := v1) (lv' := [(3, .int v1), (0, .ref 92), (2, .int a1)]) rfl rfl ((in_1 _).trans ev1.symm) (by decide) rfl ?_
        refine V_goto 103 (tgt := 29) rfl (by decide) ?_
        refine V_sub [1, 2, 0] (lv' := [(0, .ref 92), (2, .int a1), (3, .int v1)]) rfl ?_
        exact k_Bk v1  σ hW h
      have k_j63 : ∀ (x3 : Int32)  (σ : ab_S), Wire σ → wX12_findParts_j63 a0 a1 Q E Bk x3 σ → V l mdX12_findParts B 0 0 0 0 (ab_End (fun v σ' => Wire σ' ∧ v = none ∧ Q σ') (fun X σ' => Wire σ' ∧ E X σ')) 63 [(0, .ref 92), (2, .int a1), (3, .int x3)] [] σ := by
        intro x3  σ hW h
        refine V_aload_n 36 0 rfl rfl rfl ?_
        refine V_getR 37 78 rfl clX12 flX12_180 (by decide) (wsh hW rfl) (fun _ => rfl) (wrf hW 150 rfl) ?_
        refine V_iload_n 38 2 rfl rfl rfl ?_
        refine V_iload_n 39 2 rfl rfl rfl ?_
        obtain ⟨hin, h⟩ := h
        refine V_iast 40 rfl (wsh hW rfl) hin ?_
        refine V_nm (fun σ2 eσ2 => ?_)
        replace h := h σ2 eσ2
        have hW := wire_I eσ2 hW
        refine V_goto 41 (tgt := 168) rfl (by decide) ?_
        exact k_j168 x3 σ2 hW h
      intro x3  σ hW h
      refine V_iload_n 19 2 rfl rfl rfl ?_
      refine V_iload_n 20 1 rfl rfl rfl ?_
      refine V_icmp_ge 21 (tgt := 174) rfl (by decide) (fun hc => ?_) (fun hc => ?_)
      · replace h := h.1 hc
        exact V_vret 104 rfl rfl ⟨hW, rfl, h⟩
      · replace h := h.2 hc
        refine V_pc 34 rfl ?_
        refine V_aload_n 22 0 rfl rfl rfl ?_
        refine V_getR 23 22 rfl clX12 flX12_54 (by decide) (wsh hW rfl) (fun _ => rfl) (wrf hW 108 rfl) ?_
        refine V_iload_n 24 2 rfl rfl rfl ?_
        obtain ⟨hin, h⟩ := h
        refine V_iald 25 rfl (wsh hW rfl) hin ?_
        refine V_topi (fun v3 ev3 => ?_)
        replace h := h v3 ev3
        refine V_istore 26 (lv' := [(4, .int v3), (0, .ref 92), (2, .int a1), (3, .int x3)]) rfl (by decide) rfl ?_
        refine V_iload 27 0 rfl rfl ?_
        refine V_pc 44 rfl ?_
        refine V_bipush 28 (v := (40 : Int32)) rfl (by decide) ?_
        refine V_icmp_eq 29 (tgt := 63) rfl (by decide) (fun hc => ?_) (fun hc => ?_)
        · replace h := h.1 hc
          refine V_sub [1, 2, 3] (lv' := [(0, .ref 92), (2, .int a1), (3, .int x3)]) rfl ?_
          exact k_j63 x3 σ hW h
        · replace h := h.2 hc
          refine V_pc 49 rfl ?_
          refine V_iload 30 0 rfl rfl ?_
          refine V_bipush 31 (v := (41 : Int32)) rfl (by decide) ?_
          refine V_icmp_eq 32 (tgt := 63) rfl (by decide) (fun hc => ?_) (fun hc => ?_)
          · replace h := h.1 hc
            refine V_sub [1, 2, 3] (lv' := [(0, .ref 92), (2, .int a1), (3, .int x3)]) rfl ?_
            exact k_j63 x3 σ hW h
          · replace h := h.2 hc
            refine V_pc 56 rfl ?_
            refine V_iload 33 0 rfl rfl ?_
            refine V_bipush 34 (v := (50 : Int32)) rfl (by decide) ?_
            refine V_icmp_ne 35 (tgt := 73) rfl (by decide) (fun hc => ?_) (fun hc => ?_)
            · replace h := h.1 hc
              refine V_iload 42 0 rfl rfl ?_
              refine V_bipush 43 (v := (30 : Int32)) rfl (by decide) ?_
              refine V_icmp_ne 44 (tgt := 97) rfl (by decide) (fun hc => ?_) (fun hc => ?_)
              · replace h := h.1 hc
                refine V_aload_n 56 1 rfl rfl rfl ?_
                refine V_getR 57 78 rfl clX12 flX12_180 (by decide) (wsh hW rfl) (fun _ => rfl) (wrf hW 150 rfl) ?_
                refine V_iload_n 58 3 rfl rfl rfl ?_
                refine V_iconst 59 (v := (1 : Int32)) rfl (by decide) ?_
                refine V_isub 60 rfl ?_
                obtain ⟨hin, h⟩ := h
                refine V_iald 61 rfl (wsh hW rfl) hin ?_
                refine V_pc 105 rfl ?_
                refine V_topi (fun v4 ev4 => ?_)
                replace h := h v4 ev4
                refine V_istore 62 (lv' := [(5, .int v4), (4, .int v3), (0, .ref 92), (2, .int a1), (3, .int x3)]) rfl (by decide) rfl ?_
                refine V_aload_n 63 2 rfl rfl rfl ?_
                refine V_getR 64 78 rfl clX12 flX12_180 (by decide) (wsh hW rfl) (fun _ => rfl) (wrf hW 150 rfl) ?_
                refine V_iload_n 65 4 rfl rfl rfl ?_
                refine V_aload_n 66 2 rfl rfl rfl ?_
                refine V_getR 67 78 rfl clX12 flX12_180 (by decide) (wsh hW rfl) (fun _ => rfl) (wrf hW 150 rfl) ?_
                refine V_pc 116 rfl ?_
                refine V_iload 68 0 rfl rfl ?_
                refine V_iconst 69 (v := (1 : Int32)) rfl (by decide) ?_
                refine V_isub 70 rfl ?_
                obtain ⟨hin, h⟩ := h
                refine V_iald 71 rfl (wsh hW rfl) hin ?_
                obtain ⟨hin, h⟩ := h
                refine V_iast 72 rfl (wsh hW rfl) hin ?_
                refine V_nm (fun σ5 eσ5 => ?_)
                replace h := h σ5 eσ5
                have hW := wire_I eσ5 hW
                refine V_iload 73 1 rfl rfl ?_
                refine V_pc 124 rfl ?_
                refine V_bipush 74 (v := (31 : Int32)) rfl (by decide) ?_
                refine V_icmp_ne 75 (tgt := 168) rfl (by decide) (fun hc => ?_) (fun hc => ?_)
                · replace h := h.1 hc
                  refine V_sub [2, 3, 4] (lv' := [(0, .ref 92), (2, .int a1), (3, .int x3)]) rfl ?_
                  exact k_j168 x3 σ5 hW h
                · replace h := h.2 hc
                  refine V_pc 129 rfl ?_
                  refine V_aload_n 76 2 rfl rfl rfl ?_
                  refine V_getR 77 80 rfl clX12 flX12_186 (by decide) (wsh hW rfl) (fun _ => rfl) (wrf hW 152 rfl) ?_
                  refine V_iload 78 0 rfl rfl ?_
                  refine V_iload_n 79 4 rfl rfl rfl ?_
                  obtain ⟨hin, h⟩ := h
                  refine V_iast 80 rfl (wsh hW rfl) hin ?_
                  refine V_nm (fun σ6 eσ6 => ?_)
                  replace h := h σ6 eσ6
                  have hW := wire_I eσ6 hW
                  refine V_aload_n 81 2 rfl rfl rfl ?_
                  refine V_pc 138 rfl ?_
                  refine V_getR 82 79 rfl clX12 flX12_183 (by decide) (wsh hW rfl) (fun _ => rfl) (wrf hW 151 rfl) ?_
                  refine V_aload_n 83 2 rfl rfl rfl ?_
                  refine V_getR 84 78 rfl clX12 flX12_180 (by decide) (wsh hW rfl) (fun _ => rfl) (wrf hW 150 rfl) ?_
                  refine V_iload_n 85 4 rfl rfl rfl ?_
                  obtain ⟨hin, h⟩ := h
                  refine V_iald 86 rfl (wsh hW rfl) hin ?_
                  refine V_iload_n 87 4 rfl rfl rfl ?_
                  refine V_pc 148 rfl ?_
                  obtain ⟨hin, h⟩ := h
                  refine V_iast 88 rfl (wsh hW rfl) hin ?_
                  refine V_nm (fun σ7 eσ7 => ?_)
                  replace h := h σ7 eσ7
                  have hW := wire_I eσ7 hW
                  refine V_aload_n 89 2 rfl rfl rfl ?_
                  refine V_getR 90 78 rfl clX12 flX12_180 (by decide) (wsh hW rfl) (fun _ => rfl) (wrf hW 150 rfl) ?_
                  refine V_iload_n 91 4 rfl rfl rfl ?_
                  refine V_aload_n 92 2 rfl rfl rfl ?_
                  refine V_getR 93 78 rfl clX12 flX12_180 (by decide) (wsh hW rfl) (fun _ => rfl) (wrf hW 150 rfl) ?_
                  refine V_pc 158 rfl ?_
                  refine V_aload_n 94 2 rfl rfl rfl ?_
                  refine V_getR 95 78 rfl clX12 flX12_180 (by decide) (wsh hW rfl) (fun _ => rfl) (wrf hW 150 rfl) ?_
                  refine V_iload_n 96 4 rfl rfl rfl ?_
                  obtain ⟨hin, h⟩ := h
                  refine V_iald 97 rfl (wsh hW rfl) hin ?_
                  refine V_iconst 98 (v := (1 : Int32)) rfl (by decide) ?_
                  refine V_isub 99 rfl ?_
                  refine V_pc 166 rfl ?_
                  obtain ⟨hin, h⟩ := h
                  refine V_iald 100 rfl (wsh hW rfl) hin ?_
                  obtain ⟨hin, h⟩ := h
                  refine V_iast 101 rfl (wsh hW rfl) hin ?_
                  refine V_nm (fun σ8 eσ8 => ?_)
                  replace h := h σ8 eσ8
                  have hW := wire_I eσ8 hW
                  refine V_sub [2, 3, 4] (lv' := [(0, .ref 92), (2, .int a1), (3, .int x3)]) rfl ?_
                  exact k_j168 x3 σ8 hW h
              · replace h := h.2 hc
                refine V_pc 80 rfl ?_
                refine V_aload_n 45 1 rfl rfl rfl ?_
                refine V_getR 46 78 rfl clX12 flX12_180 (by decide) (wsh hW rfl) (fun _ => rfl) (wrf hW 150 rfl) ?_
                refine V_iload_n 47 3 rfl rfl rfl ?_
                refine V_aload_n 48 1 rfl rfl rfl ?_
                refine V_getR 49 78 rfl clX12 flX12_180 (by decide) (wsh hW rfl) (fun _ => rfl) (wrf hW 150 rfl) ?_
                refine V_iload_n 50 3 rfl rfl rfl ?_
                refine V_pc 90 rfl ?_
                refine V_iconst 51 (v := (1 : Int32)) rfl (by decide) ?_
                refine V_isub 52 rfl ?_
                obtain ⟨hin, h⟩ := h
                refine V_iald 53 rfl (wsh hW rfl) hin ?_
                obtain ⟨hin, h⟩ := h
                refine V_iast 54 rfl (wsh hW rfl) hin ?_
                refine V_nm (fun σ9 eσ9 => ?_)
                replace h := h σ9 eσ9
                have hW := wire_I eσ9 hW
                refine V_goto 55 (tgt := 168) rfl (by decide) ?_
                refine V_sub [1, 2, 3] (lv' := [(0, .ref 92), (2, .int a1), (3, .int x3)]) rfl ?_
                exact k_j168 x3 σ9 hW h
            · replace h := h.2 hc
              refine V_pc 63 rfl ?_
              refine V_sub [1, 2, 3] (lv' := [(0, .ref 92), (2, .int a1), (3, .int x3)]) rfl ?_
              exact k_j63 x3 σ hW h
    intro n
    induction n with
    | zero => intro x3  σ hW h; exact absurd h id
    | succ n ih => exact step  _ ih
  have k_j27 : ∀   (σ : ab_S), Wire σ → wX12_findParts_j27 a0 a1 Q E  σ → V l mdX12_findParts B 0 0 0 0 (ab_End (fun v σ' => Wire σ' ∧ v = none ∧ Q σ') (fun X σ' => Wire σ' ∧ E X σ')) 27 [(0, .ref 92), (1, .int a0), (2, .int a1)] [] σ := by
    intro   σ hW h
    refine V_iload_n 17 1 rfl rfl rfl ?_
    refine V_istore_n 18 (lv' := [(3, .int a0), (0, .ref 92), (1, .int a0), (2, .int a1)]) rfl rfl (by decide) rfl ?_
    refine V_sub [1, 3, 0] (lv' := [(0, .ref 92), (2, .int a1), (3, .int a0)]) rfl ?_
    obtain ⟨n, h⟩ := h
    exact k_l29 n a0 σ hW h
  have k_l2 : ∀ (n : Nat) (x3 : Int32)  (σ : ab_S), Wire σ → wX12_findParts_l2 a0 a1 Q E (wX12_findParts_j27 a0 a1 Q E) n x3 σ → V l mdX12_findParts B 0 0 0 0 (ab_End (fun v σ' => Wire σ' ∧ v = none ∧ Q σ') (fun X σ' => Wire σ' ∧ E X σ')) 2 [(0, .ref 92), (1, .int a0), (2, .int a1), (3, .int x3)] [] σ := by
    have step : ∀ (K27 : ab_S → Prop) (k_K27 : ∀   (σ : ab_S), Wire σ → K27  σ → V l mdX12_findParts B 0 0 0 0 (ab_End (fun v σ' => Wire σ' ∧ v = none ∧ Q σ') (fun X σ' => Wire σ' ∧ E X σ')) 27 [(0, .ref 92), (1, .int a0), (2, .int a1)] [] σ), ∀ (Bk : Int32 → ab_S → Prop) (k_Bk : ∀ (x3 : Int32)  (σ : ab_S), Wire σ → Bk x3 σ → V l mdX12_findParts B 0 0 0 0 (ab_End (fun v σ' => Wire σ' ∧ v = none ∧ Q σ') (fun X σ' => Wire σ' ∧ E X σ')) 2 [(0, .ref 92), (1, .int a0), (2, .int a1), (3, .int x3)] [] σ), ∀ (x3 : Int32)  (σ : ab_S), Wire σ → wX12_findParts_l2_b a0 a1 Q E K27 Bk x3 σ → V l mdX12_findParts B 0 0 0 0 (ab_End (fun v σ' => Wire σ' ∧ v = none ∧ Q σ') (fun X σ' => Wire σ' ∧ E X σ')) 2 [(0, .ref 92), (1, .int a0), (2, .int a1), (3, .int x3)] [] σ := by
      intro K27 k_K27 Bk k_Bk
      intro x3  σ hW h
      refine V_iload_n 2 3 rfl rfl rfl ?_
      refine V_iload_n 3 2 rfl rfl rfl ?_
      refine V_icmp_ge 4 (tgt := 27) rfl (by decide) (fun hc => ?_) (fun hc => ?_)
      · replace h := h.1 hc
        refine V_sub [0, 1, 2] (lv' := [(0, .ref 92), (1, .int a0), (2, .int a1)]) rfl ?_
        exact k_K27  σ hW h
      · replace h := h.2 hc
        refine V_pc 7 rfl ?_
        refine V_aload_n 5 0 rfl rfl rfl ?_
        refine V_getR 6 79 rfl clX12 flX12_183 (by decide) (wsh hW rfl) (fun _ => rfl) (wrf hW 151 rfl) ?_
        refine V_iload_n 7 3 rfl rfl rfl ?_
        refine V_iconst 8 (v := (-1 : Int32)) rfl (by decide) ?_
        obtain ⟨hin, h⟩ := h
        refine V_iast 9 rfl (wsh hW rfl) hin ?_
        refine V_nm (fun σ10 eσ10 => ?_)
        replace h := h σ10 eσ10
        have hW := wire_I eσ10 hW
        refine V_aload_n 10 0 rfl rfl rfl ?_
        refine V_pc 15 rfl ?_
        refine V_getR 11 80 rfl clX12 flX12_186 (by decide) (wsh hW rfl) (fun _ => rfl) (wrf hW 152 rfl) ?_
        refine V_iload_n 12 3 rfl rfl rfl ?_
        refine V_iconst 13 (v := (-1 : Int32)) rfl (by decide) ?_
        obtain ⟨hin, h⟩ := h
        refine V_iast 14 rfl (wsh hW rfl) hin ?_
        refine V_nm (fun σ11 eσ11 => ?_)
        replace h := h σ11 eσ11
        have hW := wire_I eσ11 hW
        obtain ⟨v12, ev12⟩ : ∃ z : Int32, z = (x3 + 1) := ⟨_, rfl⟩
        replace h := h v12 ev12
        refine V_iinc 15 3 (v := v12) (lv' := [(3, .int v12), (0, .ref 92), (1, .int a0), (2, .int a1)]) rfl rfl ((in_1 _).trans ev12.symm) (by decide) rfl ?_
        refine V_goto 16 (tgt := 2) rfl (by decide) ?_
        refine V_sub [1, 2, 3, 0] (lv' := [(0, .ref 92), (1, .int a0), (2, .int a1), (3, .int v12)]) rfl ?_
        exact k_Bk v12  σ11 hW h
    intro n
    induction n with
    | zero => intro x3  σ hW h; exact absurd h id
    | succ n ih => exact step _ k_j27 _ ih
  intro σ hW h
  refine V_iload_n 0 1 rfl rfl rfl ?_
  refine V_istore_n 1 (lv' := [(3, .int a0), (0, .ref 92), (1, .int a0), (2, .int a1)]) rfl rfl (by decide) rfl ?_
  refine V_sub [1, 2, 3, 0] (lv' := [(0, .ref 92), (1, .int a0), (2, .int a1), (3, .int a0)]) rfl ?_
  obtain ⟨n, h⟩ := h
  exact k_l2 n a0 σ hW h

def wX12_storeAt (a0 : Int32) (a1 : Int32) (Q : Int32 → ab_S → Prop) (E : String → ab_S → Prop) (σ : ab_S) : Prop := vp_in (((4 : Int32) * a0) + (a1 / (8 : Int32))) 124 ∧ (vp_in (((8 : Int32) * (σ.2.1 104 (((4 : Int32) * a0) + (a1 / (8 : Int32))).toNatClampNeg)) + (a1 - a1 / (8 : Int32) * (8 : Int32))) 104 ∧ (Q (σ.2.1 123 (((8 : Int32) * (σ.2.1 104 (((4 : Int32) * a0) + (a1 / (8 : Int32))).toNatClampNeg)) + (a1 - a1 / (8 : Int32) * (8 : Int32))).toNatClampNeg) σ))
set_option maxHeartbeats 4000000 in
set_option maxRecDepth 100000 in
theorem ceX12_storeAt {l : Launch} (hl : l.stackTraces = false) (B : Nat) {a0 : Int32} {a1 : Int32}  {Q : Int32 → ab_S → Prop} {E : String → ab_S → Prop} {σ : ab_S} (hW : Wire σ) (h : wX12_storeAt a0 a1 Q E σ) : ab_Mt l yX12_storeAt mdX12_storeAt B 0 0 0 0 [.ref 92, .int a0, .int a1] σ (fun v σ' => Wire σ' ∧ ∃ r : Int32, v = some (.int r) ∧ Q r σ') (fun X σ' => Wire σ' ∧ E X σ') := by
  refine V_met hl ⟨rfl, rfl, by decide⟩ rfl dkX12_storeAt (Nat.le_of_ble_eq_true rfl) ?_
  show V l mdX12_storeAt B 0 0 0 0 (ab_End _ _) 0 [(0, .ref 92), (1, .int a0), (2, .int a1)] [] σ
  refine V_aload_n 0 0 rfl rfl rfl ?_
  refine V_getR 1 39 rfl clX12 flX12_102 (by decide) (wsh hW rfl) (fun _ => rfl) (wrf hW 124 rfl) ?_
  refine V_bipush 2 (v := (8 : Int32)) rfl (by decide) ?_
  refine V_aload_n 3 0 rfl rfl rfl ?_
  refine V_getR 4 18 rfl clX12 flX12_45 (by decide) (wsh hW rfl) (fun _ => rfl) (wrf hW 105 rfl) ?_
  refine V_iconst 5 (v := (4 : Int32)) rfl (by decide) ?_
  refine V_pc 11 rfl ?_
  refine V_iload_n 6 1 rfl rfl rfl ?_
  refine V_imul 7 rfl ?_
  refine V_iload_n 8 2 rfl rfl rfl ?_
  refine V_bipush 9 (v := (8 : Int32)) rfl (by decide) ?_
  refine V_idiv 10 rfl (by decide) ?_
  refine V_iadd 11 rfl ?_
  refine V_pc 18 rfl ?_
  obtain ⟨hin, h⟩ := h
  refine V_iald 12 rfl (wsh hW rfl) hin ?_
  refine V_imul 13 rfl ?_
  refine V_iload_n 14 2 rfl rfl rfl ?_
  refine V_bipush 15 (v := (8 : Int32)) rfl (by decide) ?_
  refine V_irem 16 rfl (by decide) ?_
  refine V_iadd 17 rfl ?_
  refine V_pc 25 rfl ?_
  obtain ⟨hin, h⟩ := h
  refine V_iald 18 rfl (wsh hW rfl) hin ?_
  exact V_iret 19 rfl rfl ⟨hW, _, rfl, h⟩

def wX12_storedBelow_j37 (a0 : Int32) (a1 : Int32) (a2 : Int32) (Q : Int32 → ab_S → Prop) (E : String → ab_S → Prop) (Bk : Int32 → Int32 → ab_S → Prop) (x5 : Int32) (y0 : Int32) (σ : ab_S) : Prop := ∀ v1 : Int32, v1 = (x5 + 1) → Bk y0 v1 σ
def wX12_storedBelow_l6_b (a0 : Int32) (a1 : Int32) (a2 : Int32) (Q : Int32 → ab_S → Prop) (E : String → ab_S → Prop) (Bk : Int32 → Int32 → ab_S → Prop) (x4 : Int32) (x5 : Int32) (σ : ab_S) : Prop := ((a1 ≤ x5) → Q x4 σ) ∧ (¬ (a1 ≤ x5) → vp_in (((8 : Int32) * a0) + x5) 104 ∧ (((¬ (σ.2.1 123 (((8 : Int32) * a0) + x5).toNatClampNeg) = a2) → wX12_storedBelow_j37 a0 a1 a2 Q E Bk x5 x4 σ) ∧ (¬ (¬ (σ.2.1 123 (((8 : Int32) * a0) + x5).toNatClampNeg) = a2) → wX12_storedBelow_j37 a0 a1 a2 Q E Bk x5 (x4 + (1 : Int32)) σ)))
def wX12_storedBelow_l6 (a0 : Int32) (a1 : Int32) (a2 : Int32) (Q : Int32 → ab_S → Prop) (E : String → ab_S → Prop) : Nat → Int32 → Int32 → ab_S → Prop
  | 0, _, _, _ => False
  | n + 1, x4, x5, σ => wX12_storedBelow_l6_b a0 a1 a2 Q E (wX12_storedBelow_l6 a0 a1 a2 Q E n) x4 x5 σ
def wX12_storedBelow (a0 : Int32) (a1 : Int32) (a2 : Int32) (Q : Int32 → ab_S → Prop) (E : String → ab_S → Prop) (σ : ab_S) : Prop := ∃ n, wX12_storedBelow_l6 a0 a1 a2 Q E n (0 : Int32) (0 : Int32) σ
set_option maxHeartbeats 4000000 in
set_option maxRecDepth 100000 in
theorem ceX12_storedBelow {l : Launch} (hl : l.stackTraces = false) (B : Nat) {a0 : Int32} {a1 : Int32} {a2 : Int32}  {Q : Int32 → ab_S → Prop} {E : String → ab_S → Prop} {σ : ab_S} (hW : Wire σ) (h : wX12_storedBelow a0 a1 a2 Q E σ) : ab_Mt l yX12_storedBelow mdX12_storedBelow B 0 0 0 0 [.ref 92, .int a0, .int a1, .int a2] σ (fun v σ' => Wire σ' ∧ ∃ r : Int32, v = some (.int r) ∧ Q r σ') (fun X σ' => Wire σ' ∧ E X σ') := by
  refine V_met hl ⟨rfl, rfl, by decide⟩ rfl dkX12_storedBelow (Nat.le_of_ble_eq_true rfl) ?_
  show V l mdX12_storedBelow B 0 0 0 0 (ab_End _ _) 0 [(0, .ref 92), (1, .int a0), (2, .int a1), (3, .int a2)] [] σ
  revert h hW
  revert σ
  have k_l6 : ∀ (n : Nat) (x4 : Int32) (x5 : Int32)  (σ : ab_S), Wire σ → wX12_storedBelow_l6 a0 a1 a2 Q E n x4 x5 σ → V l mdX12_storedBelow B 0 0 0 0 (ab_End (fun v σ' => Wire σ' ∧ ∃ r : Int32, v = some (.int r) ∧ Q r σ') (fun X σ' => Wire σ' ∧ E X σ')) 6 [(0, .ref 92), (1, .int a0), (2, .int a1), (3, .int a2), (4, .int x4), (5, .int x5)] [] σ := by
    have step : ∀ (Bk : Int32 → Int32 → ab_S → Prop) (k_Bk : ∀ (x4 : Int32) (x5 : Int32)  (σ : ab_S), Wire σ → Bk x4 x5 σ → V l mdX12_storedBelow B 0 0 0 0 (ab_End (fun v σ' => Wire σ' ∧ ∃ r : Int32, v = some (.int r) ∧ Q r σ') (fun X σ' => Wire σ' ∧ E X σ')) 6 [(0, .ref 92), (1, .int a0), (2, .int a1), (3, .int a2), (4, .int x4), (5, .int x5)] [] σ), ∀ (x4 : Int32) (x5 : Int32)  (σ : ab_S), Wire σ → wX12_storedBelow_l6_b a0 a1 a2 Q E Bk x4 x5 σ → V l mdX12_storedBelow B 0 0 0 0 (ab_End (fun v σ' => Wire σ' ∧ ∃ r : Int32, v = some (.int r) ∧ Q r σ') (fun X σ' => Wire σ' ∧ E X σ')) 6 [(0, .ref 92), (1, .int a0), (2, .int a1), (3, .int a2), (4, .int x4), (5, .int x5)] [] σ := by
      intro Bk k_Bk
      have k_j37 : ∀ (x5 : Int32) (y0 : Int32)  (σ : ab_S), Wire σ → wX12_storedBelow_j37 a0 a1 a2 Q E Bk x5 y0 σ → V l mdX12_storedBelow B 0 0 0 0 (ab_End (fun v σ' => Wire σ' ∧ ∃ r : Int32, v = some (.int r) ∧ Q r σ') (fun X σ' => Wire σ' ∧ E X σ')) 37 [(0, .ref 92), (1, .int a0), (2, .int a1), (3, .int a2), (5, .int x5)] [.int y0] σ := by
        intro x5 y0  σ hW h
        refine V_istore 22 (lv' := [(4, .int y0), (0, .ref 92), (1, .int a0), (2, .int a1), (3, .int a2), (5, .int x5)]) rfl (by decide) rfl ?_
        obtain ⟨v1, ev1⟩ : ∃ z : Int32, z = (x5 + 1) := ⟨_, rfl⟩
        replace h := h v1 ev1
        refine V_iinc 23 5 (v := v1) (lv' := [(5, .int v1), (4, .int y0), (0, .ref 92), (1, .int a0), (2, .int a1), (3, .int a2)]) rfl rfl ((in_1 _).trans ev1.symm) (by decide) rfl ?_
        refine V_goto 24 (tgt := 6) rfl (by decide) ?_
        refine V_sub [2, 3, 4, 5, 1, 0] (lv' := [(0, .ref 92), (1, .int a0), (2, .int a1), (3, .int a2), (4, .int y0), (5, .int v1)]) rfl ?_
        exact k_Bk y0 v1  σ hW h
      intro x4 x5  σ hW h
      refine V_iload 4 5 rfl rfl ?_
      refine V_iload_n 5 2 rfl rfl rfl ?_
      refine V_icmp_ge 6 (tgt := 45) rfl (by decide) (fun hc => ?_) (fun hc => ?_)
      · replace h := h.1 hc
        refine V_iload 25 4 rfl rfl ?_
        exact V_iret 26 rfl rfl ⟨hW, _, rfl, h⟩
      · replace h := h.2 hc
        refine V_pc 12 rfl ?_
        refine V_aload_n 7 0 rfl rfl rfl ?_
        refine V_getR 8 39 rfl clX12 flX12_102 (by decide) (wsh hW rfl) (fun _ => rfl) (wrf hW 124 rfl) ?_
        refine V_bipush 9 (v := (8 : Int32)) rfl (by decide) ?_
        refine V_iload_n 10 1 rfl rfl rfl ?_
        refine V_imul 11 rfl ?_
        refine V_iload 12 5 rfl rfl ?_
        refine V_pc 22 rfl ?_
        refine V_iadd 13 rfl ?_
        obtain ⟨hin, h⟩ := h
        refine V_iald 14 rfl (wsh hW rfl) hin ?_
        refine V_iload_n 15 3 rfl rfl rfl ?_
        refine V_icmp_ne 16 (tgt := 35) rfl (by decide) (fun hc => ?_) (fun hc => ?_)
        · replace h := h.1 hc
          refine V_iload 21 4 rfl rfl ?_
          refine V_sub [0, 1, 2, 3, 5] (lv' := [(0, .ref 92), (1, .int a0), (2, .int a1), (3, .int a2), (5, .int x5)]) rfl ?_
          exact k_j37 x5 x4 σ hW h
        · replace h := h.2 hc
          refine V_pc 28 rfl ?_
          refine V_iload 17 4 rfl rfl ?_
          refine V_iconst 18 (v := (1 : Int32)) rfl (by decide) ?_
          refine V_iadd 19 rfl ?_
          refine V_goto 20 (tgt := 37) rfl (by decide) ?_
          refine V_sub [0, 1, 2, 3, 5] (lv' := [(0, .ref 92), (1, .int a0), (2, .int a1), (3, .int a2), (5, .int x5)]) rfl ?_
          exact k_j37 x5 (x4 + (1 : Int32)) σ hW h
    intro n
    induction n with
    | zero => intro x4 x5  σ hW h; exact absurd h id
    | succ n ih => exact step  _ ih
  intro σ hW h
  refine V_iconst 0 (v := (0 : Int32)) rfl (by decide) ?_
  refine V_istore 1 (lv' := [(4, .int (0 : Int32)), (0, .ref 92), (1, .int a0), (2, .int a1), (3, .int a2)]) rfl (by decide) rfl ?_
  refine V_iconst 2 (v := (0 : Int32)) rfl (by decide) ?_
  refine V_istore 3 (lv' := [(5, .int (0 : Int32)), (4, .int (0 : Int32)), (0, .ref 92), (1, .int a0), (2, .int a1), (3, .int a2)]) rfl (by decide) rfl ?_
  refine V_sub [2, 3, 4, 5, 1, 0] (lv' := [(0, .ref 92), (1, .int a0), (2, .int a1), (3, .int a2), (4, .int (0 : Int32)), (5, .int (0 : Int32))]) rfl ?_
  obtain ⟨n, h⟩ := h
  exact k_l6 n (0 : Int32) (0 : Int32) σ hW h

def wX12_toldBy_l107_b (a0 : Int32) (a1 : Int32) (Q : Int32 → ab_S → Prop) (E : String → ab_S → Prop) (Bk : Int32 → Int32 → Int32 → Int32 → ab_S → Prop) (x3 : Int32) (x6 : Int32) (x7 : Int32) (x8 : Int32) (σ : ab_S) : Prop := ((x3 ≤ x8) → Q x7 σ) ∧ (¬ (x3 ≤ x8) → ((¬ x6 = (1 : Int32)) → Q x7 σ) ∧ (¬ (¬ x6 = (1 : Int32)) → vp_in (((4 : Int32) * a0) + x8) 124 ∧ (vp_in (((4 : Int32) * a0) + x8) 124 ∧ (vp_in (σ.2.1 104 (((4 : Int32) * a0) + x8).toNatClampNeg) 13 ∧ (wX12_storedBelow (σ.2.1 104 (((4 : Int32) * a0) + x8).toNatClampNeg) (σ.2.1 99 (σ.2.1 104 (((4 : Int32) * a0) + x8).toNatClampNeg).toNatClampNeg) (1 : Int32) (fun u2 σ1 => ∀ v3 : Int32, v3 = (x7 + u2) → ∀ v4 : Int32, v4 = (x8 + 1) → Bk x3 x6 v3 v4 σ1) E σ)))))
def wX12_toldBy_l107 (a0 : Int32) (a1 : Int32) (Q : Int32 → ab_S → Prop) (E : String → ab_S → Prop) : Nat → Int32 → Int32 → Int32 → Int32 → ab_S → Prop
  | 0, _, _, _, _, _ => False
  | n + 1, x3, x6, x7, x8, σ => wX12_toldBy_l107_b a0 a1 Q E (wX12_toldBy_l107 a0 a1 Q E n) x3 x6 x7 x8 σ
def wX12_toldBy_j104 (a0 : Int32) (a1 : Int32) (Q : Int32 → ab_S → Prop) (E : String → ab_S → Prop) (x3 : Int32) (x6 : Int32) (x7 : Int32) (σ : ab_S) : Prop := ∃ n, wX12_toldBy_l107 a0 a1 Q E n x3 x6 x7 (1 : Int32) σ
def wX12_toldBy_l67_b (a0 : Int32) (a1 : Int32) (Q : Int32 → ab_S → Prop) (E : String → ab_S → Prop) (K104 : Int32 → Int32 → Int32 → ab_S → Prop) (Bk : Int32 → Int32 → Int32 → Int32 → Int32 → ab_S → Prop) (x3 : Int32) (x5 : Int32) (x6 : Int32) (x7 : Int32) (x8 : Int32) (σ : ab_S) : Prop := ((x5 ≤ x8) → K104 x3 x6 x7 σ) ∧ (¬ (x5 ≤ x8) → ((¬ x6 = 0) → K104 x3 x6 x7 σ) ∧ (¬ (¬ x6 = 0) → vp_in x8 13 ∧ (wX12_storedBelow x8 (σ.2.1 99 x8.toNatClampNeg) (0 : Int32) (fun u6 σ5 => ∀ v7 : Int32, v7 = (x7 + u6) → ∀ v8 : Int32, v8 = (x8 + 1) → Bk x3 x5 x6 v7 v8 σ5) E σ)))
def wX12_toldBy_l67 (a0 : Int32) (a1 : Int32) (Q : Int32 → ab_S → Prop) (E : String → ab_S → Prop) (K104 : Int32 → Int32 → Int32 → ab_S → Prop) : Nat → Int32 → Int32 → Int32 → Int32 → Int32 → ab_S → Prop
  | 0, _, _, _, _, _, _ => False
  | n + 1, x3, x5, x6, x7, x8, σ => wX12_toldBy_l67_b a0 a1 Q E K104 (wX12_toldBy_l67 a0 a1 Q E K104 n) x3 x5 x6 x7 x8 σ
def wX12_toldBy (a0 : Int32) (a1 : Int32) (Q : Int32 → ab_S → Prop) (E : String → ab_S → Prop) (σ : ab_S) : Prop := ∀ v9 : Int32, v9 = (a1 / (8 : Int32)) → ∀ v10 : Int32, v10 = (a1 - a1 / (8 : Int32) * (8 : Int32)) → vp_in (((4 : Int32) * a0) + v9) 124 ∧ (∀ v11 : Int32, v11 = (σ.2.1 104 (((4 : Int32) * a0) + v9).toNatClampNeg) → vp_in (((8 : Int32) * v11) + v10) 104 ∧ (∀ v12 : Int32, v12 = (σ.2.1 123 (((8 : Int32) * v11) + v10).toNatClampNeg) → wX12_storedBelow v11 v10 v12 (fun u14 σ13 => ((¬ v12 = (2 : Int32)) → ∃ n, wX12_toldBy_l67 a0 a1 Q E (wX12_toldBy_j104 a0 a1 Q E) n v9 v11 v12 u14 (0 : Int32) σ13) ∧ (¬ (¬ v12 = (2 : Int32)) → Q (((10 : Int32) * v9) + v10) σ13)) E σ))
set_option maxHeartbeats 4000000 in
set_option maxRecDepth 100000 in
theorem ceX12_toldBy {l : Launch} (hl : l.stackTraces = false) (B : Nat) {a0 : Int32} {a1 : Int32}  {Q : Int32 → ab_S → Prop} {E : String → ab_S → Prop} {σ : ab_S} (hW : Wire σ) (h : wX12_toldBy a0 a1 Q E σ) : ab_Mt l yX12_toldBy mdX12_toldBy B 1 25 0 0 [.ref 92, .int a0, .int a1] σ (fun v σ' => Wire σ' ∧ ∃ r : Int32, v = some (.int r) ∧ Q r σ') (fun X σ' => Wire σ' ∧ E X σ') := by
  refine V_met hl ⟨rfl, rfl, by decide⟩ rfl dkX12_toldBy (Nat.le_of_ble_eq_true rfl) ?_
  show V l mdX12_toldBy B 1 25 0 0 (ab_End _ _) 0 [(0, .ref 92), (1, .int a0), (2, .int a1)] [] σ
  revert h hW
  revert σ
  have k_l107 : ∀ (n : Nat) (x3 : Int32) (x6 : Int32) (x7 : Int32) (x8 : Int32)  (σ : ab_S), Wire σ → wX12_toldBy_l107 a0 a1 Q E n x3 x6 x7 x8 σ → V l mdX12_toldBy B 1 25 0 0 (ab_End (fun v σ' => Wire σ' ∧ ∃ r : Int32, v = some (.int r) ∧ Q r σ') (fun X σ' => Wire σ' ∧ E X σ')) 107 [(0, .ref 92), (1, .int a0), (3, .int x3), (6, .int x6), (7, .int x7), (8, .int x8)] [] σ := by
    have step : ∀ (Bk : Int32 → Int32 → Int32 → Int32 → ab_S → Prop) (k_Bk : ∀ (x3 : Int32) (x6 : Int32) (x7 : Int32) (x8 : Int32)  (σ : ab_S), Wire σ → Bk x3 x6 x7 x8 σ → V l mdX12_toldBy B 1 25 0 0 (ab_End (fun v σ' => Wire σ' ∧ ∃ r : Int32, v = some (.int r) ∧ Q r σ') (fun X σ' => Wire σ' ∧ E X σ')) 107 [(0, .ref 92), (1, .int a0), (3, .int x3), (6, .int x6), (7, .int x7), (8, .int x8)] [] σ), ∀ (x3 : Int32) (x6 : Int32) (x7 : Int32) (x8 : Int32)  (σ : ab_S), Wire σ → wX12_toldBy_l107_b a0 a1 Q E Bk x3 x6 x7 x8 σ → V l mdX12_toldBy B 1 25 0 0 (ab_End (fun v σ' => Wire σ' ∧ ∃ r : Int32, v = some (.int r) ∧ Q r σ') (fun X σ' => Wire σ' ∧ E X σ')) 107 [(0, .ref 92), (1, .int a0), (3, .int x3), (6, .int x6), (7, .int x7), (8, .int x8)] [] σ := by
      intro Bk k_Bk
      intro x3 x6 x7 x8  σ hW h
      refine V_iload 63 5 rfl rfl ?_
      refine V_iload_n 64 2 rfl rfl rfl ?_
      refine V_icmp_ge 65 (tgt := 162) rfl (by decide) (fun hc => ?_) (fun hc => ?_)
      · replace h := h.1 hc
        refine V_iload 96 4 rfl rfl ?_
        exact V_iret 97 rfl rfl ⟨hW, _, rfl, h⟩
      · replace h := h.2 hc
        refine V_pc 113 rfl ?_
        refine V_iload 66 3 rfl rfl ?_
        refine V_iconst 67 (v := (1 : Int32)) rfl (by decide) ?_
        refine V_icmp_ne 68 (tgt := 162) rfl (by decide) (fun hc => ?_) (fun hc => ?_)
        · replace h := h.1 hc
          refine V_iload 96 4 rfl rfl ?_
          exact V_iret 97 rfl rfl ⟨hW, _, rfl, h⟩
        · replace h := h.2 hc
          refine V_pc 119 rfl ?_
          refine V_iload 69 4 rfl rfl ?_
          refine V_aload_n 70 0 rfl rfl rfl ?_
          refine V_aload_n 71 0 rfl rfl rfl ?_
          refine V_getR 72 18 rfl clX12 flX12_45 (by decide) (wsh hW rfl) (fun _ => rfl) (wrf hW 105 rfl) ?_
          refine V_iconst 73 (v := (4 : Int32)) rfl (by decide) ?_
          refine V_iload_n 74 1 rfl rfl rfl ?_
          refine V_pc 128 rfl ?_
          refine V_imul 75 rfl ?_
          refine V_iload 76 5 rfl rfl ?_
          refine V_iadd 77 rfl ?_
          obtain ⟨hin, h⟩ := h
          refine V_iald 78 rfl (wsh hW rfl) hin ?_
          refine V_aload_n 79 0 rfl rfl rfl ?_
          refine V_getR 80 12 rfl clX12 flX12_29 (by decide) (wsh hW rfl) (fun _ => rfl) (wrf hW 100 rfl) ?_
          refine V_pc 137 rfl ?_
          refine V_aload_n 81 0 rfl rfl rfl ?_
          refine V_getR 82 18 rfl clX12 flX12_45 (by decide) (wsh hW rfl) (fun _ => rfl) (wrf hW 105 rfl) ?_
          refine V_iconst 83 (v := (4 : Int32)) rfl (by decide) ?_
          refine V_iload_n 84 1 rfl rfl rfl ?_
          refine V_imul 85 rfl ?_
          refine V_iload 86 5 rfl rfl ?_
          refine V_pc 146 rfl ?_
          refine V_iadd 87 rfl ?_
          obtain ⟨hin, h⟩ := h
          refine V_iald 88 rfl (wsh hW rfl) hin ?_
          obtain ⟨hin, h⟩ := h
          refine V_iald 89 rfl (wsh hW rfl) hin ?_
          refine V_iconst 90 (v := (1 : Int32)) rfl (by decide) ?_
          refine V_callV 91 3 (as := [.int (σ.2.1 104 (((4 : Int32) * a0) + x8).toNatClampNeg), .int (σ.2.1 99 (σ.2.1 104 (((4 : Int32) * a0) + x8).toNatClampNeg).toNatClampNeg), .int (1 : Int32)]) (rest := [.int x7]) rfl mlX12_554 yvX12_storedBelow rfl rfl clX12 (wsh hW rfl) (by decide) (by decide) (Nat.le_of_ble_eq_true rfl) (by decide) (by decide) (fun B9 => ceX12_storedBelow hl B9 hW h) (fun X9 τ9 h9 => VX_out rfl h9) ?_
          rintro v9 σ1 ⟨hW, u2, rfl, h⟩
          refine V_iadd 92 rfl ?_
          refine V_topi (fun v3 ev3 => ?_)
          replace h := h v3 ev3
          refine V_istore 93 (lv' := [(7, .int v3), (0, .ref 92), (1, .int a0), (3, .int x3), (6, .int x6), (8, .int x8)]) rfl (by decide) rfl ?_
          obtain ⟨v4, ev4⟩ : ∃ z : Int32, z = (x8 + 1) := ⟨_, rfl⟩
          replace h := h v4 ev4
          refine V_iinc 94 5 (v := v4) (lv' := [(8, .int v4), (7, .int v3), (0, .ref 92), (1, .int a0), (3, .int x3), (6, .int x6)]) rfl rfl ((in_1 _).trans ev4.symm) (by decide) rfl ?_
          refine V_goto 95 (tgt := 107) rfl (by decide) ?_
          refine V_sub [2, 3, 4, 5, 1, 0] (lv' := [(0, .ref 92), (1, .int a0), (3, .int x3), (6, .int x6), (7, .int v3), (8, .int v4)]) rfl ?_
          exact k_Bk x3 x6 v3 v4  σ1 hW h
    intro n
    induction n with
    | zero => intro x3 x6 x7 x8  σ hW h; exact absurd h id
    | succ n ih => exact step  _ ih
  have k_j104 : ∀ (x3 : Int32) (x6 : Int32) (x7 : Int32)  (σ : ab_S), Wire σ → wX12_toldBy_j104 a0 a1 Q E x3 x6 x7 σ → V l mdX12_toldBy B 1 25 0 0 (ab_End (fun v σ' => Wire σ' ∧ ∃ r : Int32, v = some (.int r) ∧ Q r σ') (fun X σ' => Wire σ' ∧ E X σ')) 104 [(0, .ref 92), (1, .int a0), (3, .int x3), (6, .int x6), (7, .int x7)] [] σ := by
    intro x3 x6 x7  σ hW h
    refine V_iconst 61 (v := (1 : Int32)) rfl (by decide) ?_
    refine V_istore 62 (lv' := [(8, .int (1 : Int32)), (0, .ref 92), (1, .int a0), (3, .int x3), (6, .int x6), (7, .int x7)]) rfl (by decide) rfl ?_
    refine V_sub [1, 2, 3, 4, 5, 0] (lv' := [(0, .ref 92), (1, .int a0), (3, .int x3), (6, .int x6), (7, .int x7), (8, .int (1 : Int32))]) rfl ?_
    obtain ⟨n, h⟩ := h
    exact k_l107 n x3 x6 x7 (1 : Int32) σ hW h
  have k_l67 : ∀ (n : Nat) (x3 : Int32) (x5 : Int32) (x6 : Int32) (x7 : Int32) (x8 : Int32)  (σ : ab_S), Wire σ → wX12_toldBy_l67 a0 a1 Q E (wX12_toldBy_j104 a0 a1 Q E) n x3 x5 x6 x7 x8 σ → V l mdX12_toldBy B 1 25 0 0 (ab_End (fun v σ' => Wire σ' ∧ ∃ r : Int32, v = some (.int r) ∧ Q r σ') (fun X σ' => Wire σ' ∧ E X σ')) 67 [(0, .ref 92), (1, .int a0), (3, .int x3), (5, .int x5), (6, .int x6), (7, .int x7), (8, .int x8)] [] σ := by
    have step : ∀ (K104 : Int32 → Int32 → Int32 → ab_S → Prop) (k_K104 : ∀ (x3 : Int32) (x6 : Int32) (x7 : Int32)  (σ : ab_S), Wire σ → K104 x3 x6 x7 σ → V l mdX12_toldBy B 1 25 0 0 (ab_End (fun v σ' => Wire σ' ∧ ∃ r : Int32, v = some (.int r) ∧ Q r σ') (fun X σ' => Wire σ' ∧ E X σ')) 104 [(0, .ref 92), (1, .int a0), (3, .int x3), (6, .int x6), (7, .int x7)] [] σ), ∀ (Bk : Int32 → Int32 → Int32 → Int32 → Int32 → ab_S → Prop) (k_Bk : ∀ (x3 : Int32) (x5 : Int32) (x6 : Int32) (x7 : Int32) (x8 : Int32)  (σ : ab_S), Wire σ → Bk x3 x5 x6 x7 x8 σ → V l mdX12_toldBy B 1 25 0 0 (ab_End (fun v σ' => Wire σ' ∧ ∃ r : Int32, v = some (.int r) ∧ Q r σ') (fun X σ' => Wire σ' ∧ E X σ')) 67 [(0, .ref 92), (1, .int a0), (3, .int x3), (5, .int x5), (6, .int x6), (7, .int x7), (8, .int x8)] [] σ), ∀ (x3 : Int32) (x5 : Int32) (x6 : Int32) (x7 : Int32) (x8 : Int32)  (σ : ab_S), Wire σ → wX12_toldBy_l67_b a0 a1 Q E K104 Bk x3 x5 x6 x7 x8 σ → V l mdX12_toldBy B 1 25 0 0 (ab_End (fun v σ' => Wire σ' ∧ ∃ r : Int32, v = some (.int r) ∧ Q r σ') (fun X σ' => Wire σ' ∧ E X σ')) 67 [(0, .ref 92), (1, .int a0), (3, .int x3), (5, .int x5), (6, .int x6), (7, .int x7), (8, .int x8)] [] σ := by
      intro K104 k_K104 Bk k_Bk
      intro x3 x5 x6 x7 x8  σ hW h
      refine V_iload 43 6 rfl rfl ?_
      refine V_iload 44 3 rfl rfl ?_
      refine V_icmp_ge 45 (tgt := 104) rfl (by decide) (fun hc => ?_) (fun hc => ?_)
      · replace h := h.1 hc
        refine V_sub [0, 1, 2, 4, 5] (lv' := [(0, .ref 92), (1, .int a0), (3, .int x3), (6, .int x6), (7, .int x7)]) rfl ?_
        exact k_K104 x3 x6 x7  σ hW h
      · replace h := h.2 hc
        refine V_pc 74 rfl ?_
        refine V_iload 46 4 rfl rfl ?_
        refine V_if_ne 47 (tgt := 104) rfl (by decide) (fun hc => ?_) (fun hc => ?_)
        · replace h := h.1 hc
          refine V_sub [0, 1, 2, 4, 5] (lv' := [(0, .ref 92), (1, .int a0), (3, .int x3), (6, .int x6), (7, .int x7)]) rfl ?_
          exact k_K104 x3 x6 x7  σ hW h
        · replace h := h.2 hc
          refine V_pc 79 rfl ?_
          refine V_iload 48 5 rfl rfl ?_
          refine V_aload_n 49 0 rfl rfl rfl ?_
          refine V_iload 50 6 rfl rfl ?_
          refine V_aload_n 51 0 rfl rfl rfl ?_
          refine V_getR 52 12 rfl clX12 flX12_29 (by decide) (wsh hW rfl) (fun _ => rfl) (wrf hW 100 rfl) ?_
          refine V_iload 53 6 rfl rfl ?_
          refine V_pc 90 rfl ?_
          obtain ⟨hin, h⟩ := h
          refine V_iald 54 rfl (wsh hW rfl) hin ?_
          refine V_iconst 55 (v := (0 : Int32)) rfl (by decide) ?_
          refine V_callV 56 3 (as := [.int x8, .int (σ.2.1 99 x8.toNatClampNeg), .int (0 : Int32)]) (rest := [.int x7]) rfl mlX12_554 yvX12_storedBelow rfl rfl clX12 (wsh hW rfl) (by decide) (by decide) (Nat.le_of_ble_eq_true rfl) (by decide) (by decide) (fun B9 => ceX12_storedBelow hl B9 hW h) (fun X9 τ9 h9 => VX_out rfl h9) ?_
          rintro v9 σ5 ⟨hW, u6, rfl, h⟩
          refine V_iadd 57 rfl ?_
          refine V_topi (fun v7 ev7 => ?_)
          replace h := h v7 ev7
          refine V_istore 58 (lv' := [(7, .int v7), (0, .ref 92), (1, .int a0), (3, .int x3), (5, .int x5), (6, .int x6), (8, .int x8)]) rfl (by decide) rfl ?_
          obtain ⟨v8, ev8⟩ : ∃ z : Int32, z = (x8 + 1) := ⟨_, rfl⟩
          replace h := h v8 ev8
          refine V_iinc 59 6 (v := v8) (lv' := [(8, .int v8), (7, .int v7), (0, .ref 92), (1, .int a0), (3, .int x3), (5, .int x5), (6, .int x6)]) rfl rfl ((in_1 _).trans ev8.symm) (by decide) rfl ?_
          refine V_goto 60 (tgt := 67) rfl (by decide) ?_
          refine V_sub [2, 3, 4, 5, 6, 1, 0] (lv' := [(0, .ref 92), (1, .int a0), (3, .int x3), (5, .int x5), (6, .int x6), (7, .int v7), (8, .int v8)]) rfl ?_
          exact k_Bk x3 x5 x6 v7 v8  σ5 hW h
    intro n
    induction n with
    | zero => intro x3 x5 x6 x7 x8  σ hW h; exact absurd h id
    | succ n ih => exact step _ k_j104 _ ih
  intro σ hW h
  refine V_iload_n 0 2 rfl rfl rfl ?_
  refine V_bipush 1 (v := (8 : Int32)) rfl (by decide) ?_
  refine V_idiv 2 rfl (by decide) ?_
  refine V_topi (fun v9 ev9 => ?_)
  replace h := h v9 ev9
  refine V_istore_n 3 (lv' := [(3, .int v9), (0, .ref 92), (1, .int a0), (2, .int a1)]) rfl rfl (by decide) rfl ?_
  refine V_iload_n 4 3 rfl rfl rfl ?_
  refine V_bipush 5 (v := (8 : Int32)) rfl (by decide) ?_
  refine V_pc 8 rfl ?_
  refine V_irem 6 rfl (by decide) ?_
  refine V_topi (fun v10 ev10 => ?_)
  replace h := h v10 ev10
  refine V_istore 7 (lv' := [(4, .int v10), (3, .int v9), (0, .ref 92), (1, .int a0), (2, .int a1)]) rfl (by decide) rfl ?_
  refine V_aload_n 8 2 rfl rfl rfl ?_
  refine V_getR 9 18 rfl clX12 flX12_45 (by decide) (wsh hW rfl) (fun _ => rfl) (wrf hW 105 rfl) ?_
  refine V_iconst 10 (v := (4 : Int32)) rfl (by decide) ?_
  refine V_iload_n 11 3 rfl rfl rfl ?_
  refine V_pc 17 rfl ?_
  refine V_imul 12 rfl ?_
  refine V_iload_n 13 1 rfl rfl rfl ?_
  refine V_iadd 14 rfl ?_
  obtain ⟨hin, h⟩ := h
  refine V_iald 15 rfl (wsh hW rfl) hin ?_
  refine V_topi (fun v11 ev11 => ?_)
  replace h := h v11 ev11
  refine V_istore 16 (lv' := [(5, .int v11), (4, .int v10), (3, .int v9), (0, .ref 92), (1, .int a0), (2, .int a1)]) rfl (by decide) rfl ?_
  refine V_aload_n 17 3 rfl rfl rfl ?_
  refine V_pc 24 rfl ?_
  refine V_getR 18 39 rfl clX12 flX12_102 (by decide) (wsh hW rfl) (fun _ => rfl) (wrf hW 124 rfl) ?_
  refine V_bipush 19 (v := (8 : Int32)) rfl (by decide) ?_
  refine V_iload 20 0 rfl rfl ?_
  refine V_imul 21 rfl ?_
  refine V_iload 22 1 rfl rfl ?_
  refine V_iadd 23 rfl ?_
  refine V_pc 35 rfl ?_
  obtain ⟨hin, h⟩ := h
  refine V_iald 24 rfl (wsh hW rfl) hin ?_
  refine V_topi (fun v12 ev12 => ?_)
  replace h := h v12 ev12
  refine V_istore 25 (lv' := [(6, .int v12), (5, .int v11), (4, .int v10), (3, .int v9), (0, .ref 92), (1, .int a0), (2, .int a1)]) rfl (by decide) rfl ?_
  refine V_aload_n 26 4 rfl rfl rfl ?_
  refine V_iload 27 1 rfl rfl ?_
  refine V_iload 28 2 rfl rfl ?_
  refine V_iload 29 0 rfl rfl ?_
  refine V_pc 45 rfl ?_
  refine V_callV 30 3 (as := [.int v11, .int v10, .int v12]) (rest := []) rfl mlX12_554 yvX12_storedBelow rfl rfl clX12 (wsh hW rfl) (by decide) (by decide) (Nat.le_of_ble_eq_true rfl) (by decide) (by decide) (fun B9 => ceX12_storedBelow hl B9 hW h) (fun X9 τ9 h9 => VX_out rfl h9) ?_
  rintro v9 σ13 ⟨hW, u14, rfl, h⟩
  refine V_istore 31 (lv' := [(7, .int u14), (6, .int v12), (5, .int v11), (4, .int v10), (3, .int v9), (0, .ref 92), (1, .int a0), (2, .int a1)]) rfl (by decide) rfl ?_
  refine V_iload 32 1 rfl rfl ?_
  refine V_iconst 33 (v := (2 : Int32)) rfl (by decide) ?_
  refine V_icmp_ne 34 (tgt := 64) rfl (by decide) (fun hc => ?_) (fun hc => ?_)
  · replace h := h.1 hc
    refine V_iconst 41 (v := (0 : Int32)) rfl (by decide) ?_
    refine V_istore 42 (lv' := [(8, .int (0 : Int32)), (7, .int u14), (6, .int v12), (5, .int v11), (4, .int v10), (3, .int v9), (0, .ref 92), (1, .int a0), (2, .int a1)]) rfl (by decide) rfl ?_
    refine V_sub [6, 7, 5, 3, 2, 1, 0] (lv' := [(0, .ref 92), (1, .int a0), (3, .int v9), (5, .int v11), (6, .int v12), (7, .int u14), (8, .int (0 : Int32))]) rfl ?_
    obtain ⟨n, h⟩ := h
    exact k_l67 n v9 v11 v12 u14 (0 : Int32) σ13 hW h
  · replace h := h.2 hc
    refine V_pc 56 rfl ?_
    refine V_bipush 35 (v := (10 : Int32)) rfl (by decide) ?_
    refine V_iload_n 36 4 rfl rfl rfl ?_
    refine V_imul 37 rfl ?_
    refine V_iload 38 3 rfl rfl ?_
    refine V_iadd 39 rfl ?_
    exact V_iret 40 rfl rfl ⟨hW, _, rfl, h⟩

def wX12_kindOf (a0 : Int32) (Q : Int32 → ab_S → Prop) (E : String → ab_S → Prop) (σ : ab_S) : Prop := ((¬ a0 = (30 : Int32)) → ((¬ a0 = (13 : Int32)) → ((¬ a0 = (14 : Int32)) → ((¬ a0 = (15 : Int32)) → ((¬ a0 = (16 : Int32)) → ((¬ a0 = (17 : Int32)) → Q (12 : Int32) σ) ∧ (¬ (¬ a0 = (17 : Int32)) → Q (11 : Int32) σ)) ∧ (¬ (¬ a0 = (16 : Int32)) → Q (10 : Int32) σ)) ∧ (¬ (¬ a0 = (15 : Int32)) → Q (9 : Int32) σ)) ∧ (¬ (¬ a0 = (14 : Int32)) → Q (8 : Int32) σ)) ∧ (¬ (¬ a0 = (13 : Int32)) → Q (7 : Int32) σ)) ∧ (¬ (¬ a0 = (30 : Int32)) → Q (6 : Int32) σ)
set_option maxHeartbeats 4000000 in
set_option maxRecDepth 100000 in
theorem ceX12_kindOf {l : Launch} (hl : l.stackTraces = false) (B : Nat) {a0 : Int32}  {Q : Int32 → ab_S → Prop} {E : String → ab_S → Prop} {σ : ab_S} (hW : Wire σ) (h : wX12_kindOf a0 Q E σ) : ab_Mt l yX12_kindOf mdX12_kindOf B 0 0 0 0 [.int a0] σ (fun v σ' => Wire σ' ∧ ∃ r : Int32, v = some (.int r) ∧ Q r σ') (fun X σ' => Wire σ' ∧ E X σ') := by
  refine V_met hl ⟨rfl, rfl, by decide⟩ rfl dkX12_kindOf (Nat.le_of_ble_eq_true rfl) ?_
  show V l mdX12_kindOf B 0 0 0 0 (ab_End _ _) 0 [(0, .int a0)] [] σ
  refine V_iload_n 0 0 rfl rfl rfl ?_
  refine V_bipush 1 (v := (30 : Int32)) rfl (by decide) ?_
  refine V_icmp_ne 2 (tgt := 11) rfl (by decide) (fun hc => ?_) (fun hc => ?_)
  · replace h := h.1 hc
    refine V_iload_n 5 0 rfl rfl rfl ?_
    refine V_bipush 6 (v := (13 : Int32)) rfl (by decide) ?_
    refine V_icmp_ne 7 (tgt := 22) rfl (by decide) (fun hc => ?_) (fun hc => ?_)
    · replace h := h.1 hc
      refine V_iload_n 10 0 rfl rfl rfl ?_
      refine V_bipush 11 (v := (14 : Int32)) rfl (by decide) ?_
      refine V_icmp_ne 12 (tgt := 33) rfl (by decide) (fun hc => ?_) (fun hc => ?_)
      · replace h := h.1 hc
        refine V_iload_n 15 0 rfl rfl rfl ?_
        refine V_bipush 16 (v := (15 : Int32)) rfl (by decide) ?_
        refine V_icmp_ne 17 (tgt := 44) rfl (by decide) (fun hc => ?_) (fun hc => ?_)
        · replace h := h.1 hc
          refine V_iload_n 20 0 rfl rfl rfl ?_
          refine V_bipush 21 (v := (16 : Int32)) rfl (by decide) ?_
          refine V_icmp_ne 22 (tgt := 55) rfl (by decide) (fun hc => ?_) (fun hc => ?_)
          · replace h := h.1 hc
            refine V_iload_n 25 0 rfl rfl rfl ?_
            refine V_bipush 26 (v := (17 : Int32)) rfl (by decide) ?_
            refine V_icmp_ne 27 (tgt := 66) rfl (by decide) (fun hc => ?_) (fun hc => ?_)
            · replace h := h.1 hc
              refine V_bipush 30 (v := (12 : Int32)) rfl (by decide) ?_
              exact V_iret 31 rfl rfl ⟨hW, _, rfl, h⟩
            · replace h := h.2 hc
              refine V_pc 61 rfl ?_
              refine V_bipush 28 (v := (11 : Int32)) rfl (by decide) ?_
              refine V_goto 29 (tgt := 68) rfl (by decide) ?_
              exact V_iret 31 rfl rfl ⟨hW, _, rfl, h⟩
          · replace h := h.2 hc
            refine V_pc 50 rfl ?_
            refine V_bipush 23 (v := (10 : Int32)) rfl (by decide) ?_
            refine V_goto 24 (tgt := 68) rfl (by decide) ?_
            exact V_iret 31 rfl rfl ⟨hW, _, rfl, h⟩
        · replace h := h.2 hc
          refine V_pc 39 rfl ?_
          refine V_bipush 18 (v := (9 : Int32)) rfl (by decide) ?_
          refine V_goto 19 (tgt := 68) rfl (by decide) ?_
          exact V_iret 31 rfl rfl ⟨hW, _, rfl, h⟩
      · replace h := h.2 hc
        refine V_pc 28 rfl ?_
        refine V_bipush 13 (v := (8 : Int32)) rfl (by decide) ?_
        refine V_goto 14 (tgt := 68) rfl (by decide) ?_
        exact V_iret 31 rfl rfl ⟨hW, _, rfl, h⟩
    · replace h := h.2 hc
      refine V_pc 17 rfl ?_
      refine V_bipush 8 (v := (7 : Int32)) rfl (by decide) ?_
      refine V_goto 9 (tgt := 68) rfl (by decide) ?_
      exact V_iret 31 rfl rfl ⟨hW, _, rfl, h⟩
  · replace h := h.2 hc
    refine V_pc 6 rfl ?_
    refine V_bipush 3 (v := (6 : Int32)) rfl (by decide) ?_
    refine V_goto 4 (tgt := 68) rfl (by decide) ?_
    exact V_iret 31 rfl rfl ⟨hW, _, rfl, h⟩

def wX12_writeRule_j350 (a0 : Int32) (a1 : Int32) (Q : ab_S → Prop) (E : String → ab_S → Prop) (y0 : Int32) (σ : ab_S) : Prop := wX12_toldBy a0 a1 (fun u2 σ1 => wX12_write y0 u2 (fun σ3 => Q σ3) E σ1) E σ
def wX12_writeRule_j307 (a0 : Int32) (a1 : Int32) (Q : ab_S → Prop) (E : String → ab_S → Prop)  (σ : ab_S) : Prop := wX12_storeAt a0 a1 (fun u5 σ4 => ((¬ u5 = (2 : Int32)) → ((¬ u5 = 0) → (((8 : Int32) ≤ a1) → wX12_writeRule_j350 a0 a1 Q E (17 : Int32) σ4) ∧ (¬ ((8 : Int32) ≤ a1) → wX12_writeRule_j350 a0 a1 Q E (18 : Int32) σ4)) ∧ (¬ (¬ u5 = 0) → wX12_writeRule_j350 a0 a1 Q E (16 : Int32) σ4)) ∧ (¬ (¬ u5 = (2 : Int32)) → wX12_writeRule_j350 a0 a1 Q E (15 : Int32) σ4)) E σ
def wX12_writeRule_j301 (a0 : Int32) (a1 : Int32) (Q : ab_S → Prop) (E : String → ab_S → Prop) (K307 : ab_S → Prop) (Bk : Int32 → Int32 → ab_S → Prop) (x4 : Int32) (x5 : Int32) (σ : ab_S) : Prop := ∀ v6 : Int32, v6 = (x5 + 1) → Bk x4 v6 σ
def wX12_writeRule_j209 (a0 : Int32) (a1 : Int32) (Q : ab_S → Prop) (E : String → ab_S → Prop) (K307 : ab_S → Prop) (Bk : Int32 → Int32 → ab_S → Prop) (x4 : Int32) (x5 : Int32) (y0 : Int32) (y1 : Int32) (σ : ab_S) : Prop := wX12_write y1 y0 (fun σ7 => wX12_writeRule_j301 a0 a1 Q E K307 Bk x4 x5 σ7) E σ
def wX12_writeRule_j191 (a0 : Int32) (a1 : Int32) (Q : ab_S → Prop) (E : String → ab_S → Prop) (K307 : ab_S → Prop) (Bk : Int32 → Int32 → ab_S → Prop) (x4 : Int32) (x5 : Int32) (x6 : Int32) (y0 : Int32) (σ : ab_S) : Prop := ((¬ x6 = (40 : Int32)) → wX12_writeRule_j209 a0 a1 Q E K307 Bk x4 x5 (0 : Int32) y0 σ) ∧ (¬ (¬ x6 = (40 : Int32)) → vp_in x5 2500 ∧ (wX12_writeRule_j209 a0 a1 Q E K307 Bk x4 x5 (σ.2.1 108 x5.toNatClampNeg) y0 σ))
def wX12_writeRule_j178 (a0 : Int32) (a1 : Int32) (Q : ab_S → Prop) (E : String → ab_S → Prop) (K307 : ab_S → Prop) (Bk : Int32 → Int32 → ab_S → Prop) (x4 : Int32) (x5 : Int32) (x6 : Int32) (σ : ab_S) : Prop := ((¬ x6 = (40 : Int32)) → wX12_writeRule_j191 a0 a1 Q E K307 Bk x4 x5 x6 (1 : Int32) σ) ∧ (¬ (¬ x6 = (40 : Int32)) → wX12_writeRule_j191 a0 a1 Q E K307 Bk x4 x5 x6 (0 : Int32) σ)
def wX12_writeRule_j273 (a0 : Int32) (a1 : Int32) (Q : ab_S → Prop) (E : String → ab_S → Prop) (K307 : ab_S → Prop) (Bk : Int32 → Int32 → ab_S → Prop) (x4 : Int32) (x5 : Int32) (y0 : Int32) (σ : ab_S) : Prop := vp_in x5 2500 ∧ (wX12_toldBy a0 (σ.2.1 108 x5.toNatClampNeg) (fun u9 σ8 => wX12_write y0 u9 (fun σ10 => wX12_writeRule_j301 a0 a1 Q E K307 Bk x4 x5 σ10) E σ8) E σ)
def wX12_writeRule_j129 (a0 : Int32) (a1 : Int32) (Q : ab_S → Prop) (E : String → ab_S → Prop) (K307 : ab_S → Prop) (Bk : Int32 → Int32 → ab_S → Prop) (x4 : Int32) (x5 : Int32) (σ : ab_S) : Prop := vp_in x5 2500 ∧ (∀ v11 : Int32, v11 = (σ.2.1 107 x5.toNatClampNeg) → ((¬ v11 = (31 : Int32)) → ((v11 = (40 : Int32)) → wX12_writeRule_j178 a0 a1 Q E K307 Bk x4 x5 v11 σ) ∧ (¬ (v11 = (40 : Int32)) → ((¬ v11 = (41 : Int32)) → ((¬ v11 = (50 : Int32)) → wX12_kindOf v11 (fun u13 σ12 => wX12_write u13 (0 : Int32) (fun σ14 => wX12_writeRule_j301 a0 a1 Q E K307 Bk x4 x5 σ14) E σ12) E σ) ∧ (¬ (¬ v11 = (50 : Int32)) → vp_in x5 2500 ∧ (wX12_storeAt a0 (σ.2.1 108 x5.toNatClampNeg) (fun u16 σ15 => ((¬ u16 = (2 : Int32)) → ((¬ u16 = 0) → vp_in x5 2500 ∧ ((((8 : Int32) ≤ (σ15.2.1 108 x5.toNatClampNeg)) → wX12_writeRule_j273 a0 a1 Q E K307 Bk x4 x5 (4 : Int32) σ15) ∧ (¬ ((8 : Int32) ≤ (σ15.2.1 108 x5.toNatClampNeg)) → wX12_writeRule_j273 a0 a1 Q E K307 Bk x4 x5 (5 : Int32) σ15))) ∧ (¬ (¬ u16 = 0) → wX12_writeRule_j273 a0 a1 Q E K307 Bk x4 x5 (3 : Int32) σ15)) ∧ (¬ (¬ u16 = (2 : Int32)) → wX12_writeRule_j273 a0 a1 Q E K307 Bk x4 x5 (2 : Int32) σ15)) E σ))) ∧ (¬ (¬ v11 = (41 : Int32)) → wX12_writeRule_j178 a0 a1 Q E K307 Bk x4 x5 v11 σ))) ∧ (¬ (¬ v11 = (31 : Int32)) → vp_in x5 2500 ∧ (vp_in (σ.2.1 153 x5.toNatClampNeg) 7000 ∧ (∀ σ17 : ab_S, σ17 = ab_I σ 147 (σ.2.1 153 x5.toNatClampNeg).toNatClampNeg (σ.2.1 92 74) → wX12_writeRule_j301 a0 a1 Q E K307 Bk x4 x5 σ17))))
def wX12_writeRule_j75 (a0 : Int32) (a1 : Int32) (Q : ab_S → Prop) (E : String → ab_S → Prop) (K307 : ab_S → Prop) (Bk : Int32 → Int32 → ab_S → Prop) (x4 : Int32) (x5 : Int32) (σ : ab_S) : Prop := vp_in x5 2500 ∧ ((((σ.2.1 151 x5.toNatClampNeg) < 0) → wX12_writeRule_j129 a0 a1 Q E K307 Bk x4 x5 σ) ∧ (¬ ((σ.2.1 151 x5.toNatClampNeg) < 0) → vp_in x5 2500 ∧ (vp_in (σ.2.1 151 x5.toNatClampNeg) 2500 ∧ (∀ σ18 : ab_S, σ18 = ab_I σ 153 (σ.2.1 151 x5.toNatClampNeg).toNatClampNeg (σ.2.1 92 74) → wX12_write (14 : Int32) (0 : Int32) (fun σ19 => vp_in x5 2500 ∧ (vp_in (σ19.2.1 151 x5.toNatClampNeg) 2500 ∧ (vp_in (σ19.2.1 152 (σ19.2.1 151 x5.toNatClampNeg).toNatClampNeg) 7000 ∧ (∀ σ20 : ab_S, σ20 = ab_I σ19 147 (σ19.2.1 152 (σ19.2.1 151 x5.toNatClampNeg).toNatClampNeg).toNatClampNeg (σ19.2.1 92 74) → wX12_writeRule_j129 a0 a1 Q E K307 Bk x4 x5 σ20)))) E σ18))))
def wX12_writeRule_l35_b (a0 : Int32) (a1 : Int32) (Q : ab_S → Prop) (E : String → ab_S → Prop) (K307 : ab_S → Prop) (Bk : Int32 → Int32 → ab_S → Prop) (x4 : Int32) (x5 : Int32) (σ : ab_S) : Prop := ((x4 ≤ x5) → K307 σ) ∧ (¬ (x4 ≤ x5) → vp_in x5 2500 ∧ ((((σ.2.1 150 x5.toNatClampNeg) < 0) → wX12_writeRule_j75 a0 a1 Q E K307 Bk x4 x5 σ) ∧ (¬ ((σ.2.1 150 x5.toNatClampNeg) < 0) → vp_in x5 2500 ∧ (vp_in (σ.2.1 150 x5.toNatClampNeg) 2500 ∧ (∀ σ21 : ab_S, σ21 = ab_I σ 152 (σ.2.1 150 x5.toNatClampNeg).toNatClampNeg (σ.2.1 92 74) → wX12_write (13 : Int32) (0 : Int32) (fun σ22 => wX12_writeRule_j75 a0 a1 Q E K307 Bk x4 x5 σ22) E σ21)))))
def wX12_writeRule_l35 (a0 : Int32) (a1 : Int32) (Q : ab_S → Prop) (E : String → ab_S → Prop) (K307 : ab_S → Prop) : Nat → Int32 → Int32 → ab_S → Prop
  | 0, _, _, _ => False
  | n + 1, x4, x5, σ => wX12_writeRule_l35_b a0 a1 Q E K307 (wX12_writeRule_l35 a0 a1 Q E K307 n) x4 x5 σ
def wX12_writeRule (a0 : Int32) (a1 : Int32) (Q : ab_S → Prop) (E : String → ab_S → Prop) (σ : ab_S) : Prop := vp_in (((32 : Int32) * a0) + a1) 992 ∧ (∀ v23 : Int32, v23 = (σ.2.1 105 (((32 : Int32) * a0) + a1).toNatClampNeg) → vp_in (((32 : Int32) * a0) + a1) 992 ∧ (∀ v24 : Int32, v24 = (σ.2.1 106 (((32 : Int32) * a0) + a1).toNatClampNeg) → wX12_findParts v23 v24 (fun σ25 => ∃ n, wX12_writeRule_l35 a0 a1 Q E (wX12_writeRule_j307 a0 a1 Q E) n v24 v23 σ25) E σ))
set_option maxHeartbeats 4000000 in
set_option maxRecDepth 100000 in
theorem ceX12_writeRule {l : Launch} (hl : l.stackTraces = false) (B : Nat) {a0 : Int32} {a1 : Int32}  {Q : ab_S → Prop} {E : String → ab_S → Prop} {σ : ab_S} (hW : Wire σ) (h : wX12_writeRule a0 a1 Q E σ) : ab_Mt l yX12_writeRule mdX12_writeRule B 2 53 0 0 [.ref 92, .int a0, .int a1] σ (fun v σ' => Wire σ' ∧ v = none ∧ Q σ') (fun X σ' => Wire σ' ∧ E X σ') := by
  refine V_met hl ⟨rfl, rfl, by decide⟩ rfl dkX12_writeRule (Nat.le_of_ble_eq_true rfl) ?_
  show V l mdX12_writeRule B 2 53 0 0 (ab_End _ _) 0 [(0, .ref 92), (1, .int a0), (2, .int a1)] [] σ
  revert h hW
  revert σ
  have k_j350 : ∀ (y0 : Int32)  (σ : ab_S), Wire σ → wX12_writeRule_j350 a0 a1 Q E y0 σ → V l mdX12_writeRule B 2 53 0 0 (ab_End (fun v σ' => Wire σ' ∧ v = none ∧ Q σ') (fun X σ' => Wire σ' ∧ E X σ')) 350 [(0, .ref 92), (1, .int a0), (2, .int a1)] [.int y0, .ref 92] σ := by
    intro y0  σ hW h
    refine V_aload_n 184 0 rfl rfl rfl ?_
    refine V_iload_n 185 1 rfl rfl rfl ?_
    refine V_iload_n 186 2 rfl rfl rfl ?_
    refine V_callV 187 2 (as := [.int a0, .int a1]) (rest := [.int y0, .ref 92]) rfl mlX12_566 yvX12_toldBy rfl rfl clX12 (wsh hW rfl) (by decide) (by decide) (Nat.le_of_ble_eq_true rfl) (by decide) (by decide) (fun B9 => ceX12_toldBy hl B9 hW h) (fun X9 τ9 h9 => VX_out rfl h9) ?_
    rintro v9 σ1 ⟨hW, u2, rfl, h⟩
    refine V_callV 188 2 (as := [.int y0, .int u2]) (rest := []) rfl mlX12_560 yvX12_write rfl rfl clX12 (wsh hW rfl) (by decide) (by decide) (Nat.le_of_ble_eq_true rfl) (by decide) (by decide) (fun B9 => ceX12_write hl B9 hW h) (fun X9 τ9 h9 => VX_out rfl h9) ?_
    rintro v9 σ3 ⟨hW, rfl, h⟩
    exact V_vret 189 rfl rfl ⟨hW, rfl, h⟩
  have k_j307 : ∀   (σ : ab_S), Wire σ → wX12_writeRule_j307 a0 a1 Q E  σ → V l mdX12_writeRule B 2 53 0 0 (ab_End (fun v σ' => Wire σ' ∧ v = none ∧ Q σ') (fun X σ' => Wire σ' ∧ E X σ')) 307 [(0, .ref 92), (1, .int a0), (2, .int a1)] [] σ := by
    intro   σ hW h
    refine V_aload_n 163 0 rfl rfl rfl ?_
    refine V_iload_n 164 1 rfl rfl rfl ?_
    refine V_iload_n 165 2 rfl rfl rfl ?_
    refine V_callV 166 2 (as := [.int a0, .int a1]) (rest := []) rfl mlX12_563 yvX12_storeAt rfl rfl clX12 (wsh hW rfl) (by decide) (by decide) (Nat.le_of_ble_eq_true rfl) (by decide) (by decide) (fun B9 => ceX12_storeAt hl B9 hW h) (fun X9 τ9 h9 => VX_out rfl h9) ?_
    rintro v9 σ4 ⟨hW, u5, rfl, h⟩
    refine V_istore 167 (lv' := [(5, .int u5), (0, .ref 92), (1, .int a0), (2, .int a1)]) rfl (by decide) rfl ?_
    refine V_aload_n 168 1 rfl rfl rfl ?_
    refine V_iload 169 0 rfl rfl ?_
    refine V_iconst 170 (v := (2 : Int32)) rfl (by decide) ?_
    refine V_icmp_ne 171 (tgt := 327) rfl (by decide) (fun hc => ?_) (fun hc => ?_)
    · replace h := h.1 hc
      refine V_iload 174 0 rfl rfl ?_
      refine V_if_ne 175 (tgt := 337) rfl (by decide) (fun hc => ?_) (fun hc => ?_)
      · replace h := h.1 hc
        refine V_iload_n 178 3 rfl rfl rfl ?_
        refine V_bipush 179 (v := (8 : Int32)) rfl (by decide) ?_
        refine V_icmp_ge 180 (tgt := 348) rfl (by decide) (fun hc => ?_) (fun hc => ?_)
        · replace h := h.1 hc
          refine V_bipush 183 (v := (17 : Int32)) rfl (by decide) ?_
          refine V_sub [1, 2, 3] (lv' := [(0, .ref 92), (1, .int a0), (2, .int a1)]) rfl ?_
          exact k_j350 (17 : Int32) σ4 hW h
        · replace h := h.2 hc
          refine V_pc 343 rfl ?_
          refine V_bipush 181 (v := (18 : Int32)) rfl (by decide) ?_
          refine V_goto 182 (tgt := 350) rfl (by decide) ?_
          refine V_sub [1, 2, 3] (lv' := [(0, .ref 92), (1, .int a0), (2, .int a1)]) rfl ?_
          exact k_j350 (18 : Int32) σ4 hW h
      · replace h := h.2 hc
        refine V_pc 332 rfl ?_
        refine V_bipush 176 (v := (16 : Int32)) rfl (by decide) ?_
        refine V_goto 177 (tgt := 350) rfl (by decide) ?_
        refine V_sub [1, 2, 3] (lv' := [(0, .ref 92), (1, .int a0), (2, .int a1)]) rfl ?_
        exact k_j350 (16 : Int32) σ4 hW h
    · replace h := h.2 hc
      refine V_pc 322 rfl ?_
      refine V_bipush 172 (v := (15 : Int32)) rfl (by decide) ?_
      refine V_goto 173 (tgt := 350) rfl (by decide) ?_
      refine V_sub [1, 2, 3] (lv' := [(0, .ref 92), (1, .int a0), (2, .int a1)]) rfl ?_
      exact k_j350 (15 : Int32) σ4 hW h
  have k_l35 : ∀ (n : Nat) (x4 : Int32) (x5 : Int32)  (σ : ab_S), Wire σ → wX12_writeRule_l35 a0 a1 Q E (wX12_writeRule_j307 a0 a1 Q E) n x4 x5 σ → V l mdX12_writeRule B 2 53 0 0 (ab_End (fun v σ' => Wire σ' ∧ v = none ∧ Q σ') (fun X σ' => Wire σ' ∧ E X σ')) 35 [(0, .ref 92), (1, .int a0), (2, .int a1), (4, .int x4), (5, .int x5)] [] σ := by
    have step : ∀ (K307 : ab_S → Prop) (k_K307 : ∀   (σ : ab_S), Wire σ → K307  σ → V l mdX12_writeRule B 2 53 0 0 (ab_End (fun v σ' => Wire σ' ∧ v = none ∧ Q σ') (fun X σ' => Wire σ' ∧ E X σ')) 307 [(0, .ref 92), (1, .int a0), (2, .int a1)] [] σ), ∀ (Bk : Int32 → Int32 → ab_S → Prop) (k_Bk : ∀ (x4 : Int32) (x5 : Int32)  (σ : ab_S), Wire σ → Bk x4 x5 σ → V l mdX12_writeRule B 2 53 0 0 (ab_End (fun v σ' => Wire σ' ∧ v = none ∧ Q σ') (fun X σ' => Wire σ' ∧ E X σ')) 35 [(0, .ref 92), (1, .int a0), (2, .int a1), (4, .int x4), (5, .int x5)] [] σ), ∀ (x4 : Int32) (x5 : Int32)  (σ : ab_S), Wire σ → wX12_writeRule_l35_b a0 a1 Q E K307 Bk x4 x5 σ → V l mdX12_writeRule B 2 53 0 0 (ab_End (fun v σ' => Wire σ' ∧ v = none ∧ Q σ') (fun X σ' => Wire σ' ∧ E X σ')) 35 [(0, .ref 92), (1, .int a0), (2, .int a1), (4, .int x4), (5, .int x5)] [] σ := by
      intro K307 k_K307 Bk k_Bk
      have k_j301 : ∀ (x4 : Int32) (x5 : Int32)  (σ : ab_S), Wire σ → wX12_writeRule_j301 a0 a1 Q E K307 Bk x4 x5 σ → V l mdX12_writeRule B 2 53 0 0 (ab_End (fun v σ' => Wire σ' ∧ v = none ∧ Q σ') (fun X σ' => Wire σ' ∧ E X σ')) 301 [(0, .ref 92), (1, .int a0), (2, .int a1), (4, .int x4), (5, .int x5)] [] σ := by
        intro x4 x5  σ hW h
        obtain ⟨v6, ev6⟩ : ∃ z : Int32, z = (x5 + 1) := ⟨_, rfl⟩
        replace h := h v6 ev6
        refine V_iinc 161 4 (v := v6) (lv' := [(5, .int v6), (0, .ref 92), (1, .int a0), (2, .int a1), (4, .int x4)]) rfl rfl ((in_1 _).trans ev6.symm) (by decide) rfl ?_
        refine V_goto 162 (tgt := 35) rfl (by decide) ?_
        refine V_sub [1, 2, 3, 4, 0] (lv' := [(0, .ref 92), (1, .int a0), (2, .int a1), (4, .int x4), (5, .int v6)]) rfl ?_
        exact k_Bk x4 v6  σ hW h
      have k_j209 : ∀ (x4 : Int32) (x5 : Int32) (y0 : Int32) (y1 : Int32)  (σ : ab_S), Wire σ → wX12_writeRule_j209 a0 a1 Q E K307 Bk x4 x5 y0 y1 σ → V l mdX12_writeRule B 2 53 0 0 (ab_End (fun v σ' => Wire σ' ∧ v = none ∧ Q σ') (fun X σ' => Wire σ' ∧ E X σ')) 209 [(0, .ref 92), (1, .int a0), (2, .int a1), (4, .int x4), (5, .int x5)] [.int y0, .int y1, .ref 92] σ := by
        intro x4 x5 y0 y1  σ hW h
        refine V_callV 115 2 (as := [.int y1, .int y0]) (rest := []) rfl mlX12_560 yvX12_write rfl rfl clX12 (wsh hW rfl) (by decide) (by decide) (Nat.le_of_ble_eq_true rfl) (by decide) (by decide) (fun B9 => ceX12_write hl B9 hW h) (fun X9 τ9 h9 => VX_out rfl h9) ?_
        rintro v9 σ7 ⟨hW, rfl, h⟩
        refine V_goto 116 (tgt := 301) rfl (by decide) ?_
        exact k_j301 x4 x5 σ7 hW h
      have k_j191 : ∀ (x4 : Int32) (x5 : Int32) (x6 : Int32) (y0 : Int32)  (σ : ab_S), Wire σ → wX12_writeRule_j191 a0 a1 Q E K307 Bk x4 x5 x6 y0 σ → V l mdX12_writeRule B 2 53 0 0 (ab_End (fun v σ' => Wire σ' ∧ v = none ∧ Q σ') (fun X σ' => Wire σ' ∧ E X σ')) 191 [(0, .ref 92), (1, .int a0), (2, .int a1), (4, .int x4), (5, .int x5), (6, .int x6)] [.int y0, .ref 92] σ := by
        intro x4 x5 x6 y0  σ hW h
        refine V_iload 106 5 rfl rfl ?_
        refine V_bipush 107 (v := (40 : Int32)) rfl (by decide) ?_
        refine V_icmp_ne 108 (tgt := 208) rfl (by decide) (fun hc => ?_) (fun hc => ?_)
        · replace h := h.1 hc
          refine V_iconst 114 (v := (0 : Int32)) rfl (by decide) ?_
          refine V_sub [0, 1, 2, 3, 4] (lv' := [(0, .ref 92), (1, .int a0), (2, .int a1), (4, .int x4), (5, .int x5)]) rfl ?_
          exact k_j209 x4 x5 (0 : Int32) y0 σ hW h
        · replace h := h.2 hc
          refine V_pc 198 rfl ?_
          refine V_aload_n 109 0 rfl rfl rfl ?_
          refine V_getR 110 23 rfl clX12 flX12_57 (by decide) (wsh hW rfl) (fun _ => rfl) (wrf hW 109 rfl) ?_
          refine V_iload 111 4 rfl rfl ?_
          obtain ⟨hin, h⟩ := h
          refine V_iald 112 rfl (wsh hW rfl) hin ?_
          refine V_goto 113 (tgt := 209) rfl (by decide) ?_
          refine V_sub [0, 1, 2, 3, 4] (lv' := [(0, .ref 92), (1, .int a0), (2, .int a1), (4, .int x4), (5, .int x5)]) rfl ?_
          exact k_j209 x4 x5 (σ.2.1 108 x5.toNatClampNeg) y0 σ hW h
      have k_j178 : ∀ (x4 : Int32) (x5 : Int32) (x6 : Int32)  (σ : ab_S), Wire σ → wX12_writeRule_j178 a0 a1 Q E K307 Bk x4 x5 x6 σ → V l mdX12_writeRule B 2 53 0 0 (ab_End (fun v σ' => Wire σ' ∧ v = none ∧ Q σ') (fun X σ' => Wire σ' ∧ E X σ')) 178 [(0, .ref 92), (1, .int a0), (2, .int a1), (4, .int x4), (5, .int x5), (6, .int x6)] [] σ := by
        intro x4 x5 x6  σ hW h
        refine V_aload_n 99 0 rfl rfl rfl ?_
        refine V_iload 100 5 rfl rfl ?_
        refine V_bipush 101 (v := (40 : Int32)) rfl (by decide) ?_
        refine V_icmp_ne 102 (tgt := 190) rfl (by decide) (fun hc => ?_) (fun hc => ?_)
        · replace h := h.1 hc
          refine V_iconst 105 (v := (1 : Int32)) rfl (by decide) ?_
          exact k_j191 x4 x5 x6 (1 : Int32) σ hW h
        · replace h := h.2 hc
          refine V_pc 186 rfl ?_
          refine V_iconst 103 (v := (0 : Int32)) rfl (by decide) ?_
          refine V_goto 104 (tgt := 191) rfl (by decide) ?_
          exact k_j191 x4 x5 x6 (0 : Int32) σ hW h
      have k_j273 : ∀ (x4 : Int32) (x5 : Int32) (y0 : Int32)  (σ : ab_S), Wire σ → wX12_writeRule_j273 a0 a1 Q E K307 Bk x4 x5 y0 σ → V l mdX12_writeRule B 2 53 0 0 (ab_End (fun v σ' => Wire σ' ∧ v = none ∧ Q σ') (fun X σ' => Wire σ' ∧ E X σ')) 273 [(0, .ref 92), (1, .int a0), (2, .int a1), (4, .int x4), (5, .int x5)] [.int y0, .ref 92] σ := by
        intro x4 x5 y0  σ hW h
        refine V_aload_n 147 0 rfl rfl rfl ?_
        refine V_iload_n 148 1 rfl rfl rfl ?_
        refine V_aload_n 149 0 rfl rfl rfl ?_
        refine V_getR 150 23 rfl clX12 flX12_57 (by decide) (wsh hW rfl) (fun _ => rfl) (wrf hW 109 rfl) ?_
        refine V_iload 151 4 rfl rfl ?_
        obtain ⟨hin, h⟩ := h
        refine V_iald 152 rfl (wsh hW rfl) hin ?_
        refine V_pc 282 rfl ?_
        refine V_callV 153 2 (as := [.int a0, .int (σ.2.1 108 x5.toNatClampNeg)]) (rest := [.int y0, .ref 92]) rfl mlX12_566 yvX12_toldBy rfl rfl clX12 (wsh hW rfl) (by decide) (by decide) (Nat.le_of_ble_eq_true rfl) (by decide) (by decide) (fun B9 => ceX12_toldBy hl B9 hW h) (fun X9 τ9 h9 => VX_out rfl h9) ?_
        rintro v9 σ8 ⟨hW, u9, rfl, h⟩
        refine V_callV 154 2 (as := [.int y0, .int u9]) (rest := []) rfl mlX12_560 yvX12_write rfl rfl clX12 (wsh hW rfl) (by decide) (by decide) (Nat.le_of_ble_eq_true rfl) (by decide) (by decide) (fun B9 => ceX12_write hl B9 hW h) (fun X9 τ9 h9 => VX_out rfl h9) ?_
        rintro v9 σ10 ⟨hW, rfl, h⟩
        refine V_goto 155 (tgt := 301) rfl (by decide) ?_
        exact k_j301 x4 x5 σ10 hW h
      have k_j129 : ∀ (x4 : Int32) (x5 : Int32)  (σ : ab_S), Wire σ → wX12_writeRule_j129 a0 a1 Q E K307 Bk x4 x5 σ → V l mdX12_writeRule B 2 53 0 0 (ab_End (fun v σ' => Wire σ' ∧ v = none ∧ Q σ') (fun X σ' => Wire σ' ∧ E X σ')) 129 [(0, .ref 92), (1, .int a0), (2, .int a1), (4, .int x4), (5, .int x5)] [] σ := by
        intro x4 x5  σ hW h
        refine V_aload_n 75 0 rfl rfl rfl ?_
        refine V_getR 76 22 rfl clX12 flX12_54 (by decide) (wsh hW rfl) (fun _ => rfl) (wrf hW 108 rfl) ?_
        refine V_iload 77 4 rfl rfl ?_
        obtain ⟨hin, h⟩ := h
        refine V_iald 78 rfl (wsh hW rfl) hin ?_
        refine V_topi (fun v11 ev11 => ?_)
        replace h := h v11 ev11
        refine V_istore 79 (lv' := [(6, .int v11), (0, .ref 92), (1, .int a0), (2, .int a1), (4, .int x4), (5, .int x5)]) rfl (by decide) rfl ?_
        refine V_iload 80 0 rfl rfl ?_
        refine V_pc 140 rfl ?_
        refine V_bipush 81 (v := (31 : Int32)) rfl (by decide) ?_
        refine V_icmp_ne 82 (tgt := 164) rfl (by decide) (fun hc => ?_) (fun hc => ?_)
        · replace h := h.1 hc
          refine V_iload 93 0 rfl rfl ?_
          refine V_bipush 94 (v := (40 : Int32)) rfl (by decide) ?_
          refine V_icmp_eq 95 (tgt := 178) rfl (by decide) (fun hc => ?_) (fun hc => ?_)
          · replace h := h.1 hc
            refine V_sub [1, 2, 3, 4, 5, 0] (lv' := [(0, .ref 92), (1, .int a0), (2, .int a1), (4, .int x4), (5, .int x5), (6, .int v11)]) rfl ?_
            exact k_j178 x4 x5 v11 σ hW h
          · replace h := h.2 hc
            refine V_pc 171 rfl ?_
            refine V_iload 96 0 rfl rfl ?_
            refine V_bipush 97 (v := (41 : Int32)) rfl (by decide) ?_
            refine V_icmp_ne 98 (tgt := 215) rfl (by decide) (fun hc => ?_) (fun hc => ?_)
            · replace h := h.1 hc
              refine V_iload 117 0 rfl rfl ?_
              refine V_bipush 118 (v := (50 : Int32)) rfl (by decide) ?_
              refine V_icmp_ne 119 (tgt := 291) rfl (by decide) (fun hc => ?_) (fun hc => ?_)
              · replace h := h.1 hc
                refine V_aload_n 156 1 rfl rfl rfl ?_
                refine V_iload 157 0 rfl rfl ?_
                refine V_callS 158 1 (as := [.int v11]) (rest := [.ref 92]) rfl mlX12_569 yvX12_kindOf rfl rfl (by decide) (by decide) (Nat.le_of_ble_eq_true rfl) (by decide) (by decide) (fun B9 => ceX12_kindOf hl B9 hW h) (fun X9 τ9 h9 => VX_out rfl h9) ?_
                rintro v9 σ12 ⟨hW, u13, rfl, h⟩
                refine V_iconst 159 (v := (0 : Int32)) rfl (by decide) ?_
                refine V_callV 160 2 (as := [.int u13, .int (0 : Int32)]) (rest := []) rfl mlX12_560 yvX12_write rfl rfl clX12 (wsh hW rfl) (by decide) (by decide) (Nat.le_of_ble_eq_true rfl) (by decide) (by decide) (fun B9 => ceX12_write hl B9 hW h) (fun X9 τ9 h9 => VX_out rfl h9) ?_
                rintro v9 σ14 ⟨hW, rfl, h⟩
                refine V_sub [1, 2, 3, 4, 5] (lv' := [(0, .ref 92), (1, .int a0), (2, .int a1), (4, .int x4), (5, .int x5)]) rfl ?_
                exact k_j301 x4 x5 σ14 hW h
              · replace h := h.2 hc
                refine V_pc 222 rfl ?_
                refine V_aload_n 120 1 rfl rfl rfl ?_
                refine V_iload_n 121 2 rfl rfl rfl ?_
                refine V_aload_n 122 1 rfl rfl rfl ?_
                refine V_getR 123 23 rfl clX12 flX12_57 (by decide) (wsh hW rfl) (fun _ => rfl) (wrf hW 109 rfl) ?_
                refine V_iload 124 5 rfl rfl ?_
                obtain ⟨hin, h⟩ := h
                refine V_iald 125 rfl (wsh hW rfl) hin ?_
                refine V_pc 231 rfl ?_
                refine V_callV 126 2 (as := [.int a0, .int (σ.2.1 108 x5.toNatClampNeg)]) (rest := []) rfl mlX12_563 yvX12_storeAt rfl rfl clX12 (wsh hW rfl) (by decide) (by decide) (Nat.le_of_ble_eq_true rfl) (by decide) (by decide) (fun B9 => ceX12_storeAt hl B9 hW h) (fun X9 τ9 h9 => VX_out rfl h9) ?_
                rintro v9 σ15 ⟨hW, u16, rfl, h⟩
                refine V_istore 127 (lv' := [(7, .int u16), (6, .int v11), (0, .ref 92), (1, .int a0), (2, .int a1), (4, .int x4), (5, .int x5)]) rfl (by decide) rfl ?_
                refine V_aload_n 128 2 rfl rfl rfl ?_
                refine V_iload 129 0 rfl rfl ?_
                refine V_iconst 130 (v := (2 : Int32)) rfl (by decide) ?_
                refine V_icmp_ne 131 (tgt := 247) rfl (by decide) (fun hc => ?_) (fun hc => ?_)
                · replace h := h.1 hc
                  refine V_iload 134 0 rfl rfl ?_
                  refine V_if_ne 135 (tgt := 256) rfl (by decide) (fun hc => ?_) (fun hc => ?_)
                  · replace h := h.1 hc
                    refine V_aload_n 138 2 rfl rfl rfl ?_
                    refine V_getR 139 23 rfl clX12 flX12_57 (by decide) (wsh hW rfl) (fun _ => rfl) (wrf hW 109 rfl) ?_
                    refine V_iload 140 6 rfl rfl ?_
                    obtain ⟨hin, h⟩ := h
                    refine V_iald 141 rfl (wsh hW rfl) hin ?_
                    refine V_bipush 142 (v := (8 : Int32)) rfl (by decide) ?_
                    refine V_icmp_ge 143 (tgt := 272) rfl (by decide) (fun hc => ?_) (fun hc => ?_)
                    · replace h := h.1 hc
                      refine V_iconst 146 (v := (4 : Int32)) rfl (by decide) ?_
                      refine V_sub [2, 3, 4, 5, 6] (lv' := [(0, .ref 92), (1, .int a0), (2, .int a1), (4, .int x4), (5, .int x5)]) rfl ?_
                      exact k_j273 x4 x5 (4 : Int32) σ15 hW h
                    · replace h := h.2 hc
                      refine V_pc 268 rfl ?_
                      refine V_iconst 144 (v := (5 : Int32)) rfl (by decide) ?_
                      refine V_goto 145 (tgt := 273) rfl (by decide) ?_
                      refine V_sub [2, 3, 4, 5, 6] (lv' := [(0, .ref 92), (1, .int a0), (2, .int a1), (4, .int x4), (5, .int x5)]) rfl ?_
                      exact k_j273 x4 x5 (5 : Int32) σ15 hW h
                  · replace h := h.2 hc
                    refine V_pc 252 rfl ?_
                    refine V_iconst 136 (v := (3 : Int32)) rfl (by decide) ?_
                    refine V_goto 137 (tgt := 273) rfl (by decide) ?_
                    refine V_sub [2, 3, 4, 5, 6] (lv' := [(0, .ref 92), (1, .int a0), (2, .int a1), (4, .int x4), (5, .int x5)]) rfl ?_
                    exact k_j273 x4 x5 (3 : Int32) σ15 hW h
                · replace h := h.2 hc
                  refine V_pc 243 rfl ?_
                  refine V_iconst 132 (v := (2 : Int32)) rfl (by decide) ?_
                  refine V_goto 133 (tgt := 273) rfl (by decide) ?_
                  refine V_sub [2, 3, 4, 5, 6] (lv' := [(0, .ref 92), (1, .int a0), (2, .int a1), (4, .int x4), (5, .int x5)]) rfl ?_
                  exact k_j273 x4 x5 (2 : Int32) σ15 hW h
            · replace h := h.2 hc
              refine V_pc 178 rfl ?_
              refine V_sub [1, 2, 3, 4, 5, 0] (lv' := [(0, .ref 92), (1, .int a0), (2, .int a1), (4, .int x4), (5, .int x5), (6, .int v11)]) rfl ?_
              exact k_j178 x4 x5 v11 σ hW h
        · replace h := h.2 hc
          refine V_pc 145 rfl ?_
          refine V_aload_n 83 1 rfl rfl rfl ?_
          refine V_getR 84 76 rfl clX12 flX12_174 (by decide) (wsh hW rfl) (fun _ => rfl) (wrf hW 148 rfl) ?_
          refine V_aload_n 85 1 rfl rfl rfl ?_
          refine V_getR 86 82 rfl clX12 flX12_192 (by decide) (wsh hW rfl) (fun _ => rfl) (wrf hW 154 rfl) ?_
          refine V_iload 87 5 rfl rfl ?_
          obtain ⟨hin, h⟩ := h
          refine V_iald 88 rfl (wsh hW rfl) hin ?_
          refine V_pc 156 rfl ?_
          refine V_aload_n 89 1 rfl rfl rfl ?_
          refine V_get (v := .int (σ.2.1 92 74)) 90 74 rfl clX12 flX12_551 (by decide) (wsh hW rfl) (fun _ => rfl) ?_
          obtain ⟨hin, h⟩ := h
          refine V_iast 91 rfl (wsh hW rfl) hin ?_
          refine V_nm (fun σ17 eσ17 => ?_)
          replace h := h σ17 eσ17
          have hW := wire_I eσ17 hW
          refine V_goto 92 (tgt := 301) rfl (by decide) ?_
          refine V_sub [1, 2, 3, 4, 5] (lv' := [(0, .ref 92), (1, .int a0), (2, .int a1), (4, .int x4), (5, .int x5)]) rfl ?_
          exact k_j301 x4 x5 σ17 hW h
      have k_j75 : ∀ (x4 : Int32) (x5 : Int32)  (σ : ab_S), Wire σ → wX12_writeRule_j75 a0 a1 Q E K307 Bk x4 x5 σ → V l mdX12_writeRule B 2 53 0 0 (ab_End (fun v σ' => Wire σ' ∧ v = none ∧ Q σ') (fun X σ' => Wire σ' ∧ E X σ')) 75 [(0, .ref 92), (1, .int a0), (2, .int a1), (4, .int x4), (5, .int x5)] [] σ := by
        intro x4 x5  σ hW h
        refine V_aload_n 45 0 rfl rfl rfl ?_
        refine V_getR 46 80 rfl clX12 flX12_186 (by decide) (wsh hW rfl) (fun _ => rfl) (wrf hW 152 rfl) ?_
        refine V_iload 47 4 rfl rfl ?_
        obtain ⟨hin, h⟩ := h
        refine V_iald 48 rfl (wsh hW rfl) hin ?_
        refine V_if_lt 49 (tgt := 129) rfl (by decide) (fun hc => ?_) (fun hc => ?_)
        · replace h := h.1 hc
          exact k_j129 x4 x5 σ hW h
        · replace h := h.2 hc
          refine V_pc 85 rfl ?_
          refine V_aload_n 50 0 rfl rfl rfl ?_
          refine V_getR 51 82 rfl clX12 flX12_192 (by decide) (wsh hW rfl) (fun _ => rfl) (wrf hW 154 rfl) ?_
          refine V_aload_n 52 0 rfl rfl rfl ?_
          refine V_getR 53 80 rfl clX12 flX12_186 (by decide) (wsh hW rfl) (fun _ => rfl) (wrf hW 152 rfl) ?_
          refine V_iload 54 4 rfl rfl ?_
          obtain ⟨hin, h⟩ := h
          refine V_iald 55 rfl (wsh hW rfl) hin ?_
          refine V_pc 96 rfl ?_
          refine V_aload_n 56 0 rfl rfl rfl ?_
          refine V_get (v := .int (σ.2.1 92 74)) 57 74 rfl clX12 flX12_551 (by decide) (wsh hW rfl) (fun _ => rfl) ?_
          obtain ⟨hin, h⟩ := h
          refine V_iast 58 rfl (wsh hW rfl) hin ?_
          refine V_nm (fun σ18 eσ18 => ?_)
          replace h := h σ18 eσ18
          have hW := wire_I eσ18 hW
          refine V_aload_n 59 0 rfl rfl rfl ?_
          refine V_bipush 60 (v := (14 : Int32)) rfl (by decide) ?_
          refine V_iconst 61 (v := (0 : Int32)) rfl (by decide) ?_
          refine V_pc 105 rfl ?_
          refine V_callV 62 2 (as := [.int (14 : Int32), .int (0 : Int32)]) (rest := []) rfl mlX12_560 yvX12_write rfl rfl clX12 (wsh hW rfl) (by decide) (by decide) (Nat.le_of_ble_eq_true rfl) (by decide) (by decide) (fun B9 => ceX12_write hl B9 hW h) (fun X9 τ9 h9 => VX_out rfl h9) ?_
          rintro v9 σ19 ⟨hW, rfl, h⟩
          refine V_aload_n 63 0 rfl rfl rfl ?_
          refine V_getR 64 76 rfl clX12 flX12_174 (by decide) (wsh hW rfl) (fun _ => rfl) (wrf hW 148 rfl) ?_
          refine V_aload_n 65 0 rfl rfl rfl ?_
          refine V_getR 66 81 rfl clX12 flX12_189 (by decide) (wsh hW rfl) (fun _ => rfl) (wrf hW 153 rfl) ?_
          refine V_aload_n 67 0 rfl rfl rfl ?_
          refine V_pc 117 rfl ?_
          refine V_getR 68 80 rfl clX12 flX12_186 (by decide) (wsh hW rfl) (fun _ => rfl) (wrf hW 152 rfl) ?_
          refine V_iload 69 4 rfl rfl ?_
          obtain ⟨hin, h⟩ := h
          refine V_iald 70 rfl (wsh hW rfl) hin ?_
          obtain ⟨hin, h⟩ := h
          refine V_iald 71 rfl (wsh hW rfl) hin ?_
          refine V_aload_n 72 0 rfl rfl rfl ?_
          refine V_get (v := .int (σ19.2.1 92 74)) 73 74 rfl clX12 flX12_551 (by decide) (wsh hW rfl) (fun _ => rfl) ?_
          refine V_pc 128 rfl ?_
          obtain ⟨hin, h⟩ := h
          refine V_iast 74 rfl (wsh hW rfl) hin ?_
          refine V_nm (fun σ20 eσ20 => ?_)
          replace h := h σ20 eσ20
          have hW := wire_I eσ20 hW
          exact k_j129 x4 x5 σ20 hW h
      intro x4 x5  σ hW h
      refine V_iload 24 4 rfl rfl ?_
      refine V_iload 25 3 rfl rfl ?_
      refine V_icmp_ge 26 (tgt := 307) rfl (by decide) (fun hc => ?_) (fun hc => ?_)
      · replace h := h.1 hc
        refine V_sub [0, 1, 2] (lv' := [(0, .ref 92), (1, .int a0), (2, .int a1)]) rfl ?_
        exact k_K307  σ hW h
      · replace h := h.2 hc
        refine V_pc 42 rfl ?_
        refine V_aload_n 27 0 rfl rfl rfl ?_
        refine V_getR 28 79 rfl clX12 flX12_183 (by decide) (wsh hW rfl) (fun _ => rfl) (wrf hW 151 rfl) ?_
        refine V_iload 29 4 rfl rfl ?_
        obtain ⟨hin, h⟩ := h
        refine V_iald 30 rfl (wsh hW rfl) hin ?_
        refine V_if_lt 31 (tgt := 75) rfl (by decide) (fun hc => ?_) (fun hc => ?_)
        · replace h := h.1 hc
          exact k_j75 x4 x5 σ hW h
        · replace h := h.2 hc
          refine V_pc 52 rfl ?_
          refine V_aload_n 32 0 rfl rfl rfl ?_
          refine V_getR 33 81 rfl clX12 flX12_189 (by decide) (wsh hW rfl) (fun _ => rfl) (wrf hW 153 rfl) ?_
          refine V_aload_n 34 0 rfl rfl rfl ?_
          refine V_getR 35 79 rfl clX12 flX12_183 (by decide) (wsh hW rfl) (fun _ => rfl) (wrf hW 151 rfl) ?_
          refine V_iload 36 4 rfl rfl ?_
          obtain ⟨hin, h⟩ := h
          refine V_iald 37 rfl (wsh hW rfl) hin ?_
          refine V_pc 63 rfl ?_
          refine V_aload_n 38 0 rfl rfl rfl ?_
          refine V_get (v := .int (σ.2.1 92 74)) 39 74 rfl clX12 flX12_551 (by decide) (wsh hW rfl) (fun _ => rfl) ?_
          obtain ⟨hin, h⟩ := h
          refine V_iast 40 rfl (wsh hW rfl) hin ?_
          refine V_nm (fun σ21 eσ21 => ?_)
          replace h := h σ21 eσ21
          have hW := wire_I eσ21 hW
          refine V_aload_n 41 0 rfl rfl rfl ?_
          refine V_bipush 42 (v := (13 : Int32)) rfl (by decide) ?_
          refine V_iconst 43 (v := (0 : Int32)) rfl (by decide) ?_
          refine V_pc 72 rfl ?_
          refine V_callV 44 2 (as := [.int (13 : Int32), .int (0 : Int32)]) (rest := []) rfl mlX12_560 yvX12_write rfl rfl clX12 (wsh hW rfl) (by decide) (by decide) (Nat.le_of_ble_eq_true rfl) (by decide) (by decide) (fun B9 => ceX12_write hl B9 hW h) (fun X9 τ9 h9 => VX_out rfl h9) ?_
          rintro v9 σ22 ⟨hW, rfl, h⟩
          exact k_j75 x4 x5 σ22 hW h
    intro n
    induction n with
    | zero => intro x4 x5  σ hW h; exact absurd h id
    | succ n ih => exact step _ k_j307 _ ih
  intro σ hW h
  refine V_aload_n 0 0 rfl rfl rfl ?_
  refine V_getR 1 19 rfl clX12 flX12_48 (by decide) (wsh hW rfl) (fun _ => rfl) (wrf hW 106 rfl) ?_
  refine V_bipush 2 (v := (32 : Int32)) rfl (by decide) ?_
  refine V_iload_n 3 1 rfl rfl rfl ?_
  refine V_imul 4 rfl ?_
  refine V_iload_n 5 2 rfl rfl rfl ?_
  refine V_pc 9 rfl ?_
  refine V_iadd 6 rfl ?_
  obtain ⟨hin, h⟩ := h
  refine V_iald 7 rfl (wsh hW rfl) hin ?_
  refine V_topi (fun v23 ev23 => ?_)
  replace h := h v23 ev23
  refine V_istore_n 8 (lv' := [(3, .int v23), (0, .ref 92), (1, .int a0), (2, .int a1)]) rfl rfl (by decide) rfl ?_
  refine V_aload_n 9 1 rfl rfl rfl ?_
  refine V_getR 10 20 rfl clX12 flX12_51 (by decide) (wsh hW rfl) (fun _ => rfl) (wrf hW 107 rfl) ?_
  refine V_bipush 11 (v := (32 : Int32)) rfl (by decide) ?_
  refine V_pc 18 rfl ?_
  refine V_iload_n 12 2 rfl rfl rfl ?_
  refine V_imul 13 rfl ?_
  refine V_iload_n 14 3 rfl rfl rfl ?_
  refine V_iadd 15 rfl ?_
  obtain ⟨hin, h⟩ := h
  refine V_iald 16 rfl (wsh hW rfl) hin ?_
  refine V_topi (fun v24 ev24 => ?_)
  replace h := h v24 ev24
  refine V_istore 17 (lv' := [(4, .int v24), (3, .int v23), (0, .ref 92), (1, .int a0), (2, .int a1)]) rfl (by decide) rfl ?_
  refine V_pc 25 rfl ?_
  refine V_aload_n 18 2 rfl rfl rfl ?_
  refine V_iload_n 19 1 rfl rfl rfl ?_
  refine V_iload 20 0 rfl rfl ?_
  refine V_callV 21 2 (as := [.int v23, .int v24]) (rest := []) rfl mlX12_557 yvX12_findParts rfl rfl clX12 (wsh hW rfl) (by decide) (by decide) (Nat.le_of_ble_eq_true rfl) (by decide) (by decide) (fun B9 => ceX12_findParts hl B9 hW h) (fun X9 τ9 h9 => VX_out rfl h9) ?_
  rintro v9 σ25 ⟨hW, rfl, h⟩
  refine V_iload_n 22 1 rfl rfl rfl ?_
  refine V_istore 23 (lv' := [(5, .int v23), (4, .int v24), (3, .int v23), (0, .ref 92), (1, .int a0), (2, .int a1)]) rfl (by decide) rfl ?_
  refine V_sub [3, 4, 5, 1, 0] (lv' := [(0, .ref 92), (1, .int a0), (2, .int a1), (4, .int v24), (5, .int v23)]) rfl ?_
  obtain ⟨n, h⟩ := h
  exact k_l35 n v24 v23 σ25 hW h

def wX12_makeProgram_j150 (Q : ab_S → Prop) (E : String → ab_S → Prop) (Bk : Int32 → ab_S → Prop) (x1 : Int32) (σ : ab_S) : Prop := ∀ v1 : Int32, v1 = (x1 + 1) → Bk v1 σ
def wX12_makeProgram_j137 (Q : ab_S → Prop) (E : String → ab_S → Prop) (K150 : Int32 → ab_S → Prop) (Bk : Int32 → Int32 → ab_S → Prop) (x1 : Int32) (x2 : Int32) (σ : ab_S) : Prop := wX12_write (20 : Int32) (0 : Int32) (fun σ2 => ∀ v3 : Int32, v3 = (x2 + 1) → Bk x1 v3 σ2) E σ
def wX12_makeProgram_j131 (Q : ab_S → Prop) (E : String → ab_S → Prop) (K137 : Int32 → Int32 → ab_S → Prop) (Bk : Int32 → Int32 → Int32 → ab_S → Prop) (x1 : Int32) (x2 : Int32) (x3 : Int32) (σ : ab_S) : Prop := ∀ v4 : Int32, v4 = (x3 + 1) → Bk x1 x2 v4 σ
def wX12_makeProgram_l61_b (Q : ab_S → Prop) (E : String → ab_S → Prop) (K137 : Int32 → Int32 → ab_S → Prop) (Bk : Int32 → Int32 → Int32 → ab_S → Prop) (x1 : Int32) (x2 : Int32) (x3 : Int32) (σ : ab_S) : Prop := vp_in (((6 : Int32) * x1) + x2) 187 ∧ ((((σ.2.1 115 (((6 : Int32) * x1) + x2).toNatClampNeg) ≤ x3) → K137 x1 x2 σ) ∧ (¬ ((σ.2.1 115 (((6 : Int32) * x1) + x2).toNatClampNeg) ≤ x3) → vp_in x3 1600 ∧ ((((10 : Int32) ≤ (σ.2.1 113 x3.toNatClampNeg)) → vp_in x3 1600 ∧ (vp_in x3 1600 ∧ (wX12_writeRule x1 (((8 : Int32) * (((σ.2.1 113 x3.toNatClampNeg) / (10 : Int32)) - (1 : Int32))) + ((σ.2.1 113 x3.toNatClampNeg) - (σ.2.1 113 x3.toNatClampNeg) / (10 : Int32) * (10 : Int32))) (fun σ5 => wX12_makeProgram_j131 Q E K137 Bk x1 x2 x3 σ5) E σ))) ∧ (¬ ((10 : Int32) ≤ (σ.2.1 113 x3.toNatClampNeg)) → vp_in x3 1600 ∧ (wX12_write (19 : Int32) (σ.2.1 113 x3.toNatClampNeg) (fun σ6 => wX12_makeProgram_j131 Q E K137 Bk x1 x2 x3 σ6) E σ)))))
def wX12_makeProgram_l61 (Q : ab_S → Prop) (E : String → ab_S → Prop) (K137 : Int32 → Int32 → ab_S → Prop) : Nat → Int32 → Int32 → Int32 → ab_S → Prop
  | 0, _, _, _, _ => False
  | n + 1, x1, x2, x3, σ => wX12_makeProgram_l61_b Q E K137 (wX12_makeProgram_l61 Q E K137 n) x1 x2 x3 σ
def wX12_makeProgram_l17_b (Q : ab_S → Prop) (E : String → ab_S → Prop) (K150 : Int32 → ab_S → Prop) (Bk : Int32 → Int32 → ab_S → Prop) (x1 : Int32) (x2 : Int32) (σ : ab_S) : Prop := vp_in ((4 : Int32) * x1) 124 ∧ (vp_in (σ.2.1 104 ((4 : Int32) * x1).toNatClampNeg) 13 ∧ ((((σ.2.1 112 (σ.2.1 104 ((4 : Int32) * x1).toNatClampNeg).toNatClampNeg) < x2) → K150 x1 σ) ∧ (¬ ((σ.2.1 112 (σ.2.1 104 ((4 : Int32) * x1).toNatClampNeg).toNatClampNeg) < x2) → vp_in (((6 : Int32) * x1) + x2) 187 ∧ (∀ σ7 : ab_S, σ7 = ab_I σ 148 (((6 : Int32) * x1) + x2).toNatClampNeg (σ.2.1 92 74) → vp_in (((6 : Int32) * x1) + x2) 187 ∧ (∀ v8 : Int32, v8 = (σ7.2.1 114 (((6 : Int32) * x1) + x2).toNatClampNeg) → ∃ n, wX12_makeProgram_l61 Q E (wX12_makeProgram_j137 Q E K150 Bk) n x1 x2 v8 σ7)))))
def wX12_makeProgram_l17 (Q : ab_S → Prop) (E : String → ab_S → Prop) (K150 : Int32 → ab_S → Prop) : Nat → Int32 → Int32 → ab_S → Prop
  | 0, _, _, _ => False
  | n + 1, x1, x2, σ => wX12_makeProgram_l17_b Q E K150 (wX12_makeProgram_l17 Q E K150 n) x1 x2 σ
def wX12_makeProgram_l7_b (Q : ab_S → Prop) (E : String → ab_S → Prop) (Bk : Int32 → ab_S → Prop) (x1 : Int32) (σ : ab_S) : Prop := (((σ.2.1 92 14) ≤ x1) → Q σ) ∧ (¬ ((σ.2.1 92 14) ≤ x1) → ∃ n, wX12_makeProgram_l17 Q E (wX12_makeProgram_j150 Q E Bk) n x1 (1 : Int32) σ)
def wX12_makeProgram_l7 (Q : ab_S → Prop) (E : String → ab_S → Prop) : Nat → Int32 → ab_S → Prop
  | 0, _, _ => False
  | n + 1, x1, σ => wX12_makeProgram_l7_b Q E (wX12_makeProgram_l7 Q E n) x1 σ
def wX12_makeProgram  (Q : ab_S → Prop) (E : String → ab_S → Prop) (σ : ab_S) : Prop := (∀ σ9 : ab_S, σ9 = ab_I σ 92 74 (0 : Int32) → ∃ n, wX12_makeProgram_l7 Q E n (0 : Int32) σ9)
set_option maxHeartbeats 4000000 in
set_option maxRecDepth 100000 in
theorem ceX12_makeProgram {l : Launch} (hl : l.stackTraces = false) (B : Nat)   {Q : ab_S → Prop} {E : String → ab_S → Prop} {σ : ab_S} (hW : Wire σ) (h : wX12_makeProgram  Q E σ) : ab_Mt l yX12_makeProgram mdX12_makeProgram B 3 80 0 0 [.ref 92] σ (fun v σ' => Wire σ' ∧ v = none ∧ Q σ') (fun X σ' => Wire σ' ∧ E X σ') := by
  refine V_met hl ⟨rfl, rfl, by decide⟩ rfl dkX12_makeProgram (Nat.le_of_ble_eq_true rfl) ?_
  show V l mdX12_makeProgram B 3 80 0 0 (ab_End _ _) 0 [(0, .ref 92)] [] σ
  revert h hW
  revert σ
  have k_l7 : ∀ (n : Nat) (x1 : Int32)  (σ : ab_S), Wire σ → wX12_makeProgram_l7 Q E n x1 σ → V l mdX12_makeProgram B 3 80 0 0 (ab_End (fun v σ' => Wire σ' ∧ v = none ∧ Q σ') (fun X σ' => Wire σ' ∧ E X σ')) 7 [(0, .ref 92), (1, .int x1)] [] σ := by
    have step : ∀ (Bk : Int32 → ab_S → Prop) (k_Bk : ∀ (x1 : Int32)  (σ : ab_S), Wire σ → Bk x1 σ → V l mdX12_makeProgram B 3 80 0 0 (ab_End (fun v σ' => Wire σ' ∧ v = none ∧ Q σ') (fun X σ' => Wire σ' ∧ E X σ')) 7 [(0, .ref 92), (1, .int x1)] [] σ), ∀ (x1 : Int32)  (σ : ab_S), Wire σ → wX12_makeProgram_l7_b Q E Bk x1 σ → V l mdX12_makeProgram B 3 80 0 0 (ab_End (fun v σ' => Wire σ' ∧ v = none ∧ Q σ') (fun X σ' => Wire σ' ∧ E X σ')) 7 [(0, .ref 92), (1, .int x1)] [] σ := by
      intro Bk k_Bk
      have k_j150 : ∀ (x1 : Int32)  (σ : ab_S), Wire σ → wX12_makeProgram_j150 Q E Bk x1 σ → V l mdX12_makeProgram B 3 80 0 0 (ab_End (fun v σ' => Wire σ' ∧ v = none ∧ Q σ') (fun X σ' => Wire σ' ∧ E X σ')) 150 [(0, .ref 92), (1, .int x1)] [] σ := by
        intro x1  σ hW h
        obtain ⟨v1, ev1⟩ : ∃ z : Int32, z = (x1 + 1) := ⟨_, rfl⟩
        replace h := h v1 ev1
        refine V_iinc 93 1 (v := v1) (lv' := [(1, .int v1), (0, .ref 92)]) rfl rfl ((in_1 _).trans ev1.symm) (by decide) rfl ?_
        refine V_goto 94 (tgt := 7) rfl (by decide) ?_
        refine V_sub [1, 0] (lv' := [(0, .ref 92), (1, .int v1)]) rfl ?_
        exact k_Bk v1  σ hW h
      have k_l17 : ∀ (n : Nat) (x1 : Int32) (x2 : Int32)  (σ : ab_S), Wire σ → wX12_makeProgram_l17 Q E (wX12_makeProgram_j150 Q E Bk) n x1 x2 σ → V l mdX12_makeProgram B 3 80 0 0 (ab_End (fun v σ' => Wire σ' ∧ v = none ∧ Q σ') (fun X σ' => Wire σ' ∧ E X σ')) 17 [(0, .ref 92), (1, .int x1), (2, .int x2)] [] σ := by
        have step : ∀ (K150 : Int32 → ab_S → Prop) (k_K150 : ∀ (x1 : Int32)  (σ : ab_S), Wire σ → K150 x1 σ → V l mdX12_makeProgram B 3 80 0 0 (ab_End (fun v σ' => Wire σ' ∧ v = none ∧ Q σ') (fun X σ' => Wire σ' ∧ E X σ')) 150 [(0, .ref 92), (1, .int x1)] [] σ), ∀ (Bk : Int32 → Int32 → ab_S → Prop) (k_Bk : ∀ (x1 : Int32) (x2 : Int32)  (σ : ab_S), Wire σ → Bk x1 x2 σ → V l mdX12_makeProgram B 3 80 0 0 (ab_End (fun v σ' => Wire σ' ∧ v = none ∧ Q σ') (fun X σ' => Wire σ' ∧ E X σ')) 17 [(0, .ref 92), (1, .int x1), (2, .int x2)] [] σ), ∀ (x1 : Int32) (x2 : Int32)  (σ : ab_S), Wire σ → wX12_makeProgram_l17_b Q E K150 Bk x1 x2 σ → V l mdX12_makeProgram B 3 80 0 0 (ab_End (fun v σ' => Wire σ' ∧ v = none ∧ Q σ') (fun X σ' => Wire σ' ∧ E X σ')) 17 [(0, .ref 92), (1, .int x1), (2, .int x2)] [] σ := by
          intro K150 k_K150 Bk k_Bk
          have k_j137 : ∀ (x1 : Int32) (x2 : Int32)  (σ : ab_S), Wire σ → wX12_makeProgram_j137 Q E K150 Bk x1 x2 σ → V l mdX12_makeProgram B 3 80 0 0 (ab_End (fun v σ' => Wire σ' ∧ v = none ∧ Q σ') (fun X σ' => Wire σ' ∧ E X σ')) 137 [(0, .ref 92), (1, .int x1), (2, .int x2)] [] σ := by
            intro x1 x2  σ hW h
            refine V_aload_n 87 0 rfl rfl rfl ?_
            refine V_bipush 88 (v := (20 : Int32)) rfl (by decide) ?_
            refine V_iconst 89 (v := (0 : Int32)) rfl (by decide) ?_
            refine V_callV 90 2 (as := [.int (20 : Int32), .int (0 : Int32)]) (rest := []) rfl mlX12_560 yvX12_write rfl rfl clX12 (wsh hW rfl) (by decide) (by decide) (Nat.le_of_ble_eq_true rfl) (by decide) (by decide) (fun B9 => ceX12_write hl B9 hW h) (fun X9 τ9 h9 => VX_out rfl h9) ?_
            rintro v9 σ2 ⟨hW, rfl, h⟩
            obtain ⟨v3, ev3⟩ : ∃ z : Int32, z = (x2 + 1) := ⟨_, rfl⟩
            replace h := h v3 ev3
            refine V_iinc 91 2 (v := v3) (lv' := [(2, .int v3), (0, .ref 92), (1, .int x1)]) rfl rfl ((in_1 _).trans ev3.symm) (by decide) rfl ?_
            refine V_goto 92 (tgt := 17) rfl (by decide) ?_
            refine V_sub [1, 2, 0] (lv' := [(0, .ref 92), (1, .int x1), (2, .int v3)]) rfl ?_
            exact k_Bk x1 v3  σ2 hW h
          have k_l61 : ∀ (n : Nat) (x1 : Int32) (x2 : Int32) (x3 : Int32)  (σ : ab_S), Wire σ → wX12_makeProgram_l61 Q E (wX12_makeProgram_j137 Q E K150 Bk) n x1 x2 x3 σ → V l mdX12_makeProgram B 3 80 0 0 (ab_End (fun v σ' => Wire σ' ∧ v = none ∧ Q σ') (fun X σ' => Wire σ' ∧ E X σ')) 61 [(0, .ref 92), (1, .int x1), (2, .int x2), (3, .int x3)] [] σ := by
            have step : ∀ (K137 : Int32 → Int32 → ab_S → Prop) (k_K137 : ∀ (x1 : Int32) (x2 : Int32)  (σ : ab_S), Wire σ → K137 x1 x2 σ → V l mdX12_makeProgram B 3 80 0 0 (ab_End (fun v σ' => Wire σ' ∧ v = none ∧ Q σ') (fun X σ' => Wire σ' ∧ E X σ')) 137 [(0, .ref 92), (1, .int x1), (2, .int x2)] [] σ), ∀ (Bk : Int32 → Int32 → Int32 → ab_S → Prop) (k_Bk : ∀ (x1 : Int32) (x2 : Int32) (x3 : Int32)  (σ : ab_S), Wire σ → Bk x1 x2 x3 σ → V l mdX12_makeProgram B 3 80 0 0 (ab_End (fun v σ' => Wire σ' ∧ v = none ∧ Q σ') (fun X σ' => Wire σ' ∧ E X σ')) 61 [(0, .ref 92), (1, .int x1), (2, .int x2), (3, .int x3)] [] σ), ∀ (x1 : Int32) (x2 : Int32) (x3 : Int32)  (σ : ab_S), Wire σ → wX12_makeProgram_l61_b Q E K137 Bk x1 x2 x3 σ → V l mdX12_makeProgram B 3 80 0 0 (ab_End (fun v σ' => Wire σ' ∧ v = none ∧ Q σ') (fun X σ' => Wire σ' ∧ E X σ')) 61 [(0, .ref 92), (1, .int x1), (2, .int x2), (3, .int x3)] [] σ := by
              intro K137 k_K137 Bk k_Bk
              have k_j131 : ∀ (x1 : Int32) (x2 : Int32) (x3 : Int32)  (σ : ab_S), Wire σ → wX12_makeProgram_j131 Q E K137 Bk x1 x2 x3 σ → V l mdX12_makeProgram B 3 80 0 0 (ab_End (fun v σ' => Wire σ' ∧ v = none ∧ Q σ') (fun X σ' => Wire σ' ∧ E X σ')) 131 [(0, .ref 92), (1, .int x1), (2, .int x2), (3, .int x3)] [] σ := by
                intro x1 x2 x3  σ hW h
                obtain ⟨v4, ev4⟩ : ∃ z : Int32, z = (x3 + 1) := ⟨_, rfl⟩
                replace h := h v4 ev4
                refine V_iinc 85 3 (v := v4) (lv' := [(3, .int v4), (0, .ref 92), (1, .int x1), (2, .int x2)]) rfl rfl ((in_1 _).trans ev4.symm) (by decide) rfl ?_
                refine V_goto 86 (tgt := 61) rfl (by decide) ?_
                refine V_sub [1, 2, 3, 0] (lv' := [(0, .ref 92), (1, .int x1), (2, .int x2), (3, .int v4)]) rfl ?_
                exact k_Bk x1 x2 v4  σ hW h
              intro x1 x2 x3  σ hW h
              refine V_iload_n 41 3 rfl rfl rfl ?_
              refine V_aload_n 42 0 rfl rfl rfl ?_
              refine V_getR 43 31 rfl clX12 flX12_78 (by decide) (wsh hW rfl) (fun _ => rfl) (wrf hW 116 rfl) ?_
              refine V_bipush 44 (v := (6 : Int32)) rfl (by decide) ?_
              refine V_iload_n 45 1 rfl rfl rfl ?_
              refine V_imul 46 rfl ?_
              refine V_pc 70 rfl ?_
              refine V_iload_n 47 2 rfl rfl rfl ?_
              refine V_iadd 48 rfl ?_
              obtain ⟨hin, h⟩ := h
              refine V_iald 49 rfl (wsh hW rfl) hin ?_
              refine V_icmp_ge 50 (tgt := 137) rfl (by decide) (fun hc => ?_) (fun hc => ?_)
              · replace h := h.1 hc
                refine V_sub [0, 1, 2] (lv' := [(0, .ref 92), (1, .int x1), (2, .int x2)]) rfl ?_
                exact k_K137 x1 x2  σ hW h
              · replace h := h.2 hc
                refine V_pc 76 rfl ?_
                refine V_aload_n 51 0 rfl rfl rfl ?_
                refine V_getR 52 29 rfl clX12 flX12_72 (by decide) (wsh hW rfl) (fun _ => rfl) (wrf hW 114 rfl) ?_
                refine V_iload_n 53 3 rfl rfl rfl ?_
                obtain ⟨hin, h⟩ := h
                refine V_iald 54 rfl (wsh hW rfl) hin ?_
                refine V_bipush 55 (v := (10 : Int32)) rfl (by decide) ?_
                refine V_icmp_ge 56 (tgt := 102) rfl (by decide) (fun hc => ?_) (fun hc => ?_)
                · replace h := h.1 hc
                  refine V_aload_n 65 0 rfl rfl rfl ?_
                  refine V_iload_n 66 1 rfl rfl rfl ?_
                  refine V_bipush 67 (v := (8 : Int32)) rfl (by decide) ?_
                  refine V_aload_n 68 0 rfl rfl rfl ?_
                  refine V_getR 69 29 rfl clX12 flX12_72 (by decide) (wsh hW rfl) (fun _ => rfl) (wrf hW 114 rfl) ?_
                  refine V_iload_n 70 3 rfl rfl rfl ?_
                  refine V_pc 111 rfl ?_
                  obtain ⟨hin, h⟩ := h
                  refine V_iald 71 rfl (wsh hW rfl) hin ?_
                  refine V_bipush 72 (v := (10 : Int32)) rfl (by decide) ?_
                  refine V_idiv 73 rfl (by decide) ?_
                  refine V_iconst 74 (v := (1 : Int32)) rfl (by decide) ?_
                  refine V_isub 75 rfl ?_
                  refine V_imul 76 rfl ?_
                  refine V_pc 118 rfl ?_
                  refine V_aload_n 77 0 rfl rfl rfl ?_
                  refine V_getR 78 29 rfl clX12 flX12_72 (by decide) (wsh hW rfl) (fun _ => rfl) (wrf hW 114 rfl) ?_
                  refine V_iload_n 79 3 rfl rfl rfl ?_
                  obtain ⟨hin, h⟩ := h
                  refine V_iald 80 rfl (wsh hW rfl) hin ?_
                  refine V_bipush 81 (v := (10 : Int32)) rfl (by decide) ?_
                  refine V_irem 82 rfl (by decide) ?_
                  refine V_pc 127 rfl ?_
                  refine V_iadd 83 rfl ?_
                  refine V_callV 84 2 (as := [.int x1, .int (((8 : Int32) * (((σ.2.1 113 x3.toNatClampNeg) / (10 : Int32)) - (1 : Int32))) + ((σ.2.1 113 x3.toNatClampNeg) - (σ.2.1 113 x3.toNatClampNeg) / (10 : Int32) * (10 : Int32)))]) (rest := []) rfl mlX12_572 yvX12_writeRule rfl rfl clX12 (wsh hW rfl) (by decide) (by decide) (Nat.le_of_ble_eq_true rfl) (by decide) (by decide) (fun B9 => ceX12_writeRule hl B9 hW h) (fun X9 τ9 h9 => VX_out rfl h9) ?_
                  rintro v9 σ5 ⟨hW, rfl, h⟩
                  exact k_j131 x1 x2 x3 σ5 hW h
                · replace h := h.2 hc
                  refine V_pc 87 rfl ?_
                  refine V_aload_n 57 0 rfl rfl rfl ?_
                  refine V_bipush 58 (v := (19 : Int32)) rfl (by decide) ?_
                  refine V_aload_n 59 0 rfl rfl rfl ?_
                  refine V_getR 60 29 rfl clX12 flX12_72 (by decide) (wsh hW rfl) (fun _ => rfl) (wrf hW 114 rfl) ?_
                  refine V_iload_n 61 3 rfl rfl rfl ?_
                  obtain ⟨hin, h⟩ := h
                  refine V_iald 62 rfl (wsh hW rfl) hin ?_
                  refine V_pc 96 rfl ?_
                  refine V_callV 63 2 (as := [.int (19 : Int32), .int (σ.2.1 113 x3.toNatClampNeg)]) (rest := []) rfl mlX12_560 yvX12_write rfl rfl clX12 (wsh hW rfl) (by decide) (by decide) (Nat.le_of_ble_eq_true rfl) (by decide) (by decide) (fun B9 => ceX12_write hl B9 hW h) (fun X9 τ9 h9 => VX_out rfl h9) ?_
                  rintro v9 σ6 ⟨hW, rfl, h⟩
                  refine V_goto 64 (tgt := 131) rfl (by decide) ?_
                  exact k_j131 x1 x2 x3 σ6 hW h
            intro n
            induction n with
            | zero => intro x1 x2 x3  σ hW h; exact absurd h id
            | succ n ih => exact step _ k_j137 _ ih
          intro x1 x2  σ hW h
          refine V_iload_n 11 2 rfl rfl rfl ?_
          refine V_aload_n 12 0 rfl rfl rfl ?_
          refine V_getR 13 27 rfl clX12 flX12_69 (by decide) (wsh hW rfl) (fun _ => rfl) (wrf hW 113 rfl) ?_
          refine V_aload_n 14 0 rfl rfl rfl ?_
          refine V_getR 15 18 rfl clX12 flX12_45 (by decide) (wsh hW rfl) (fun _ => rfl) (wrf hW 105 rfl) ?_
          refine V_iconst 16 (v := (4 : Int32)) rfl (by decide) ?_
          refine V_pc 27 rfl ?_
          refine V_iload_n 17 1 rfl rfl rfl ?_
          refine V_imul 18 rfl ?_
          obtain ⟨hin, h⟩ := h
          refine V_iald 19 rfl (wsh hW rfl) hin ?_
          obtain ⟨hin, h⟩ := h
          refine V_iald 20 rfl (wsh hW rfl) hin ?_
          refine V_icmp_gt 21 (tgt := 150) rfl (by decide) (fun hc => ?_) (fun hc => ?_)
          · replace h := h.1 hc
            refine V_sub [0, 1] (lv' := [(0, .ref 92), (1, .int x1)]) rfl ?_
            exact k_K150 x1  σ hW h
          · replace h := h.2 hc
            refine V_pc 34 rfl ?_
            refine V_aload_n 22 0 rfl rfl rfl ?_
            refine V_getR 23 77 rfl clX12 flX12_177 (by decide) (wsh hW rfl) (fun _ => rfl) (wrf hW 149 rfl) ?_
            refine V_bipush 24 (v := (6 : Int32)) rfl (by decide) ?_
            refine V_iload_n 25 1 rfl rfl rfl ?_
            refine V_imul 26 rfl ?_
            refine V_iload_n 27 2 rfl rfl rfl ?_
            refine V_pc 43 rfl ?_
            refine V_iadd 28 rfl ?_
            refine V_aload_n 29 0 rfl rfl rfl ?_
            refine V_get (v := .int (σ.2.1 92 74)) 30 74 rfl clX12 flX12_551 (by decide) (wsh hW rfl) (fun _ => rfl) ?_
            obtain ⟨hin, h⟩ := h
            refine V_iast 31 rfl (wsh hW rfl) hin ?_
            refine V_nm (fun σ7 eσ7 => ?_)
            replace h := h σ7 eσ7
            have hW := wire_I eσ7 hW
            refine V_aload_n 32 0 rfl rfl rfl ?_
            refine V_getR 33 30 rfl clX12 flX12_75 (by decide) (wsh hW rfl) (fun _ => rfl) (wrf hW 115 rfl) ?_
            refine V_pc 53 rfl ?_
            refine V_bipush 34 (v := (6 : Int32)) rfl (by decide) ?_
            refine V_iload_n 35 1 rfl rfl rfl ?_
            refine V_imul 36 rfl ?_
            refine V_iload_n 37 2 rfl rfl rfl ?_
            refine V_iadd 38 rfl ?_
            obtain ⟨hin, h⟩ := h
            refine V_iald 39 rfl (wsh hW rfl) hin ?_
            refine V_pc 60 rfl ?_
            refine V_topi (fun v8 ev8 => ?_)
            replace h := h v8 ev8
            refine V_istore_n 40 (lv' := [(3, .int v8), (0, .ref 92), (1, .int x1), (2, .int x2)]) rfl rfl (by decide) rfl ?_
            refine V_sub [1, 2, 3, 0] (lv' := [(0, .ref 92), (1, .int x1), (2, .int x2), (3, .int v8)]) rfl ?_
            obtain ⟨n, h⟩ := h
            exact k_l61 n x1 x2 v8 σ7 hW h
        intro n
        induction n with
        | zero => intro x1 x2  σ hW h; exact absurd h id
        | succ n ih => exact step _ k_j150 _ ih
      intro x1  σ hW h
      refine V_iload_n 5 1 rfl rfl rfl ?_
      refine V_aload_n 6 0 rfl rfl rfl ?_
      refine V_get (v := .int (σ.2.1 92 14)) 7 14 rfl clX12 flX12_316 (by decide) (wsh hW rfl) (fun _ => rfl) ?_
      refine V_icmp_ge 8 (tgt := 156) rfl (by decide) (fun hc => ?_) (fun hc => ?_)
      · replace h := h.1 hc
        exact V_vret 95 rfl rfl ⟨hW, rfl, h⟩
      · replace h := h.2 hc
        refine V_pc 15 rfl ?_
        refine V_iconst 9 (v := (1 : Int32)) rfl (by decide) ?_
        refine V_istore_n 10 (lv' := [(2, .int (1 : Int32)), (0, .ref 92), (1, .int x1)]) rfl rfl (by decide) rfl ?_
        refine V_sub [1, 2, 0] (lv' := [(0, .ref 92), (1, .int x1), (2, .int (1 : Int32))]) rfl ?_
        obtain ⟨n, h⟩ := h
        exact k_l17 n x1 (1 : Int32) σ hW h
    intro n
    induction n with
    | zero => intro x1  σ hW h; exact absurd h id
    | succ n ih => exact step  _ ih
  intro σ hW h
  refine V_aload_n 0 0 rfl rfl rfl ?_
  refine V_iconst 1 (v := (0 : Int32)) rfl (by decide) ?_
  refine V_putI 2 74 rfl clX12 flX12_551 (by decide) (wsh hW rfl) rfl (fun _ _ => rfl) rfl rfl ?_
  refine V_nm (fun σ9 eσ9 => ?_)
  replace h := h σ9 eσ9
  have hW := wire_I eσ9 hW
  refine V_iconst 3 (v := (0 : Int32)) rfl (by decide) ?_
  refine V_istore_n 4 (lv' := [(1, .int (0 : Int32)), (0, .ref 92)]) rfl rfl (by decide) rfl ?_
  refine V_sub [1, 0] (lv' := [(0, .ref 92), (1, .int (0 : Int32))]) rfl ?_
  obtain ⟨n, h⟩ := h
  exact k_l7 n (0 : Int32) σ9 hW h

def wX12_order  (Q : Int32 → ab_S → Prop) (E : String → ab_S → Prop) (σ : ab_S) : Prop := wX12_order0 (fun u2 σ1 => ((0 ≤ u2) → Q u2 σ1) ∧ (¬ (0 ≤ u2) → wX12_makePlans (fun σ3 => wX12_findDefines (fun σ4 => wX12_findStores (fun σ5 => wX12_makeProgram (fun σ6 => Q u2 σ6) E σ5) E σ4) E σ3) E σ1)) E σ
set_option maxHeartbeats 4000000 in
set_option maxRecDepth 100000 in
theorem ceX12_order {l : Launch} (hl : l.stackTraces = false) (B : Nat)   {Q : Int32 → ab_S → Prop} {E : String → ab_S → Prop} {σ : ab_S} (hW : Wire σ) (h : wX12_order  Q E σ) : ab_Mt l yX12_order mdX12_order B 5 131 0 0 [.ref 92] σ (fun v σ' => Wire σ' ∧ ∃ r : Int32, v = some (.int r) ∧ Q r σ') (fun X σ' => Wire σ' ∧ E X σ') := by
  refine V_met hl ⟨rfl, rfl, by decide⟩ rfl dkX12_order (Nat.le_of_ble_eq_true rfl) ?_
  show V l mdX12_order B 5 131 0 0 (ab_End _ _) 0 [(0, .ref 92)] [] σ
  refine V_aload_n 0 0 rfl rfl rfl ?_
  refine V_callV 1 0 (as := []) (rest := []) rfl mlX12_417 yvX12_order0 rfl rfl clX12 (wsh hW rfl) (by decide) (by decide) (Nat.le_of_ble_eq_true rfl) (by decide) (by decide) (fun B9 => ceX12_order0 hl B9 hW h) (fun X9 τ9 h9 => VX_out rfl h9) ?_
  rintro v9 σ1 ⟨hW, u2, rfl, h⟩
  refine V_istore_n 2 (lv' := [(1, .int u2), (0, .ref 92)]) rfl rfl (by decide) rfl ?_
  refine V_iload_n 3 0 rfl rfl rfl ?_
  refine V_if_ge 4 (tgt := 25) rfl (by decide) (fun hc => ?_) (fun hc => ?_)
  · replace h := h.1 hc
    refine V_iload_n 13 0 rfl rfl rfl ?_
    exact V_iret 14 rfl rfl ⟨hW, _, rfl, h⟩
  · replace h := h.2 hc
    refine V_pc 9 rfl ?_
    refine V_aload_n 5 1 rfl rfl rfl ?_
    refine V_callV 6 0 (as := []) (rest := []) rfl mlX12_420 yvX12_makePlans rfl rfl clX12 (wsh hW rfl) (by decide) (by decide) (Nat.le_of_ble_eq_true rfl) (by decide) (by decide) (fun B9 => ceX12_makePlans hl B9 hW h) (fun X9 τ9 h9 => VX_out rfl h9) ?_
    rintro v9 σ3 ⟨hW, rfl, h⟩
    refine V_aload_n 7 1 rfl rfl rfl ?_
    refine V_callV 8 0 (as := []) (rest := []) rfl mlX12_423 yvX12_findDefines rfl rfl clX12 (wsh hW rfl) (by decide) (by decide) (Nat.le_of_ble_eq_true rfl) (by decide) (by decide) (fun B9 => ceX12_findDefines hl B9 hW h) (fun X9 τ9 h9 => VX_out rfl h9) ?_
    rintro v9 σ4 ⟨hW, rfl, h⟩
    refine V_aload_n 9 1 rfl rfl rfl ?_
    refine V_callV 10 0 (as := []) (rest := []) rfl mlX12_426 yvX12_findStores rfl rfl clX12 (wsh hW rfl) (by decide) (by decide) (Nat.le_of_ble_eq_true rfl) (by decide) (by decide) (fun B9 => ceX12_findStores hl B9 hW h) (fun X9 τ9 h9 => VX_out rfl h9) ?_
    rintro v9 σ5 ⟨hW, rfl, h⟩
    refine V_aload_n 11 1 rfl rfl rfl ?_
    refine V_callV 12 0 (as := []) (rest := []) rfl mlX12_429 yvX12_makeProgram rfl rfl clX12 (wsh hW rfl) (by decide) (by decide) (Nat.le_of_ble_eq_true rfl) (by decide) (by decide) (fun B9 => ceX12_makeProgram hl B9 hW h) (fun X9 τ9 h9 => VX_out rfl h9) ?_
    rintro v9 σ6 ⟨hW, rfl, h⟩
    refine V_iload_n 13 0 rfl rfl rfl ?_
    exact V_iret 14 rfl rfl ⟨hW, _, rfl, h⟩

def wX12_plan_j94 (a0 : Int32) (a1 : Int32) (a2 : Int32) (Q : Int32 → ab_S → Prop) (E : String → ab_S → Prop) (y0 : Int32) (y1 : Int32) (σ : ab_S) : Prop := wX12_refuse y1 y0 (0 : Int32) (fun u2 σ1 => ((u2 = 0) → vp_in (((6 : Int32) * a0) + a1) 187 ∧ (∀ v3 : Int32, v3 = (σ1.2.1 114 (((6 : Int32) * a0) + a1).toNatClampNeg) → vp_in (((6 : Int32) * a0) + a1) 187 ∧ (((((σ1.2.1 115 (((6 : Int32) * a0) + a1).toNatClampNeg) - v3) ≤ a2) → Q (-1 : Int32) σ1) ∧ (¬ (((σ1.2.1 115 (((6 : Int32) * a0) + a1).toNatClampNeg) - v3) ≤ a2) → vp_in (v3 + a2) 1600 ∧ (Q (σ1.2.1 113 (v3 + a2).toNatClampNeg) σ1))))) ∧ (¬ (u2 = 0) → Q (0 : Int32) σ1)) E σ
def wX12_plan_j84 (a0 : Int32) (a1 : Int32) (a2 : Int32) (Q : Int32 → ab_S → Prop) (E : String → ab_S → Prop) (x4 : Int32) (y0 : Int32) (σ : ab_S) : Prop := ((¬ x4 = 0) → wX12_plan_j94 a0 a1 a2 Q E (0 : Int32) y0 σ) ∧ (¬ (¬ x4 = 0) → wX12_plan_j94 a0 a1 a2 Q E (1 : Int32) y0 σ)
def wX12_plan_j69 (a0 : Int32) (a1 : Int32) (a2 : Int32) (Q : Int32 → ab_S → Prop) (E : String → ab_S → Prop) (y0 : Int32) (σ : ab_S) : Prop := ((¬ (σ.2.1 92 4) = 0) → wX12_plan_j84 a0 a1 a2 Q E y0 (0 : Int32) σ) ∧ (¬ (¬ (σ.2.1 92 4) = 0) → wX12_plan_j84 a0 a1 a2 Q E y0 (1 : Int32) σ)
def wX12_plan_j68 (a0 : Int32) (a1 : Int32) (a2 : Int32) (Q : Int32 → ab_S → Prop) (E : String → ab_S → Prop)  (σ : ab_S) : Prop := wX12_plan_j69 a0 a1 a2 Q E (0 : Int32) σ
def wX12_plan_j51 (a0 : Int32) (a1 : Int32) (a2 : Int32) (Q : Int32 → ab_S → Prop) (E : String → ab_S → Prop) (y0 : Int32) (y1 : Int32) (y4 : Int32) (σ : ab_S) : Prop := vp_in (y1 * y0) 124 ∧ (vp_in (σ.2.1 104 (y1 * y0).toNatClampNeg) 13 ∧ (wX12_in a1 y4 (σ.2.1 112 (σ.2.1 104 (y1 * y0).toNatClampNeg).toNatClampNeg) (fun u5 σ4 => ((u5 = 0) → wX12_plan_j68 a0 a1 a2 Q E σ4) ∧ (¬ (u5 = 0) → ((a2 < 0) → wX12_plan_j68 a0 a1 a2 Q E σ4) ∧ (¬ (a2 < 0) → wX12_plan_j69 a0 a1 a2 Q E (1 : Int32) σ4))) E σ))
def wX12_plan (a0 : Int32) (a1 : Int32) (a2 : Int32) (Q : Int32 → ab_S → Prop) (E : String → ab_S → Prop) (σ : ab_S) : Prop := (((σ.2.1 92 4) = 0) → wX12_plan_j68 a0 a1 a2 Q E σ) ∧ (¬ ((σ.2.1 92 4) = 0) → wX12_in a0 (0 : Int32) ((σ.2.1 92 14) - (1 : Int32)) (fun u7 σ6 => ((u7 = 0) → wX12_plan_j68 a0 a1 a2 Q E σ6) ∧ (¬ (u7 = 0) → wX12_in a0 (0 : Int32) ((σ6.2.1 92 14) - (1 : Int32)) (fun u9 σ8 => ((u9 = 0) → wX12_plan_j51 a0 a1 a2 Q E (0 : Int32) (4 : Int32) (1 : Int32) σ8) ∧ (¬ (u9 = 0) → wX12_plan_j51 a0 a1 a2 Q E a0 (4 : Int32) (1 : Int32) σ8)) E σ6)) E σ)
set_option maxHeartbeats 4000000 in
set_option maxRecDepth 100000 in
theorem ceX12_plan {l : Launch} (hl : l.stackTraces = false) (B : Nat) {a0 : Int32} {a1 : Int32} {a2 : Int32}  {Q : Int32 → ab_S → Prop} {E : String → ab_S → Prop} {σ : ab_S} (hW : Wire σ) (h : wX12_plan a0 a1 a2 Q E σ) : ab_Mt l yX12_plan mdX12_plan B 1 23 0 0 [.ref 92, .int a0, .int a1, .int a2] σ (fun v σ' => Wire σ' ∧ ∃ r : Int32, v = some (.int r) ∧ Q r σ') (fun X σ' => Wire σ' ∧ E X σ') := by
  refine V_met hl ⟨rfl, rfl, by decide⟩ rfl dkX12_plan (Nat.le_of_ble_eq_true rfl) ?_
  show V l mdX12_plan B 1 23 0 0 (ab_End _ _) 0 [(0, .ref 92), (1, .int a0), (2, .int a1), (3, .int a2)] [] σ
  revert h hW
  revert σ
  have k_j94 : ∀ (y0 : Int32) (y1 : Int32)  (σ : ab_S), Wire σ → wX12_plan_j94 a0 a1 a2 Q E y0 y1 σ → V l mdX12_plan B 1 23 0 0 (ab_End (fun v σ' => Wire σ' ∧ ∃ r : Int32, v = some (.int r) ∧ Q r σ') (fun X σ' => Wire σ' ∧ E X σ')) 94 [(0, .ref 92), (1, .int a0), (2, .int a1), (3, .int a2)] [.int y0, .int y1, .ref 92] σ := by
    intro y0 y1  σ hW h
    refine V_iconst 52 (v := (0 : Int32)) rfl (by decide) ?_
    refine V_callV 53 3 (as := [.int y1, .int y0, .int (0 : Int32)]) (rest := []) rfl mlX12_245 yvX12_refuse rfl rfl clX12 (wsh hW rfl) (by decide) (by decide) (Nat.le_of_ble_eq_true rfl) (by decide) (by decide) (fun B9 => ceX12_refuse hl B9 hW h) (fun X9 τ9 h9 => VX_out rfl h9) ?_
    rintro v9 σ1 ⟨hW, u2, rfl, h⟩
    refine V_if_eq 54 (tgt := 103) rfl (by decide) (fun hc => ?_) (fun hc => ?_)
    · replace h := h.1 hc
      refine V_aload_n 57 0 rfl rfl rfl ?_
      refine V_getR 58 30 rfl clX12 flX12_75 (by decide) (wsh hW rfl) (fun _ => rfl) (wrf hW 115 rfl) ?_
      refine V_bipush 59 (v := (6 : Int32)) rfl (by decide) ?_
      refine V_iload_n 60 1 rfl rfl rfl ?_
      refine V_imul 61 rfl ?_
      refine V_iload_n 62 2 rfl rfl rfl ?_
      refine V_pc 112 rfl ?_
      refine V_iadd 63 rfl ?_
      obtain ⟨hin, h⟩ := h
      refine V_iald 64 rfl (wsh hW rfl) hin ?_
      refine V_topi (fun v3 ev3 => ?_)
      replace h := h v3 ev3
      refine V_istore 65 (lv' := [(5, .int v3), (0, .ref 92), (1, .int a0), (2, .int a1), (3, .int a2)]) rfl (by decide) rfl ?_
      refine V_iload_n 66 4 rfl rfl rfl ?_
      refine V_aload_n 67 1 rfl rfl rfl ?_
      refine V_getR 68 31 rfl clX12 flX12_78 (by decide) (wsh hW rfl) (fun _ => rfl) (wrf hW 116 rfl) ?_
      refine V_pc 121 rfl ?_
      refine V_bipush 69 (v := (6 : Int32)) rfl (by decide) ?_
      refine V_iload_n 70 2 rfl rfl rfl ?_
      refine V_imul 71 rfl ?_
      refine V_iload_n 72 3 rfl rfl rfl ?_
      refine V_iadd 73 rfl ?_
      obtain ⟨hin, h⟩ := h
      refine V_iald 74 rfl (wsh hW rfl) hin ?_
      refine V_pc 128 rfl ?_
      refine V_iload 75 0 rfl rfl ?_
      refine V_isub 76 rfl ?_
      refine V_icmp_ge 77 (tgt := 146) rfl (by decide) (fun hc => ?_) (fun hc => ?_)
      · replace h := h.1 hc
        refine V_iconst 85 (v := (-1 : Int32)) rfl (by decide) ?_
        exact V_iret 86 rfl rfl ⟨hW, _, rfl, h⟩
      · replace h := h.2 hc
        refine V_pc 134 rfl ?_
        refine V_aload_n 78 1 rfl rfl rfl ?_
        refine V_getR 79 29 rfl clX12 flX12_72 (by decide) (wsh hW rfl) (fun _ => rfl) (wrf hW 114 rfl) ?_
        refine V_iload 80 0 rfl rfl ?_
        refine V_iload_n 81 4 rfl rfl rfl ?_
        refine V_iadd 82 rfl ?_
        obtain ⟨hin, h⟩ := h
        refine V_iald 83 rfl (wsh hW rfl) hin ?_
        refine V_pc 143 rfl ?_
        refine V_goto 84 (tgt := 147) rfl (by decide) ?_
        exact V_iret 86 rfl rfl ⟨hW, _, rfl, h⟩
    · replace h := h.2 hc
      refine V_pc 101 rfl ?_
      refine V_iconst 55 (v := (0 : Int32)) rfl (by decide) ?_
      exact V_iret 56 rfl rfl ⟨hW, _, rfl, h⟩
  have k_j84 : ∀ (x4 : Int32) (y0 : Int32)  (σ : ab_S), Wire σ → wX12_plan_j84 a0 a1 a2 Q E x4 y0 σ → V l mdX12_plan B 1 23 0 0 (ab_End (fun v σ' => Wire σ' ∧ ∃ r : Int32, v = some (.int r) ∧ Q r σ') (fun X σ' => Wire σ' ∧ E X σ')) 84 [(0, .ref 92), (1, .int a0), (2, .int a1), (3, .int a2), (4, .int x4)] [.int y0, .ref 92] σ := by
    intro x4 y0  σ hW h
    refine V_iload 47 4 rfl rfl ?_
    refine V_if_ne 48 (tgt := 93) rfl (by decide) (fun hc => ?_) (fun hc => ?_)
    · replace h := h.1 hc
      refine V_iconst 51 (v := (0 : Int32)) rfl (by decide) ?_
      refine V_sub [0, 1, 2, 3] (lv' := [(0, .ref 92), (1, .int a0), (2, .int a1), (3, .int a2)]) rfl ?_
      exact k_j94 (0 : Int32) y0 σ hW h
    · replace h := h.2 hc
      refine V_pc 89 rfl ?_
      refine V_iconst 49 (v := (1 : Int32)) rfl (by decide) ?_
      refine V_goto 50 (tgt := 94) rfl (by decide) ?_
      refine V_sub [0, 1, 2, 3] (lv' := [(0, .ref 92), (1, .int a0), (2, .int a1), (3, .int a2)]) rfl ?_
      exact k_j94 (1 : Int32) y0 σ hW h
  have k_j69 : ∀ (y0 : Int32)  (σ : ab_S), Wire σ → wX12_plan_j69 a0 a1 a2 Q E y0 σ → V l mdX12_plan B 1 23 0 0 (ab_End (fun v σ' => Wire σ' ∧ ∃ r : Int32, v = some (.int r) ∧ Q r σ') (fun X σ' => Wire σ' ∧ E X σ')) 69 [(0, .ref 92), (1, .int a0), (2, .int a1), (3, .int a2)] [.int y0] σ := by
    intro y0  σ hW h
    refine V_istore 39 (lv' := [(4, .int y0), (0, .ref 92), (1, .int a0), (2, .int a1), (3, .int a2)]) rfl (by decide) rfl ?_
    refine V_aload_n 40 1 rfl rfl rfl ?_
    refine V_aload_n 41 1 rfl rfl rfl ?_
    refine V_get (v := .int (σ.2.1 92 4)) 42 4 rfl clX12 flX12_452 (by decide) (wsh hW rfl) (fun _ => rfl) ?_
    refine V_if_ne 43 (tgt := 83) rfl (by decide) (fun hc => ?_) (fun hc => ?_)
    · replace h := h.1 hc
      refine V_iconst 46 (v := (0 : Int32)) rfl (by decide) ?_
      refine V_sub [1, 2, 3, 4, 0] (lv' := [(0, .ref 92), (1, .int a0), (2, .int a1), (3, .int a2), (4, .int y0)]) rfl ?_
      exact k_j84 y0 (0 : Int32) σ hW h
    · replace h := h.2 hc
      refine V_pc 79 rfl ?_
      refine V_iconst 44 (v := (1 : Int32)) rfl (by decide) ?_
      refine V_goto 45 (tgt := 84) rfl (by decide) ?_
      refine V_sub [1, 2, 3, 4, 0] (lv' := [(0, .ref 92), (1, .int a0), (2, .int a1), (3, .int a2), (4, .int y0)]) rfl ?_
      exact k_j84 y0 (1 : Int32) σ hW h
  have k_j68 : ∀   (σ : ab_S), Wire σ → wX12_plan_j68 a0 a1 a2 Q E  σ → V l mdX12_plan B 1 23 0 0 (ab_End (fun v σ' => Wire σ' ∧ ∃ r : Int32, v = some (.int r) ∧ Q r σ') (fun X σ' => Wire σ' ∧ E X σ')) 68 [(0, .ref 92), (1, .int a0), (2, .int a1), (3, .int a2)] [] σ := by
    intro   σ hW h
    refine V_iconst 38 (v := (0 : Int32)) rfl (by decide) ?_
    exact k_j69 (0 : Int32) σ hW h
  have k_j51 : ∀ (y0 : Int32) (y1 : Int32) (y4 : Int32)  (σ : ab_S), Wire σ → wX12_plan_j51 a0 a1 a2 Q E y0 y1 y4 σ → V l mdX12_plan B 1 23 0 0 (ab_End (fun v σ' => Wire σ' ∧ ∃ r : Int32, v = some (.int r) ∧ Q r σ') (fun X σ' => Wire σ' ∧ E X σ')) 51 [(0, .ref 92), (1, .int a0), (2, .int a1), (3, .int a2)] [.int y0, .int y1, .ref 104, .ref 112, .int y4, .int a1] σ := by
    intro y0 y1 y4  σ hW h
    refine V_imul 29 rfl ?_
    obtain ⟨hin, h⟩ := h
    refine V_iald 30 rfl (wsh hW rfl) hin ?_
    obtain ⟨hin, h⟩ := h
    refine V_iald 31 rfl (wsh hW rfl) hin ?_
    refine V_callS 32 3 (as := [.int a1, .int y4, .int (σ.2.1 112 (σ.2.1 104 (y1 * y0).toNatClampNeg).toNatClampNeg)]) (rest := []) rfl mlX12_238 yvX12_in rfl rfl (by decide) (by decide) (Nat.le_of_ble_eq_true rfl) (by decide) (by decide) (fun B9 => ceX12_in hl B9 hW h) (fun X9 τ9 h9 => VX_out rfl h9) ?_
    rintro v9 σ4 ⟨hW, u5, rfl, h⟩
    refine V_if_eq 33 (tgt := 68) rfl (by decide) (fun hc => ?_) (fun hc => ?_)
    · replace h := h.1 hc
      exact k_j68 σ4 hW h
    · replace h := h.2 hc
      refine V_pc 60 rfl ?_
      refine V_iload_n 34 3 rfl rfl rfl ?_
      refine V_if_lt 35 (tgt := 68) rfl (by decide) (fun hc => ?_) (fun hc => ?_)
      · replace h := h.1 hc
        exact k_j68 σ4 hW h
      · replace h := h.2 hc
        refine V_pc 64 rfl ?_
        refine V_iconst 36 (v := (1 : Int32)) rfl (by decide) ?_
        refine V_goto 37 (tgt := 69) rfl (by decide) ?_
        exact k_j69 (1 : Int32) σ4 hW h
  intro σ hW h
  refine V_aload_n 0 0 rfl rfl rfl ?_
  refine V_get (v := .int (σ.2.1 92 4)) 1 4 rfl clX12 flX12_452 (by decide) (wsh hW rfl) (fun _ => rfl) ?_
  refine V_if_eq 2 (tgt := 68) rfl (by decide) (fun hc => ?_) (fun hc => ?_)
  · replace h := h.1 hc
    exact k_j68 σ hW h
  · replace h := h.2 hc
    refine V_pc 7 rfl ?_
    refine V_iload_n 3 1 rfl rfl rfl ?_
    refine V_iconst 4 (v := (0 : Int32)) rfl (by decide) ?_
    refine V_aload_n 5 0 rfl rfl rfl ?_
    refine V_get (v := .int (σ.2.1 92 14)) 6 14 rfl clX12 flX12_316 (by decide) (wsh hW rfl) (fun _ => rfl) ?_
    refine V_iconst 7 (v := (1 : Int32)) rfl (by decide) ?_
    refine V_isub 8 rfl ?_
    refine V_pc 15 rfl ?_
    refine V_callS 9 3 (as := [.int a0, .int (0 : Int32), .int ((σ.2.1 92 14) - (1 : Int32))]) (rest := []) rfl mlX12_238 yvX12_in rfl rfl (by decide) (by decide) (Nat.le_of_ble_eq_true rfl) (by decide) (by decide) (fun B9 => ceX12_in hl B9 hW h) (fun X9 τ9 h9 => VX_out rfl h9) ?_
    rintro v9 σ6 ⟨hW, u7, rfl, h⟩
    refine V_if_eq 10 (tgt := 68) rfl (by decide) (fun hc => ?_) (fun hc => ?_)
    · replace h := h.1 hc
      exact k_j68 σ6 hW h
    · replace h := h.2 hc
      refine V_pc 21 rfl ?_
      refine V_iload_n 11 2 rfl rfl rfl ?_
      refine V_iconst 12 (v := (1 : Int32)) rfl (by decide) ?_
      refine V_aload_n 13 0 rfl rfl rfl ?_
      refine V_getR 14 27 rfl clX12 flX12_69 (by decide) (wsh hW rfl) (fun _ => rfl) (wrf hW 113 rfl) ?_
      refine V_aload_n 15 0 rfl rfl rfl ?_
      refine V_getR 16 18 rfl clX12 flX12_45 (by decide) (wsh hW rfl) (fun _ => rfl) (wrf hW 105 rfl) ?_
      refine V_pc 31 rfl ?_
      refine V_iconst 17 (v := (4 : Int32)) rfl (by decide) ?_
      refine V_iload_n 18 1 rfl rfl rfl ?_
      refine V_iconst 19 (v := (0 : Int32)) rfl (by decide) ?_
      refine V_aload_n 20 0 rfl rfl rfl ?_
      refine V_get (v := .int (σ6.2.1 92 14)) 21 14 rfl clX12 flX12_316 (by decide) (wsh hW rfl) (fun _ => rfl) ?_
      refine V_iconst 22 (v := (1 : Int32)) rfl (by decide) ?_
      refine V_pc 39 rfl ?_
      refine V_isub 23 rfl ?_
      refine V_callS 24 3 (as := [.int a0, .int (0 : Int32), .int ((σ6.2.1 92 14) - (1 : Int32))]) (rest := [.int (4 : Int32), .ref 104, .ref 112, .int (1 : Int32), .int a1]) rfl mlX12_238 yvX12_in rfl rfl (by decide) (by decide) (Nat.le_of_ble_eq_true rfl) (by decide) (by decide) (fun B9 => ceX12_in hl B9 hW h) (fun X9 τ9 h9 => VX_out rfl h9) ?_
      rintro v9 σ8 ⟨hW, u9, rfl, h⟩
      refine V_if_eq 25 (tgt := 50) rfl (by decide) (fun hc => ?_) (fun hc => ?_)
      · replace h := h.1 hc
        refine V_iconst 28 (v := (0 : Int32)) rfl (by decide) ?_
        exact k_j51 (0 : Int32) (4 : Int32) (1 : Int32) σ8 hW h
      · replace h := h.2 hc
        refine V_pc 46 rfl ?_
        refine V_iload_n 26 1 rfl rfl rfl ?_
        refine V_goto 27 (tgt := 51) rfl (by decide) ?_
        exact k_j51 a0 (4 : Int32) (1 : Int32) σ8 hW h

def wX12_isAttribute_j39 (a0 : Int32) (a1 : Int32) (Q : Int32 → ab_S → Prop) (E : String → ab_S → Prop) (y0 : Int32) (y2 : Int32) (σ : ab_S) : Prop := vp_in y0 13 ∧ (wX12_in a1 y2 ((σ.2.1 99 y0.toNatClampNeg) - (1 : Int32)) (fun u2 σ1 => ((u2 = 0) → Q (0 : Int32) σ1) ∧ (¬ (u2 = 0) → Q (1 : Int32) σ1)) E σ)
def wX12_isAttribute (a0 : Int32) (a1 : Int32) (Q : Int32 → ab_S → Prop) (E : String → ab_S → Prop) (σ : ab_S) : Prop := wX12_in a0 (0 : Int32) ((σ.2.1 92 9) - (1 : Int32)) (fun u4 σ3 => ((u4 = 0) → Q (0 : Int32) σ3) ∧ (¬ (u4 = 0) → wX12_in a0 (0 : Int32) ((σ3.2.1 92 9) - (1 : Int32)) (fun u6 σ5 => ((u6 = 0) → wX12_isAttribute_j39 a0 a1 Q E (0 : Int32) (0 : Int32) σ5) ∧ (¬ (u6 = 0) → wX12_isAttribute_j39 a0 a1 Q E a0 (0 : Int32) σ5)) E σ3)) E σ
set_option maxHeartbeats 4000000 in
set_option maxRecDepth 100000 in
theorem ceX12_isAttribute {l : Launch} (hl : l.stackTraces = false) (B : Nat) {a0 : Int32} {a1 : Int32}  {Q : Int32 → ab_S → Prop} {E : String → ab_S → Prop} {σ : ab_S} (hW : Wire σ) (h : wX12_isAttribute a0 a1 Q E σ) : ab_Mt l yX12_isAttribute mdX12_isAttribute B 1 22 0 0 [.ref 92, .int a0, .int a1] σ (fun v σ' => Wire σ' ∧ ∃ r : Int32, v = some (.int r) ∧ Q r σ') (fun X σ' => Wire σ' ∧ E X σ') := by
  refine V_met hl ⟨rfl, rfl, by decide⟩ rfl dkX12_isAttribute (Nat.le_of_ble_eq_true rfl) ?_
  show V l mdX12_isAttribute B 1 22 0 0 (ab_End _ _) 0 [(0, .ref 92), (1, .int a0), (2, .int a1)] [] σ
  revert h hW
  revert σ
  have k_j39 : ∀ (y0 : Int32) (y2 : Int32)  (σ : ab_S), Wire σ → wX12_isAttribute_j39 a0 a1 Q E y0 y2 σ → V l mdX12_isAttribute B 1 22 0 0 (ab_End (fun v σ' => Wire σ' ∧ ∃ r : Int32, v = some (.int r) ∧ Q r σ') (fun X σ' => Wire σ' ∧ E X σ')) 39 [] [.int y0, .ref 99, .int y2, .int a1] σ := by
    intro y0 y2  σ hW h
    obtain ⟨hin, h⟩ := h
    refine V_iald 23 rfl (wsh hW rfl) hin ?_
    refine V_iconst 24 (v := (1 : Int32)) rfl (by decide) ?_
    refine V_isub 25 rfl ?_
    refine V_callS 26 3 (as := [.int a1, .int y2, .int ((σ.2.1 99 y0.toNatClampNeg) - (1 : Int32))]) (rest := []) rfl mlX12_238 yvX12_in rfl rfl (by decide) (by decide) (Nat.le_of_ble_eq_true rfl) (by decide) (by decide) (fun B9 => ceX12_in hl B9 hW h) (fun X9 τ9 h9 => VX_out rfl h9) ?_
    rintro v9 σ1 ⟨hW, u2, rfl, h⟩
    refine V_if_eq 27 (tgt := 52) rfl (by decide) (fun hc => ?_) (fun hc => ?_)
    · replace h := h.1 hc
      refine V_iconst 30 (v := (0 : Int32)) rfl (by decide) ?_
      exact V_zret 31 rfl rfl rfl ⟨hW, _, rfl, h⟩
    · replace h := h.2 hc
      refine V_pc 48 rfl ?_
      refine V_iconst 28 (v := (1 : Int32)) rfl (by decide) ?_
      refine V_goto 29 (tgt := 53) rfl (by decide) ?_
      exact V_zret 31 rfl rfl rfl ⟨hW, _, rfl, h⟩
  intro σ hW h
  refine V_iload_n 0 1 rfl rfl rfl ?_
  refine V_iconst 1 (v := (0 : Int32)) rfl (by decide) ?_
  refine V_aload_n 2 0 rfl rfl rfl ?_
  refine V_get (v := .int (σ.2.1 92 9)) 3 9 rfl clX12 flX12_306 (by decide) (wsh hW rfl) (fun _ => rfl) ?_
  refine V_iconst 4 (v := (1 : Int32)) rfl (by decide) ?_
  refine V_isub 5 rfl ?_
  refine V_pc 8 rfl ?_
  refine V_callS 6 3 (as := [.int a0, .int (0 : Int32), .int ((σ.2.1 92 9) - (1 : Int32))]) (rest := []) rfl mlX12_238 yvX12_in rfl rfl (by decide) (by decide) (Nat.le_of_ble_eq_true rfl) (by decide) (by decide) (fun B9 => ceX12_in hl B9 hW h) (fun X9 τ9 h9 => VX_out rfl h9) ?_
  rintro v9 σ3 ⟨hW, u4, rfl, h⟩
  refine V_if_eq 7 (tgt := 52) rfl (by decide) (fun hc => ?_) (fun hc => ?_)
  · replace h := h.1 hc
    refine V_iconst 30 (v := (0 : Int32)) rfl (by decide) ?_
    exact V_zret 31 rfl rfl rfl ⟨hW, _, rfl, h⟩
  · replace h := h.2 hc
    refine V_pc 14 rfl ?_
    refine V_iload_n 8 2 rfl rfl rfl ?_
    refine V_iconst 9 (v := (0 : Int32)) rfl (by decide) ?_
    refine V_aload_n 10 0 rfl rfl rfl ?_
    refine V_getR 11 12 rfl clX12 flX12_29 (by decide) (wsh hW rfl) (fun _ => rfl) (wrf hW 100 rfl) ?_
    refine V_iload_n 12 1 rfl rfl rfl ?_
    refine V_iconst 13 (v := (0 : Int32)) rfl (by decide) ?_
    refine V_pc 22 rfl ?_
    refine V_aload_n 14 0 rfl rfl rfl ?_
    refine V_get (v := .int (σ3.2.1 92 9)) 15 9 rfl clX12 flX12_306 (by decide) (wsh hW rfl) (fun _ => rfl) ?_
    refine V_iconst 16 (v := (1 : Int32)) rfl (by decide) ?_
    refine V_isub 17 rfl ?_
    refine V_callS 18 3 (as := [.int a0, .int (0 : Int32), .int ((σ3.2.1 92 9) - (1 : Int32))]) (rest := [.ref 99, .int (0 : Int32), .int a1]) rfl mlX12_238 yvX12_in rfl rfl (by decide) (by decide) (Nat.le_of_ble_eq_true rfl) (by decide) (by decide) (fun B9 => ceX12_in hl B9 hW h) (fun X9 τ9 h9 => VX_out rfl h9) ?_
    rintro v9 σ5 ⟨hW, u6, rfl, h⟩
    refine V_if_eq 19 (tgt := 38) rfl (by decide) (fun hc => ?_) (fun hc => ?_)
    · replace h := h.1 hc
      refine V_iconst 22 (v := (0 : Int32)) rfl (by decide) ?_
      refine V_sub [] (lv' := []) rfl ?_
      exact k_j39 (0 : Int32) (0 : Int32) σ5 hW h
    · replace h := h.2 hc
      refine V_pc 34 rfl ?_
      refine V_iload_n 20 1 rfl rfl rfl ?_
      refine V_goto 21 (tgt := 39) rfl (by decide) ?_
      refine V_sub [] (lv' := []) rfl ?_
      exact k_j39 a0 (0 : Int32) σ5 hW h

def wX12_store_j44 (a0 : Int32) (a1 : Int32) (Q : Int32 → ab_S → Prop) (E : String → ab_S → Prop) (y0 : Int32) (y1 : Int32) (σ : ab_S) : Prop := wX12_refuse y1 y0 (0 : Int32) (fun u2 σ1 => ((u2 = 0) → vp_in (((8 : Int32) * a0) + a1) 104 ∧ (Q (σ1.2.1 123 (((8 : Int32) * a0) + a1).toNatClampNeg) σ1)) ∧ (¬ (u2 = 0) → Q (0 : Int32) σ1)) E σ
def wX12_store_j35 (a0 : Int32) (a1 : Int32) (Q : Int32 → ab_S → Prop) (E : String → ab_S → Prop) (x3 : Int32) (y0 : Int32) (σ : ab_S) : Prop := ((¬ x3 = 0) → wX12_store_j44 a0 a1 Q E (0 : Int32) y0 σ) ∧ (¬ (¬ x3 = 0) → wX12_store_j44 a0 a1 Q E (1 : Int32) y0 σ)
def wX12_store_j21 (a0 : Int32) (a1 : Int32) (Q : Int32 → ab_S → Prop) (E : String → ab_S → Prop) (y0 : Int32) (σ : ab_S) : Prop := ((¬ (σ.2.1 92 4) = 0) → wX12_store_j35 a0 a1 Q E y0 (0 : Int32) σ) ∧ (¬ (¬ (σ.2.1 92 4) = 0) → wX12_store_j35 a0 a1 Q E y0 (1 : Int32) σ)
def wX12_store_j20 (a0 : Int32) (a1 : Int32) (Q : Int32 → ab_S → Prop) (E : String → ab_S → Prop)  (σ : ab_S) : Prop := wX12_store_j21 a0 a1 Q E (0 : Int32) σ
def wX12_store (a0 : Int32) (a1 : Int32) (Q : Int32 → ab_S → Prop) (E : String → ab_S → Prop) (σ : ab_S) : Prop := (((σ.2.1 92 4) = 0) → wX12_store_j20 a0 a1 Q E σ) ∧ (¬ ((σ.2.1 92 4) = 0) → wX12_isAttribute a0 a1 (fun u4 σ3 => ((u4 = 0) → wX12_store_j20 a0 a1 Q E σ3) ∧ (¬ (u4 = 0) → wX12_store_j21 a0 a1 Q E (1 : Int32) σ3)) E σ)
set_option maxHeartbeats 4000000 in
set_option maxRecDepth 100000 in
theorem ceX12_store {l : Launch} (hl : l.stackTraces = false) (B : Nat) {a0 : Int32} {a1 : Int32}  {Q : Int32 → ab_S → Prop} {E : String → ab_S → Prop} {σ : ab_S} (hW : Wire σ) (h : wX12_store a0 a1 Q E σ) : ab_Mt l yX12_store mdX12_store B 2 44 0 0 [.ref 92, .int a0, .int a1] σ (fun v σ' => Wire σ' ∧ ∃ r : Int32, v = some (.int r) ∧ Q r σ') (fun X σ' => Wire σ' ∧ E X σ') := by
  refine V_met hl ⟨rfl, rfl, by decide⟩ rfl dkX12_store (Nat.le_of_ble_eq_true rfl) ?_
  show V l mdX12_store B 2 44 0 0 (ab_End _ _) 0 [(0, .ref 92), (1, .int a0), (2, .int a1)] [] σ
  revert h hW
  revert σ
  have k_j44 : ∀ (y0 : Int32) (y1 : Int32)  (σ : ab_S), Wire σ → wX12_store_j44 a0 a1 Q E y0 y1 σ → V l mdX12_store B 2 44 0 0 (ab_End (fun v σ' => Wire σ' ∧ ∃ r : Int32, v = some (.int r) ∧ Q r σ') (fun X σ' => Wire σ' ∧ E X σ')) 44 [(0, .ref 92), (1, .int a0), (2, .int a1)] [.int y0, .int y1, .ref 92] σ := by
    intro y0 y1  σ hW h
    refine V_iconst 24 (v := (0 : Int32)) rfl (by decide) ?_
    refine V_callV 25 3 (as := [.int y1, .int y0, .int (0 : Int32)]) (rest := []) rfl mlX12_245 yvX12_refuse rfl rfl clX12 (wsh hW rfl) (by decide) (by decide) (Nat.le_of_ble_eq_true rfl) (by decide) (by decide) (fun B9 => ceX12_refuse hl B9 hW h) (fun X9 τ9 h9 => VX_out rfl h9) ?_
    rintro v9 σ1 ⟨hW, u2, rfl, h⟩
    refine V_if_eq 26 (tgt := 53) rfl (by decide) (fun hc => ?_) (fun hc => ?_)
    · replace h := h.1 hc
      refine V_aload_n 29 0 rfl rfl rfl ?_
      refine V_getR 30 39 rfl clX12 flX12_102 (by decide) (wsh hW rfl) (fun _ => rfl) (wrf hW 124 rfl) ?_
      refine V_bipush 31 (v := (8 : Int32)) rfl (by decide) ?_
      refine V_iload_n 32 1 rfl rfl rfl ?_
      refine V_imul 33 rfl ?_
      refine V_iload_n 34 2 rfl rfl rfl ?_
      refine V_pc 62 rfl ?_
      refine V_iadd 35 rfl ?_
      obtain ⟨hin, h⟩ := h
      refine V_iald 36 rfl (wsh hW rfl) hin ?_
      exact V_iret 37 rfl rfl ⟨hW, _, rfl, h⟩
    · replace h := h.2 hc
      refine V_pc 51 rfl ?_
      refine V_iconst 27 (v := (0 : Int32)) rfl (by decide) ?_
      exact V_iret 28 rfl rfl ⟨hW, _, rfl, h⟩
  have k_j35 : ∀ (x3 : Int32) (y0 : Int32)  (σ : ab_S), Wire σ → wX12_store_j35 a0 a1 Q E x3 y0 σ → V l mdX12_store B 2 44 0 0 (ab_End (fun v σ' => Wire σ' ∧ ∃ r : Int32, v = some (.int r) ∧ Q r σ') (fun X σ' => Wire σ' ∧ E X σ')) 35 [(0, .ref 92), (1, .int a0), (2, .int a1), (3, .int x3)] [.int y0, .ref 92] σ := by
    intro x3 y0  σ hW h
    refine V_iload_n 19 3 rfl rfl rfl ?_
    refine V_if_ne 20 (tgt := 43) rfl (by decide) (fun hc => ?_) (fun hc => ?_)
    · replace h := h.1 hc
      refine V_iconst 23 (v := (0 : Int32)) rfl (by decide) ?_
      refine V_sub [0, 1, 2] (lv' := [(0, .ref 92), (1, .int a0), (2, .int a1)]) rfl ?_
      exact k_j44 (0 : Int32) y0 σ hW h
    · replace h := h.2 hc
      refine V_pc 39 rfl ?_
      refine V_iconst 21 (v := (1 : Int32)) rfl (by decide) ?_
      refine V_goto 22 (tgt := 44) rfl (by decide) ?_
      refine V_sub [0, 1, 2] (lv' := [(0, .ref 92), (1, .int a0), (2, .int a1)]) rfl ?_
      exact k_j44 (1 : Int32) y0 σ hW h
  have k_j21 : ∀ (y0 : Int32)  (σ : ab_S), Wire σ → wX12_store_j21 a0 a1 Q E y0 σ → V l mdX12_store B 2 44 0 0 (ab_End (fun v σ' => Wire σ' ∧ ∃ r : Int32, v = some (.int r) ∧ Q r σ') (fun X σ' => Wire σ' ∧ E X σ')) 21 [(0, .ref 92), (1, .int a0), (2, .int a1)] [.int y0] σ := by
    intro y0  σ hW h
    refine V_istore_n 11 (lv' := [(3, .int y0), (0, .ref 92), (1, .int a0), (2, .int a1)]) rfl rfl (by decide) rfl ?_
    refine V_aload_n 12 1 rfl rfl rfl ?_
    refine V_aload_n 13 1 rfl rfl rfl ?_
    refine V_get (v := .int (σ.2.1 92 4)) 14 4 rfl clX12 flX12_452 (by decide) (wsh hW rfl) (fun _ => rfl) ?_
    refine V_if_ne 15 (tgt := 34) rfl (by decide) (fun hc => ?_) (fun hc => ?_)
    · replace h := h.1 hc
      refine V_iconst 18 (v := (0 : Int32)) rfl (by decide) ?_
      refine V_sub [1, 2, 3, 0] (lv' := [(0, .ref 92), (1, .int a0), (2, .int a1), (3, .int y0)]) rfl ?_
      exact k_j35 y0 (0 : Int32) σ hW h
    · replace h := h.2 hc
      refine V_pc 30 rfl ?_
      refine V_iconst 16 (v := (1 : Int32)) rfl (by decide) ?_
      refine V_goto 17 (tgt := 35) rfl (by decide) ?_
      refine V_sub [1, 2, 3, 0] (lv' := [(0, .ref 92), (1, .int a0), (2, .int a1), (3, .int y0)]) rfl ?_
      exact k_j35 y0 (1 : Int32) σ hW h
  have k_j20 : ∀   (σ : ab_S), Wire σ → wX12_store_j20 a0 a1 Q E  σ → V l mdX12_store B 2 44 0 0 (ab_End (fun v σ' => Wire σ' ∧ ∃ r : Int32, v = some (.int r) ∧ Q r σ') (fun X σ' => Wire σ' ∧ E X σ')) 20 [(0, .ref 92), (1, .int a0), (2, .int a1)] [] σ := by
    intro   σ hW h
    refine V_iconst 10 (v := (0 : Int32)) rfl (by decide) ?_
    exact k_j21 (0 : Int32) σ hW h
  intro σ hW h
  refine V_aload_n 0 0 rfl rfl rfl ?_
  refine V_get (v := .int (σ.2.1 92 4)) 1 4 rfl clX12 flX12_452 (by decide) (wsh hW rfl) (fun _ => rfl) ?_
  refine V_if_eq 2 (tgt := 20) rfl (by decide) (fun hc => ?_) (fun hc => ?_)
  · replace h := h.1 hc
    exact k_j20 σ hW h
  · replace h := h.2 hc
    refine V_pc 7 rfl ?_
    refine V_aload_n 3 0 rfl rfl rfl ?_
    refine V_iload_n 4 1 rfl rfl rfl ?_
    refine V_iload_n 5 2 rfl rfl rfl ?_
    refine V_callV 6 2 (as := [.int a0, .int a1]) (rest := []) rfl mlX12_483 yvX12_isAttribute rfl rfl clX12 (wsh hW rfl) (by decide) (by decide) (Nat.le_of_ble_eq_true rfl) (by decide) (by decide) (fun B9 => ceX12_isAttribute hl B9 hW h) (fun X9 τ9 h9 => VX_out rfl h9) ?_
    rintro v9 σ3 ⟨hW, u4, rfl, h⟩
    refine V_if_eq 7 (tgt := 20) rfl (by decide) (fun hc => ?_) (fun hc => ?_)
    · replace h := h.1 hc
      exact k_j20 σ3 hW h
    · replace h := h.2 hc
      refine V_pc 16 rfl ?_
      refine V_iconst 8 (v := (1 : Int32)) rfl (by decide) ?_
      refine V_goto 9 (tgt := 21) rfl (by decide) ?_
      exact k_j21 (1 : Int32) σ3 hW h

def wX12_frameOf_j72 (a0 : Int32) (Q : Int32 → ab_S → Prop) (E : String → ab_S → Prop) (Bk : Int32 → Int32 → ab_S → Prop) (x2 : Int32) (x3 : Int32) (σ : ab_S) : Prop := ∀ v1 : Int32, v1 = (x3 + 1) → Bk x2 v1 σ
def wX12_frameOf_j65 (a0 : Int32) (Q : Int32 → ab_S → Prop) (E : String → ab_S → Prop) (K72 : Int32 → Int32 → ab_S → Prop) (Bk : Int32 → Int32 → Int32 → Int32 → ab_S → Prop) (x3 : Int32) (x4 : Int32) (x5 : Int32) (y0 : Int32) (σ : ab_S) : Prop := ∀ v2 : Int32, v2 = (x5 + 1) → Bk y0 x3 x4 v2 σ
def wX12_frameOf_l29_b (a0 : Int32) (Q : Int32 → ab_S → Prop) (E : String → ab_S → Prop) (K72 : Int32 → Int32 → ab_S → Prop) (Bk : Int32 → Int32 → Int32 → Int32 → ab_S → Prop) (x2 : Int32) (x3 : Int32) (x4 : Int32) (x5 : Int32) (σ : ab_S) : Prop := vp_in x4 13 ∧ ((((σ.2.1 99 x4.toNatClampNeg) ≤ x5) → K72 x2 x3 σ) ∧ (¬ ((σ.2.1 99 x4.toNatClampNeg) ≤ x5) → vp_in (((8 : Int32) * x4) + x5) 104 ∧ (((¬ (σ.2.1 123 (((8 : Int32) * x4) + x5).toNatClampNeg) = (1 : Int32)) → wX12_frameOf_j65 a0 Q E K72 Bk x3 x4 x5 x2 σ) ∧ (¬ (¬ (σ.2.1 123 (((8 : Int32) * x4) + x5).toNatClampNeg) = (1 : Int32)) → wX12_frameOf_j65 a0 Q E K72 Bk x3 x4 x5 (x2 + (1 : Int32)) σ))))
def wX12_frameOf_l29 (a0 : Int32) (Q : Int32 → ab_S → Prop) (E : String → ab_S → Prop) (K72 : Int32 → Int32 → ab_S → Prop) : Nat → Int32 → Int32 → Int32 → Int32 → ab_S → Prop
  | 0, _, _, _, _, _ => False
  | n + 1, x2, x3, x4, x5, σ => wX12_frameOf_l29_b a0 Q E K72 (wX12_frameOf_l29 a0 Q E K72 n) x2 x3 x4 x5 σ
def wX12_frameOf_l4_b (a0 : Int32) (Q : Int32 → ab_S → Prop) (E : String → ab_S → Prop) (Bk : Int32 → Int32 → ab_S → Prop) (x2 : Int32) (x3 : Int32) (σ : ab_S) : Prop := vp_in a0 31 ∧ ((((σ.2.1 103 a0.toNatClampNeg) < x3) → Q x2 σ) ∧ (¬ ((σ.2.1 103 a0.toNatClampNeg) < x3) → vp_in (((4 : Int32) * a0) + x3) 124 ∧ (∀ v3 : Int32, v3 = (σ.2.1 104 (((4 : Int32) * a0) + x3).toNatClampNeg) → ∃ n, wX12_frameOf_l29 a0 Q E (wX12_frameOf_j72 a0 Q E Bk) n x2 x3 v3 (0 : Int32) σ)))
def wX12_frameOf_l4 (a0 : Int32) (Q : Int32 → ab_S → Prop) (E : String → ab_S → Prop) : Nat → Int32 → Int32 → ab_S → Prop
  | 0, _, _, _ => False
  | n + 1, x2, x3, σ => wX12_frameOf_l4_b a0 Q E (wX12_frameOf_l4 a0 Q E n) x2 x3 σ
def wX12_frameOf (a0 : Int32) (Q : Int32 → ab_S → Prop) (E : String → ab_S → Prop) (σ : ab_S) : Prop := ∃ n, wX12_frameOf_l4 a0 Q E n (0 : Int32) (1 : Int32) σ
set_option maxHeartbeats 4000000 in
set_option maxRecDepth 100000 in
theorem ceX12_frameOf {l : Launch} (hl : l.stackTraces = false) (B : Nat) {a0 : Int32}  {Q : Int32 → ab_S → Prop} {E : String → ab_S → Prop} {σ : ab_S} (hW : Wire σ) (h : wX12_frameOf a0 Q E σ) : ab_Mt l yX12_frameOf mdX12_frameOf B 0 0 0 0 [.ref 92, .int a0] σ (fun v σ' => Wire σ' ∧ ∃ r : Int32, v = some (.int r) ∧ Q r σ') (fun X σ' => Wire σ' ∧ E X σ') := by
  refine V_met hl ⟨rfl, rfl, by decide⟩ rfl dkX12_frameOf (Nat.le_of_ble_eq_true rfl) ?_
  show V l mdX12_frameOf B 0 0 0 0 (ab_End _ _) 0 [(0, .ref 92), (1, .int a0)] [] σ
  revert h hW
  revert σ
  have k_l4 : ∀ (n : Nat) (x2 : Int32) (x3 : Int32)  (σ : ab_S), Wire σ → wX12_frameOf_l4 a0 Q E n x2 x3 σ → V l mdX12_frameOf B 0 0 0 0 (ab_End (fun v σ' => Wire σ' ∧ ∃ r : Int32, v = some (.int r) ∧ Q r σ') (fun X σ' => Wire σ' ∧ E X σ')) 4 [(0, .ref 92), (1, .int a0), (2, .int x2), (3, .int x3)] [] σ := by
    have step : ∀ (Bk : Int32 → Int32 → ab_S → Prop) (k_Bk : ∀ (x2 : Int32) (x3 : Int32)  (σ : ab_S), Wire σ → Bk x2 x3 σ → V l mdX12_frameOf B 0 0 0 0 (ab_End (fun v σ' => Wire σ' ∧ ∃ r : Int32, v = some (.int r) ∧ Q r σ') (fun X σ' => Wire σ' ∧ E X σ')) 4 [(0, .ref 92), (1, .int a0), (2, .int x2), (3, .int x3)] [] σ), ∀ (x2 : Int32) (x3 : Int32)  (σ : ab_S), Wire σ → wX12_frameOf_l4_b a0 Q E Bk x2 x3 σ → V l mdX12_frameOf B 0 0 0 0 (ab_End (fun v σ' => Wire σ' ∧ ∃ r : Int32, v = some (.int r) ∧ Q r σ') (fun X σ' => Wire σ' ∧ E X σ')) 4 [(0, .ref 92), (1, .int a0), (2, .int x2), (3, .int x3)] [] σ := by
      intro Bk k_Bk
      have k_j72 : ∀ (x2 : Int32) (x3 : Int32)  (σ : ab_S), Wire σ → wX12_frameOf_j72 a0 Q E Bk x2 x3 σ → V l mdX12_frameOf B 0 0 0 0 (ab_End (fun v σ' => Wire σ' ∧ ∃ r : Int32, v = some (.int r) ∧ Q r σ') (fun X σ' => Wire σ' ∧ E X σ')) 72 [(0, .ref 92), (1, .int a0), (2, .int x2), (3, .int x3)] [] σ := by
        intro x2 x3  σ hW h
        obtain ⟨v1, ev1⟩ : ∃ z : Int32, z = (x3 + 1) := ⟨_, rfl⟩
        replace h := h v1 ev1
        refine V_iinc 45 3 (v := v1) (lv' := [(3, .int v1), (0, .ref 92), (1, .int a0), (2, .int x2)]) rfl rfl ((in_1 _).trans ev1.symm) (by decide) rfl ?_
        refine V_goto 46 (tgt := 4) rfl (by decide) ?_
        refine V_sub [1, 2, 3, 0] (lv' := [(0, .ref 92), (1, .int a0), (2, .int x2), (3, .int v1)]) rfl ?_
        exact k_Bk x2 v1  σ hW h
      have k_l29 : ∀ (n : Nat) (x2 : Int32) (x3 : Int32) (x4 : Int32) (x5 : Int32)  (σ : ab_S), Wire σ → wX12_frameOf_l29 a0 Q E (wX12_frameOf_j72 a0 Q E Bk) n x2 x3 x4 x5 σ → V l mdX12_frameOf B 0 0 0 0 (ab_End (fun v σ' => Wire σ' ∧ ∃ r : Int32, v = some (.int r) ∧ Q r σ') (fun X σ' => Wire σ' ∧ E X σ')) 29 [(0, .ref 92), (1, .int a0), (2, .int x2), (3, .int x3), (4, .int x4), (5, .int x5)] [] σ := by
        have step : ∀ (K72 : Int32 → Int32 → ab_S → Prop) (k_K72 : ∀ (x2 : Int32) (x3 : Int32)  (σ : ab_S), Wire σ → K72 x2 x3 σ → V l mdX12_frameOf B 0 0 0 0 (ab_End (fun v σ' => Wire σ' ∧ ∃ r : Int32, v = some (.int r) ∧ Q r σ') (fun X σ' => Wire σ' ∧ E X σ')) 72 [(0, .ref 92), (1, .int a0), (2, .int x2), (3, .int x3)] [] σ), ∀ (Bk : Int32 → Int32 → Int32 → Int32 → ab_S → Prop) (k_Bk : ∀ (x2 : Int32) (x3 : Int32) (x4 : Int32) (x5 : Int32)  (σ : ab_S), Wire σ → Bk x2 x3 x4 x5 σ → V l mdX12_frameOf B 0 0 0 0 (ab_End (fun v σ' => Wire σ' ∧ ∃ r : Int32, v = some (.int r) ∧ Q r σ') (fun X σ' => Wire σ' ∧ E X σ')) 29 [(0, .ref 92), (1, .int a0), (2, .int x2), (3, .int x3), (4, .int x4), (5, .int x5)] [] σ), ∀ (x2 : Int32) (x3 : Int32) (x4 : Int32) (x5 : Int32)  (σ : ab_S), Wire σ → wX12_frameOf_l29_b a0 Q E K72 Bk x2 x3 x4 x5 σ → V l mdX12_frameOf B 0 0 0 0 (ab_End (fun v σ' => Wire σ' ∧ ∃ r : Int32, v = some (.int r) ∧ Q r σ') (fun X σ' => Wire σ' ∧ E X σ')) 29 [(0, .ref 92), (1, .int a0), (2, .int x2), (3, .int x3), (4, .int x4), (5, .int x5)] [] σ := by
          intro K72 k_K72 Bk k_Bk
          have k_j65 : ∀ (x3 : Int32) (x4 : Int32) (x5 : Int32) (y0 : Int32)  (σ : ab_S), Wire σ → wX12_frameOf_j65 a0 Q E K72 Bk x3 x4 x5 y0 σ → V l mdX12_frameOf B 0 0 0 0 (ab_End (fun v σ' => Wire σ' ∧ ∃ r : Int32, v = some (.int r) ∧ Q r σ') (fun X σ' => Wire σ' ∧ E X σ')) 65 [(0, .ref 92), (1, .int a0), (3, .int x3), (4, .int x4), (5, .int x5)] [.int y0] σ := by
            intro x3 x4 x5 y0  σ hW h
            refine V_istore_n 42 (lv' := [(2, .int y0), (0, .ref 92), (1, .int a0), (3, .int x3), (4, .int x4), (5, .int x5)]) rfl rfl (by decide) rfl ?_
            obtain ⟨v2, ev2⟩ : ∃ z : Int32, z = (x5 + 1) := ⟨_, rfl⟩
            replace h := h v2 ev2
            refine V_iinc 43 5 (v := v2) (lv' := [(5, .int v2), (2, .int y0), (0, .ref 92), (1, .int a0), (3, .int x3), (4, .int x4)]) rfl rfl ((in_1 _).trans ev2.symm) (by decide) rfl ?_
            refine V_goto 44 (tgt := 29) rfl (by decide) ?_
            refine V_sub [2, 3, 1, 4, 5, 0] (lv' := [(0, .ref 92), (1, .int a0), (2, .int y0), (3, .int x3), (4, .int x4), (5, .int v2)]) rfl ?_
            exact k_Bk y0 x3 x4 v2  σ hW h
          intro x2 x3 x4 x5  σ hW h
          refine V_iload 21 5 rfl rfl ?_
          refine V_aload_n 22 0 rfl rfl rfl ?_
          refine V_getR 23 12 rfl clX12 flX12_29 (by decide) (wsh hW rfl) (fun _ => rfl) (wrf hW 100 rfl) ?_
          refine V_iload 24 4 rfl rfl ?_
          obtain ⟨hin, h⟩ := h
          refine V_iald 25 rfl (wsh hW rfl) hin ?_
          refine V_icmp_ge 26 (tgt := 72) rfl (by decide) (fun hc => ?_) (fun hc => ?_)
          · replace h := h.1 hc
            refine V_sub [0, 1, 2, 3] (lv' := [(0, .ref 92), (1, .int a0), (2, .int x2), (3, .int x3)]) rfl ?_
            exact k_K72 x2 x3  σ hW h
          · replace h := h.2 hc
            refine V_pc 41 rfl ?_
            refine V_aload_n 27 0 rfl rfl rfl ?_
            refine V_getR 28 39 rfl clX12 flX12_102 (by decide) (wsh hW rfl) (fun _ => rfl) (wrf hW 124 rfl) ?_
            refine V_bipush 29 (v := (8 : Int32)) rfl (by decide) ?_
            refine V_iload 30 4 rfl rfl ?_
            refine V_imul 31 rfl ?_
            refine V_iload 32 5 rfl rfl ?_
            refine V_pc 52 rfl ?_
            refine V_iadd 33 rfl ?_
            obtain ⟨hin, h⟩ := h
            refine V_iald 34 rfl (wsh hW rfl) hin ?_
            refine V_iconst 35 (v := (1 : Int32)) rfl (by decide) ?_
            refine V_icmp_ne 36 (tgt := 64) rfl (by decide) (fun hc => ?_) (fun hc => ?_)
            · replace h := h.1 hc
              refine V_iload_n 41 2 rfl rfl rfl ?_
              refine V_sub [0, 1, 3, 4, 5] (lv' := [(0, .ref 92), (1, .int a0), (3, .int x3), (4, .int x4), (5, .int x5)]) rfl ?_
              exact k_j65 x3 x4 x5 x2 σ hW h
            · replace h := h.2 hc
              refine V_pc 58 rfl ?_
              refine V_iload_n 37 2 rfl rfl rfl ?_
              refine V_iconst 38 (v := (1 : Int32)) rfl (by decide) ?_
              refine V_iadd 39 rfl ?_
              refine V_goto 40 (tgt := 65) rfl (by decide) ?_
              refine V_sub [0, 1, 3, 4, 5] (lv' := [(0, .ref 92), (1, .int a0), (3, .int x3), (4, .int x4), (5, .int x5)]) rfl ?_
              exact k_j65 x3 x4 x5 (x2 + (1 : Int32)) σ hW h
        intro n
        induction n with
        | zero => intro x2 x3 x4 x5  σ hW h; exact absurd h id
        | succ n ih => exact step _ k_j72 _ ih
      intro x2 x3  σ hW h
      refine V_iload_n 4 3 rfl rfl rfl ?_
      refine V_aload_n 5 0 rfl rfl rfl ?_
      refine V_getR 6 17 rfl clX12 flX12_42 (by decide) (wsh hW rfl) (fun _ => rfl) (wrf hW 104 rfl) ?_
      refine V_iload_n 7 1 rfl rfl rfl ?_
      obtain ⟨hin, h⟩ := h
      refine V_iald 8 rfl (wsh hW rfl) hin ?_
      refine V_icmp_gt 9 (tgt := 78) rfl (by decide) (fun hc => ?_) (fun hc => ?_)
      · replace h := h.1 hc
        refine V_iload_n 47 2 rfl rfl rfl ?_
        exact V_iret 48 rfl rfl ⟨hW, _, rfl, h⟩
      · replace h := h.2 hc
        refine V_pc 14 rfl ?_
        refine V_aload_n 10 0 rfl rfl rfl ?_
        refine V_getR 11 18 rfl clX12 flX12_45 (by decide) (wsh hW rfl) (fun _ => rfl) (wrf hW 105 rfl) ?_
        refine V_iconst 12 (v := (4 : Int32)) rfl (by decide) ?_
        refine V_iload_n 13 1 rfl rfl rfl ?_
        refine V_imul 14 rfl ?_
        refine V_iload_n 15 3 rfl rfl rfl ?_
        refine V_pc 22 rfl ?_
        refine V_iadd 16 rfl ?_
        obtain ⟨hin, h⟩ := h
        refine V_iald 17 rfl (wsh hW rfl) hin ?_
        refine V_topi (fun v3 ev3 => ?_)
        replace h := h v3 ev3
        refine V_istore 18 (lv' := [(4, .int v3), (0, .ref 92), (1, .int a0), (2, .int x2), (3, .int x3)]) rfl (by decide) rfl ?_
        refine V_iconst 19 (v := (0 : Int32)) rfl (by decide) ?_
        refine V_istore 20 (lv' := [(5, .int (0 : Int32)), (4, .int v3), (0, .ref 92), (1, .int a0), (2, .int x2), (3, .int x3)]) rfl (by decide) rfl ?_
        refine V_sub [2, 3, 4, 5, 1, 0] (lv' := [(0, .ref 92), (1, .int a0), (2, .int x2), (3, .int x3), (4, .int v3), (5, .int (0 : Int32))]) rfl ?_
        obtain ⟨n, h⟩ := h
        exact k_l29 n x2 x3 v3 (0 : Int32) σ hW h
    intro n
    induction n with
    | zero => intro x2 x3  σ hW h; exact absurd h id
    | succ n ih => exact step  _ ih
  intro σ hW h
  refine V_iconst 0 (v := (0 : Int32)) rfl (by decide) ?_
  refine V_istore_n 1 (lv' := [(2, .int (0 : Int32)), (0, .ref 92), (1, .int a0)]) rfl rfl (by decide) rfl ?_
  refine V_iconst 2 (v := (1 : Int32)) rfl (by decide) ?_
  refine V_istore_n 3 (lv' := [(3, .int (1 : Int32)), (2, .int (0 : Int32)), (0, .ref 92), (1, .int a0)]) rfl rfl (by decide) rfl ?_
  refine V_sub [2, 3, 1, 0] (lv' := [(0, .ref 92), (1, .int a0), (2, .int (0 : Int32)), (3, .int (1 : Int32))]) rfl ?_
  obtain ⟨n, h⟩ := h
  exact k_l4 n (0 : Int32) (1 : Int32) σ hW h

def wX12_framesAbove_l4_b (a0 : Int32) (Q : Int32 → ab_S → Prop) (E : String → ab_S → Prop) (Bk : Int32 → Int32 → ab_S → Prop) (x2 : Int32) (x3 : Int32) (σ : ab_S) : Prop := ((x3 < 0) → Q x2 σ) ∧ (¬ (x3 < 0) → vp_in x3 251 ∧ (wX12_frameOf (σ.2.1 128 x3.toNatClampNeg) (fun u2 σ1 => ∀ v3 : Int32, v3 = (x2 + u2) → vp_in x3 251 ∧ (∀ v4 : Int32, v4 = (σ1.2.1 129 x3.toNatClampNeg) → Bk v3 v4 σ1)) E σ))
def wX12_framesAbove_l4 (a0 : Int32) (Q : Int32 → ab_S → Prop) (E : String → ab_S → Prop) : Nat → Int32 → Int32 → ab_S → Prop
  | 0, _, _, _ => False
  | n + 1, x2, x3, σ => wX12_framesAbove_l4_b a0 Q E (wX12_framesAbove_l4 a0 Q E n) x2 x3 σ
def wX12_framesAbove (a0 : Int32) (Q : Int32 → ab_S → Prop) (E : String → ab_S → Prop) (σ : ab_S) : Prop := ∃ n, wX12_framesAbove_l4 a0 Q E n (0 : Int32) a0 σ
set_option maxHeartbeats 4000000 in
set_option maxRecDepth 100000 in
theorem ceX12_framesAbove {l : Launch} (hl : l.stackTraces = false) (B : Nat) {a0 : Int32}  {Q : Int32 → ab_S → Prop} {E : String → ab_S → Prop} {σ : ab_S} (hW : Wire σ) (h : wX12_framesAbove a0 Q E σ) : ab_Mt l yX12_framesAbove mdX12_framesAbove B 1 25 0 0 [.ref 92, .int a0] σ (fun v σ' => Wire σ' ∧ ∃ r : Int32, v = some (.int r) ∧ Q r σ') (fun X σ' => Wire σ' ∧ E X σ') := by
  refine V_met hl ⟨rfl, rfl, by decide⟩ rfl dkX12_framesAbove (Nat.le_of_ble_eq_true rfl) ?_
  show V l mdX12_framesAbove B 1 25 0 0 (ab_End _ _) 0 [(0, .ref 92), (1, .int a0)] [] σ
  revert h hW
  revert σ
  have k_l4 : ∀ (n : Nat) (x2 : Int32) (x3 : Int32)  (σ : ab_S), Wire σ → wX12_framesAbove_l4 a0 Q E n x2 x3 σ → V l mdX12_framesAbove B 1 25 0 0 (ab_End (fun v σ' => Wire σ' ∧ ∃ r : Int32, v = some (.int r) ∧ Q r σ') (fun X σ' => Wire σ' ∧ E X σ')) 4 [(0, .ref 92), (2, .int x2), (3, .int x3)] [] σ := by
    have step : ∀ (Bk : Int32 → Int32 → ab_S → Prop) (k_Bk : ∀ (x2 : Int32) (x3 : Int32)  (σ : ab_S), Wire σ → Bk x2 x3 σ → V l mdX12_framesAbove B 1 25 0 0 (ab_End (fun v σ' => Wire σ' ∧ ∃ r : Int32, v = some (.int r) ∧ Q r σ') (fun X σ' => Wire σ' ∧ E X σ')) 4 [(0, .ref 92), (2, .int x2), (3, .int x3)] [] σ), ∀ (x2 : Int32) (x3 : Int32)  (σ : ab_S), Wire σ → wX12_framesAbove_l4_b a0 Q E Bk x2 x3 σ → V l mdX12_framesAbove B 1 25 0 0 (ab_End (fun v σ' => Wire σ' ∧ ∃ r : Int32, v = some (.int r) ∧ Q r σ') (fun X σ' => Wire σ' ∧ E X σ')) 4 [(0, .ref 92), (2, .int x2), (3, .int x3)] [] σ := by
      intro Bk k_Bk
      intro x2 x3  σ hW h
      refine V_iload_n 4 2 rfl rfl rfl ?_
      refine V_if_lt 5 (tgt := 31) rfl (by decide) (fun hc => ?_) (fun hc => ?_)
      · replace h := h.1 hc
        refine V_iload_n 21 1 rfl rfl rfl ?_
        exact V_iret 22 rfl rfl ⟨hW, _, rfl, h⟩
      · replace h := h.2 hc
        refine V_pc 8 rfl ?_
        refine V_iload_n 6 1 rfl rfl rfl ?_
        refine V_aload_n 7 0 rfl rfl rfl ?_
        refine V_aload_n 8 0 rfl rfl rfl ?_
        refine V_getR 9 54 rfl clX12 flX12_117 (by decide) (wsh hW rfl) (fun _ => rfl) (wrf hW 129 rfl) ?_
        refine V_iload_n 10 2 rfl rfl rfl ?_
        obtain ⟨hin, h⟩ := h
        refine V_iald 11 rfl (wsh hW rfl) hin ?_
        refine V_pc 16 rfl ?_
        refine V_callV 12 1 (as := [.int (σ.2.1 128 x3.toNatClampNeg)]) (rest := [.int x2]) rfl mlX12_486 yvX12_frameOf rfl rfl clX12 (wsh hW rfl) (by decide) (by decide) (Nat.le_of_ble_eq_true rfl) (by decide) (by decide) (fun B9 => ceX12_frameOf hl B9 hW h) (fun X9 τ9 h9 => VX_out rfl h9) ?_
        rintro v9 σ1 ⟨hW, u2, rfl, h⟩
        refine V_iadd 13 rfl ?_
        refine V_topi (fun v3 ev3 => ?_)
        replace h := h v3 ev3
        refine V_istore_n 14 (lv' := [(2, .int v3), (0, .ref 92), (3, .int x3)]) rfl rfl (by decide) rfl ?_
        refine V_aload_n 15 1 rfl rfl rfl ?_
        refine V_getR 16 55 rfl clX12 flX12_120 (by decide) (wsh hW rfl) (fun _ => rfl) (wrf hW 130 rfl) ?_
        refine V_iload_n 17 2 rfl rfl rfl ?_
        refine V_pc 26 rfl ?_
        obtain ⟨hin, h⟩ := h
        refine V_iald 18 rfl (wsh hW rfl) hin ?_
        refine V_topi (fun v4 ev4 => ?_)
        replace h := h v4 ev4
        refine V_istore_n 19 (lv' := [(3, .int v4), (2, .int v3), (0, .ref 92)]) rfl rfl (by decide) rfl ?_
        refine V_goto 20 (tgt := 4) rfl (by decide) ?_
        refine V_sub [2, 1, 0] (lv' := [(0, .ref 92), (2, .int v3), (3, .int v4)]) rfl ?_
        exact k_Bk v3 v4  σ1 hW h
    intro n
    induction n with
    | zero => intro x2 x3  σ hW h; exact absurd h id
    | succ n ih => exact step  _ ih
  intro σ hW h
  refine V_iconst 0 (v := (0 : Int32)) rfl (by decide) ?_
  refine V_istore_n 1 (lv' := [(2, .int (0 : Int32)), (0, .ref 92), (1, .int a0)]) rfl rfl (by decide) rfl ?_
  refine V_iload_n 2 2 rfl rfl rfl ?_
  refine V_istore_n 3 (lv' := [(3, .int a0), (2, .int (0 : Int32)), (0, .ref 92), (1, .int a0)]) rfl rfl (by decide) rfl ?_
  refine V_sub [2, 1, 0] (lv' := [(0, .ref 92), (2, .int (0 : Int32)), (3, .int a0)]) rfl ?_
  obtain ⟨n, h⟩ := h
  exact k_l4 n (0 : Int32) a0 σ hW h

def wX12_takeText_j53 (a0 : Int32) (Q : ab_S → Prop) (E : String → ab_S → Prop) (Bk : Int32 → ab_S → Prop) (x2 : Int32) (y0 : Int32) (y1 : Int32) (σ : ab_S) : Prop := vp_in y1 2400 ∧ (∀ σ1 : ab_S, σ1 = ab_I σ 96 y1.toNatClampNeg y0 → ∀ v2 : Int32, v2 = (x2 + 1) → Bk v2 σ1)
def wX12_takeText_l21_b (a0 : Int32) (Q : ab_S → Prop) (E : String → ab_S → Prop) (Bk : Int32 → ab_S → Prop) (x2 : Int32) (σ : ab_S) : Prop := (((σ.2.1 92 8) ≤ x2) → Q σ) ∧ (¬ ((σ.2.1 92 8) ≤ x2) → ((a0 = 0) → vp_in x2 2400 ∧ (wX12_takeText_j53 a0 Q E Bk x2 (σ.2.1 93 x2.toNatClampNeg) x2 σ)) ∧ (¬ (a0 = 0) → vp_in x2 2400 ∧ (wX12_takeText_j53 a0 Q E Bk x2 (σ.2.1 95 x2.toNatClampNeg) x2 σ)))
def wX12_takeText_l21 (a0 : Int32) (Q : ab_S → Prop) (E : String → ab_S → Prop) : Nat → Int32 → ab_S → Prop
  | 0, _, _ => False
  | n + 1, x2, σ => wX12_takeText_l21_b a0 Q E (wX12_takeText_l21 a0 Q E n) x2 σ
def wX12_takeText_j16 (a0 : Int32) (Q : ab_S → Prop) (E : String → ab_S → Prop) (y0 : Int32) (σ : ab_S) : Prop := (∀ σ3 : ab_S, σ3 = ab_I σ 92 8 y0 → ∃ n, wX12_takeText_l21 a0 Q E n (0 : Int32) σ3)
def wX12_takeText (a0 : Int32) (Q : ab_S → Prop) (E : String → ab_S → Prop) (σ : ab_S) : Prop := ((a0 = 0) → wX12_takeText_j16 a0 Q E (σ.2.1 92 2) σ) ∧ (¬ (a0 = 0) → wX12_takeText_j16 a0 Q E (σ.2.1 92 6) σ)
set_option maxHeartbeats 4000000 in
set_option maxRecDepth 100000 in
theorem ceX12_takeText {l : Launch} (hl : l.stackTraces = false) (B : Nat) {a0 : Int32}  {Q : ab_S → Prop} {E : String → ab_S → Prop} {σ : ab_S} (hW : Wire σ) (h : wX12_takeText a0 Q E σ) : ab_Mt l yX12_takeText mdX12_takeText B 0 0 0 0 [.ref 92, .int a0] σ (fun v σ' => Wire σ' ∧ v = none ∧ Q σ') (fun X σ' => Wire σ' ∧ E X σ') := by
  refine V_met hl ⟨rfl, rfl, by decide⟩ rfl dkX12_takeText (Nat.le_of_ble_eq_true rfl) ?_
  show V l mdX12_takeText B 0 0 0 0 (ab_End _ _) 0 [(0, .ref 92), (1, .int a0)] [] σ
  revert h hW
  revert σ
  have k_l21 : ∀ (n : Nat) (x2 : Int32)  (σ : ab_S), Wire σ → wX12_takeText_l21 a0 Q E n x2 σ → V l mdX12_takeText B 0 0 0 0 (ab_End (fun v σ' => Wire σ' ∧ v = none ∧ Q σ') (fun X σ' => Wire σ' ∧ E X σ')) 21 [(0, .ref 92), (1, .int a0), (2, .int x2)] [] σ := by
    have step : ∀ (Bk : Int32 → ab_S → Prop) (k_Bk : ∀ (x2 : Int32)  (σ : ab_S), Wire σ → Bk x2 σ → V l mdX12_takeText B 0 0 0 0 (ab_End (fun v σ' => Wire σ' ∧ v = none ∧ Q σ') (fun X σ' => Wire σ' ∧ E X σ')) 21 [(0, .ref 92), (1, .int a0), (2, .int x2)] [] σ), ∀ (x2 : Int32)  (σ : ab_S), Wire σ → wX12_takeText_l21_b a0 Q E Bk x2 σ → V l mdX12_takeText B 0 0 0 0 (ab_End (fun v σ' => Wire σ' ∧ v = none ∧ Q σ') (fun X σ' => Wire σ' ∧ E X σ')) 21 [(0, .ref 92), (1, .int a0), (2, .int x2)] [] σ := by
      intro Bk k_Bk
      have k_j53 : ∀ (x2 : Int32) (y0 : Int32) (y1 : Int32)  (σ : ab_S), Wire σ → wX12_takeText_j53 a0 Q E Bk x2 y0 y1 σ → V l mdX12_takeText B 0 0 0 0 (ab_End (fun v σ' => Wire σ' ∧ v = none ∧ Q σ') (fun X σ' => Wire σ' ∧ E X σ')) 53 [(0, .ref 92), (1, .int a0), (2, .int x2)] [.int y0, .int y1, .ref 96] σ := by
        intro x2 y0 y1  σ hW h
        obtain ⟨hin, h⟩ := h
        refine V_iast 29 rfl (wsh hW rfl) hin ?_
        refine V_nm (fun σ1 eσ1 => ?_)
        replace h := h σ1 eσ1
        have hW := wire_I eσ1 hW
        obtain ⟨v2, ev2⟩ : ∃ z : Int32, z = (x2 + 1) := ⟨_, rfl⟩
        replace h := h v2 ev2
        refine V_iinc 30 2 (v := v2) (lv' := [(2, .int v2), (0, .ref 92), (1, .int a0)]) rfl rfl ((in_1 _).trans ev2.symm) (by decide) rfl ?_
        refine V_goto 31 (tgt := 21) rfl (by decide) ?_
        refine V_sub [1, 2, 0] (lv' := [(0, .ref 92), (1, .int a0), (2, .int v2)]) rfl ?_
        exact k_Bk v2  σ1 hW h
      intro x2  σ hW h
      refine V_iload_n 11 2 rfl rfl rfl ?_
      refine V_aload_n 12 0 rfl rfl rfl ?_
      refine V_get (v := .int (σ.2.1 92 8)) 13 8 rfl clX12 flX12_249 (by decide) (wsh hW rfl) (fun _ => rfl) ?_
      refine V_icmp_ge 14 (tgt := 60) rfl (by decide) (fun hc => ?_) (fun hc => ?_)
      · replace h := h.1 hc
        exact V_vret 32 rfl rfl ⟨hW, rfl, h⟩
      · replace h := h.2 hc
        refine V_pc 29 rfl ?_
        refine V_aload_n 15 0 rfl rfl rfl ?_
        refine V_getR 16 7 rfl clX12 flX12_20 (by decide) (wsh hW rfl) (fun _ => rfl) (wrf hW 97 rfl) ?_
        refine V_iload_n 17 2 rfl rfl rfl ?_
        refine V_iload_n 18 1 rfl rfl rfl ?_
        refine V_if_eq 19 (tgt := 47) rfl (by decide) (fun hc => ?_) (fun hc => ?_)
        · replace h := h.1 hc
          refine V_aload_n 25 0 rfl rfl rfl ?_
          refine V_getR 26 1 rfl clX12 flX12_7 (by decide) (wsh hW rfl) (fun _ => rfl) (wrf hW 94 rfl) ?_
          refine V_iload_n 27 2 rfl rfl rfl ?_
          obtain ⟨hin, h⟩ := h
          refine V_iald 28 rfl (wsh hW rfl) hin ?_
          exact k_j53 x2 (σ.2.1 93 x2.toNatClampNeg) x2 σ hW h
        · replace h := h.2 hc
          refine V_pc 38 rfl ?_
          refine V_aload_n 20 0 rfl rfl rfl ?_
          refine V_getR 21 5 rfl clX12 flX12_17 (by decide) (wsh hW rfl) (fun _ => rfl) (wrf hW 96 rfl) ?_
          refine V_iload_n 22 2 rfl rfl rfl ?_
          obtain ⟨hin, h⟩ := h
          refine V_iald 23 rfl (wsh hW rfl) hin ?_
          refine V_goto 24 (tgt := 53) rfl (by decide) ?_
          exact k_j53 x2 (σ.2.1 95 x2.toNatClampNeg) x2 σ hW h
    intro n
    induction n with
    | zero => intro x2  σ hW h; exact absurd h id
    | succ n ih => exact step  _ ih
  have k_j16 : ∀ (y0 : Int32)  (σ : ab_S), Wire σ → wX12_takeText_j16 a0 Q E y0 σ → V l mdX12_takeText B 0 0 0 0 (ab_End (fun v σ' => Wire σ' ∧ v = none ∧ Q σ') (fun X σ' => Wire σ' ∧ E X σ')) 16 [(0, .ref 92), (1, .int a0)] [.int y0, .ref 92] σ := by
    intro y0  σ hW h
    refine V_putI 8 8 rfl clX12 flX12_249 (by decide) (wsh hW rfl) rfl (fun _ _ => rfl) rfl rfl ?_
    refine V_nm (fun σ3 eσ3 => ?_)
    replace h := h σ3 eσ3
    have hW := wire_I eσ3 hW
    refine V_iconst 9 (v := (0 : Int32)) rfl (by decide) ?_
    refine V_istore_n 10 (lv' := [(2, .int (0 : Int32)), (0, .ref 92), (1, .int a0)]) rfl rfl (by decide) rfl ?_
    refine V_sub [1, 2, 0] (lv' := [(0, .ref 92), (1, .int a0), (2, .int (0 : Int32))]) rfl ?_
    obtain ⟨n, h⟩ := h
    exact k_l21 n (0 : Int32) σ3 hW h
  intro σ hW h
  refine V_aload_n 0 0 rfl rfl rfl ?_
  refine V_iload_n 1 1 rfl rfl rfl ?_
  refine V_if_eq 2 (tgt := 12) rfl (by decide) (fun hc => ?_) (fun hc => ?_)
  · replace h := h.1 hc
    refine V_aload_n 6 0 rfl rfl rfl ?_
    refine V_get (v := .int (σ.2.1 92 2)) 7 2 rfl clX12 flX12_242 (by decide) (wsh hW rfl) (fun _ => rfl) ?_
    exact k_j16 (σ.2.1 92 2) σ hW h
  · replace h := h.2 hc
    refine V_pc 5 rfl ?_
    refine V_aload_n 3 0 rfl rfl rfl ?_
    refine V_get (v := .int (σ.2.1 92 6)) 4 6 rfl clX12 flX12_489 (by decide) (wsh hW rfl) (fun _ => rfl) ?_
    refine V_goto 5 (tgt := 16) rfl (by decide) ?_
    exact k_j16 (σ.2.1 92 6) σ hW h

def wX12_grammar_j96 (Q : Int32 → ab_S → Prop) (E : String → ab_S → Prop)  (σ : ab_S) : Prop := (∀ σ1 : ab_S, σ1 = ab_I σ 92 4 (1 : Int32) → (∀ σ2 : ab_S, σ2 = ab_I σ1 92 52 (0 : Int32) → (∀ σ3 : ab_S, σ3 = ab_I σ2 92 83 (0 : Int32) → Q (-1 : Int32) σ3)))
def wX12_grammar_l70_b (Q : Int32 → ab_S → Prop) (E : String → ab_S → Prop) (K96 : ab_S → Prop) (Bk : Int32 → ab_S → Prop) (x2 : Int32) (σ : ab_S) : Prop := (((σ.2.1 92 6) ≤ x2) → K96 σ) ∧ (¬ ((σ.2.1 92 6) ≤ x2) → vp_in x2 2400 ∧ (vp_in x2 2400 ∧ (∀ σ4 : ab_S, σ4 = ab_I σ 95 x2.toNatClampNeg (σ.2.1 96 x2.toNatClampNeg) → ∀ v5 : Int32, v5 = (x2 + 1) → Bk v5 σ4)))
def wX12_grammar_l70 (Q : Int32 → ab_S → Prop) (E : String → ab_S → Prop) (K96 : ab_S → Prop) : Nat → Int32 → ab_S → Prop
  | 0, _, _ => False
  | n + 1, x2, σ => wX12_grammar_l70_b Q E K96 (wX12_grammar_l70 Q E K96 n) x2 σ
def wX12_grammar_j32 (Q : Int32 → ab_S → Prop) (E : String → ab_S → Prop) (y0 : Int32) (σ : ab_S) : Prop := ((y0 < 0) → (∀ σ6 : ab_S, σ6 = ab_I σ 92 6 (σ.2.1 92 8) → ∃ n, wX12_grammar_l70 Q E (wX12_grammar_j96 Q E) n (0 : Int32) σ6)) ∧ (¬ (y0 < 0) → (((σ.2.1 92 4) = 0) → Q y0 σ) ∧ (¬ ((σ.2.1 92 4) = 0) → wX12_takeText (1 : Int32) (fun σ7 => wX12_readGrammar (fun σ8 => wX12_order (fun u10 σ9 => Q y0 σ9) E σ8) E σ7) E σ))
def wX12_grammar  (Q : Int32 → ab_S → Prop) (E : String → ab_S → Prop) (σ : ab_S) : Prop := (∀ σ11 : ab_S, σ11 = ab_I σ 92 0 (0 : Int32) → wX12_takeText (0 : Int32) (fun σ12 => wX12_readGrammar (fun σ13 => wX12_good (fun u15 σ14 => ((u15 = 0) → wX12_grammar_j32 Q E (σ14.2.1 92 44) σ14) ∧ (¬ (u15 = 0) → wX12_order (fun u17 σ16 => wX12_grammar_j32 Q E u17 σ16) E σ14)) E σ13) E σ12) E σ11)
set_option maxHeartbeats 4000000 in
set_option maxRecDepth 100000 in
theorem ceX12_grammar {l : Launch} (hl : l.stackTraces = false) (B : Nat)   {Q : Int32 → ab_S → Prop} {E : String → ab_S → Prop} {σ : ab_S} (hW : Wire σ) (h : wX12_grammar  Q E σ) : ab_Mt l yX12_grammar mdX12_grammar B 10 230 0 0 [.ref 92] σ (fun v σ' => Wire σ' ∧ ∃ r : Int32, v = some (.int r) ∧ Q r σ') (fun X σ' => Wire σ' ∧ E X σ') := by
  refine V_met hl ⟨rfl, rfl, by decide⟩ rfl dkX12_grammar (Nat.le_of_ble_eq_true rfl) ?_
  show V l mdX12_grammar B 10 230 0 0 (ab_End _ _) 0 [(0, .ref 92)] [] σ
  revert h hW
  revert σ
  have k_j96 : ∀   (σ : ab_S), Wire σ → wX12_grammar_j96 Q E  σ → V l mdX12_grammar B 10 230 0 0 (ab_End (fun v σ' => Wire σ' ∧ ∃ r : Int32, v = some (.int r) ∧ Q r σ') (fun X σ' => Wire σ' ∧ E X σ')) 96 [(0, .ref 92)] [] σ := by
    intro   σ hW h
    refine V_aload_n 52 0 rfl rfl rfl ?_
    refine V_iconst 53 (v := (1 : Int32)) rfl (by decide) ?_
    refine V_putI 54 4 rfl clX12 flX12_452 (by decide) (wsh hW rfl) rfl (fun _ _ => rfl) rfl rfl ?_
    refine V_nm (fun σ1 eσ1 => ?_)
    replace h := h σ1 eσ1
    have hW := wire_I eσ1 hW
    refine V_aload_n 55 0 rfl rfl rfl ?_
    refine V_iconst 56 (v := (0 : Int32)) rfl (by decide) ?_
    refine V_putI 57 52 rfl clX12 flX12_502 (by decide) (wsh hW rfl) rfl (fun _ _ => rfl) rfl rfl ?_
    refine V_nm (fun σ2 eσ2 => ?_)
    replace h := h σ2 eσ2
    have hW := wire_I eσ2 hW
    refine V_aload_n 58 0 rfl rfl rfl ?_
    refine V_iconst 59 (v := (0 : Int32)) rfl (by decide) ?_
    refine V_putI 60 83 rfl clX12 flX12_505 (by decide) (wsh hW rfl) rfl (fun _ _ => rfl) rfl rfl ?_
    refine V_nm (fun σ3 eσ3 => ?_)
    replace h := h σ3 eσ3
    have hW := wire_I eσ3 hW
    refine V_iconst 61 (v := (-1 : Int32)) rfl (by decide) ?_
    exact V_iret 62 rfl rfl ⟨hW, _, rfl, h⟩
  have k_l70 : ∀ (n : Nat) (x2 : Int32)  (σ : ab_S), Wire σ → wX12_grammar_l70 Q E (wX12_grammar_j96 Q E) n x2 σ → V l mdX12_grammar B 10 230 0 0 (ab_End (fun v σ' => Wire σ' ∧ ∃ r : Int32, v = some (.int r) ∧ Q r σ') (fun X σ' => Wire σ' ∧ E X σ')) 70 [(0, .ref 92), (2, .int x2)] [] σ := by
    have step : ∀ (K96 : ab_S → Prop) (k_K96 : ∀   (σ : ab_S), Wire σ → K96  σ → V l mdX12_grammar B 10 230 0 0 (ab_End (fun v σ' => Wire σ' ∧ ∃ r : Int32, v = some (.int r) ∧ Q r σ') (fun X σ' => Wire σ' ∧ E X σ')) 96 [(0, .ref 92)] [] σ), ∀ (Bk : Int32 → ab_S → Prop) (k_Bk : ∀ (x2 : Int32)  (σ : ab_S), Wire σ → Bk x2 σ → V l mdX12_grammar B 10 230 0 0 (ab_End (fun v σ' => Wire σ' ∧ ∃ r : Int32, v = some (.int r) ∧ Q r σ') (fun X σ' => Wire σ' ∧ E X σ')) 70 [(0, .ref 92), (2, .int x2)] [] σ), ∀ (x2 : Int32)  (σ : ab_S), Wire σ → wX12_grammar_l70_b Q E K96 Bk x2 σ → V l mdX12_grammar B 10 230 0 0 (ab_End (fun v σ' => Wire σ' ∧ ∃ r : Int32, v = some (.int r) ∧ Q r σ') (fun X σ' => Wire σ' ∧ E X σ')) 70 [(0, .ref 92), (2, .int x2)] [] σ := by
      intro K96 k_K96 Bk k_Bk
      intro x2  σ hW h
      refine V_iload_n 38 1 rfl rfl rfl ?_
      refine V_aload_n 39 0 rfl rfl rfl ?_
      refine V_get (v := .int (σ.2.1 92 6)) 40 6 rfl clX12 flX12_489 (by decide) (wsh hW rfl) (fun _ => rfl) ?_
      refine V_icmp_ge 41 (tgt := 96) rfl (by decide) (fun hc => ?_) (fun hc => ?_)
      · replace h := h.1 hc
        refine V_sub [0] (lv' := [(0, .ref 92)]) rfl ?_
        exact k_K96  σ hW h
      · replace h := h.2 hc
        refine V_pc 78 rfl ?_
        refine V_aload_n 42 0 rfl rfl rfl ?_
        refine V_getR 43 5 rfl clX12 flX12_17 (by decide) (wsh hW rfl) (fun _ => rfl) (wrf hW 96 rfl) ?_
        refine V_iload_n 44 1 rfl rfl rfl ?_
        refine V_aload_n 45 0 rfl rfl rfl ?_
        refine V_getR 46 7 rfl clX12 flX12_20 (by decide) (wsh hW rfl) (fun _ => rfl) (wrf hW 97 rfl) ?_
        refine V_iload_n 47 1 rfl rfl rfl ?_
        refine V_pc 88 rfl ?_
        obtain ⟨hin, h⟩ := h
        refine V_iald 48 rfl (wsh hW rfl) hin ?_
        obtain ⟨hin, h⟩ := h
        refine V_iast 49 rfl (wsh hW rfl) hin ?_
        refine V_nm (fun σ4 eσ4 => ?_)
        replace h := h σ4 eσ4
        have hW := wire_I eσ4 hW
        obtain ⟨v5, ev5⟩ : ∃ z : Int32, z = (x2 + 1) := ⟨_, rfl⟩
        replace h := h v5 ev5
        refine V_iinc 50 1 (v := v5) (lv' := [(2, .int v5), (0, .ref 92)]) rfl rfl ((in_1 _).trans ev5.symm) (by decide) rfl ?_
        refine V_goto 51 (tgt := 70) rfl (by decide) ?_
        refine V_sub [1, 0] (lv' := [(0, .ref 92), (2, .int v5)]) rfl ?_
        exact k_Bk v5  σ4 hW h
    intro n
    induction n with
    | zero => intro x2  σ hW h; exact absurd h id
    | succ n ih => exact step _ k_j96 _ ih
  have k_j32 : ∀ (y0 : Int32)  (σ : ab_S), Wire σ → wX12_grammar_j32 Q E y0 σ → V l mdX12_grammar B 10 230 0 0 (ab_End (fun v σ' => Wire σ' ∧ ∃ r : Int32, v = some (.int r) ∧ Q r σ') (fun X σ' => Wire σ' ∧ E X σ')) 32 [(0, .ref 92)] [.int y0] σ := by
    intro y0  σ hW h
    refine V_istore_n 16 (lv' := [(1, .int y0), (0, .ref 92)]) rfl rfl (by decide) rfl ?_
    refine V_iload_n 17 0 rfl rfl rfl ?_
    refine V_if_lt 18 (tgt := 60) rfl (by decide) (fun hc => ?_) (fun hc => ?_)
    · replace h := h.1 hc
      refine V_aload_n 32 1 rfl rfl rfl ?_
      refine V_aload_n 33 1 rfl rfl rfl ?_
      refine V_get (v := .int (σ.2.1 92 8)) 34 8 rfl clX12 flX12_249 (by decide) (wsh hW rfl) (fun _ => rfl) ?_
      refine V_putI 35 6 rfl clX12 flX12_489 (by decide) (wsh hW rfl) rfl (fun _ _ => rfl) rfl rfl ?_
      refine V_nm (fun σ6 eσ6 => ?_)
      replace h := h σ6 eσ6
      have hW := wire_I eσ6 hW
      refine V_iconst 36 (v := (0 : Int32)) rfl (by decide) ?_
      refine V_istore_n 37 (lv' := [(2, .int (0 : Int32)), (1, .int y0), (0, .ref 92)]) rfl rfl (by decide) rfl ?_
      refine V_sub [2, 0] (lv' := [(0, .ref 92), (2, .int (0 : Int32))]) rfl ?_
      obtain ⟨n, h⟩ := h
      exact k_l70 n (0 : Int32) σ6 hW h
    · replace h := h.2 hc
      refine V_pc 37 rfl ?_
      refine V_aload_n 19 1 rfl rfl rfl ?_
      refine V_get (v := .int (σ.2.1 92 4)) 20 4 rfl clX12 flX12_452 (by decide) (wsh hW rfl) (fun _ => rfl) ?_
      refine V_if_eq 21 (tgt := 58) rfl (by decide) (fun hc => ?_) (fun hc => ?_)
      · replace h := h.1 hc
        refine V_iload_n 30 0 rfl rfl rfl ?_
        exact V_iret 31 rfl rfl ⟨hW, _, rfl, h⟩
      · replace h := h.2 hc
        refine V_pc 44 rfl ?_
        refine V_aload_n 22 1 rfl rfl rfl ?_
        refine V_iconst 23 (v := (1 : Int32)) rfl (by decide) ?_
        refine V_callV 24 1 (as := [.int (1 : Int32)]) (rest := []) rfl mlX12_492 yvX12_takeText rfl rfl clX12 (wsh hW rfl) (by decide) (by decide) (Nat.le_of_ble_eq_true rfl) (by decide) (by decide) (fun B9 => ceX12_takeText hl B9 hW h) (fun X9 τ9 h9 => VX_out rfl h9) ?_
        rintro v9 σ7 ⟨hW, rfl, h⟩
        refine V_aload_n 25 1 rfl rfl rfl ?_
        refine V_callV 26 0 (as := []) (rest := []) rfl mlX12_496 yvX12_readGrammar rfl rfl clX12 (wsh hW rfl) (by decide) (by decide) (Nat.le_of_ble_eq_true rfl) (by decide) (by decide) (fun B9 => ceX12_readGrammar hl B9 hW h) (fun X9 τ9 h9 => VX_out rfl h9) ?_
        rintro v9 σ8 ⟨hW, rfl, h⟩
        refine V_aload_n 27 1 rfl rfl rfl ?_
        refine V_callV 28 0 (as := []) (rest := []) rfl mlX12_499 yvX12_order rfl rfl clX12 (wsh hW rfl) (by decide) (by decide) (Nat.le_of_ble_eq_true rfl) (by decide) (by decide) (fun B9 => ceX12_order hl B9 hW h) (fun X9 τ9 h9 => VX_out rfl h9) ?_
        rintro v9 σ9 ⟨hW, u10, rfl, h⟩
        refine V_pop 29 rfl rfl ?_
        refine V_iload_n 30 0 rfl rfl rfl ?_
        exact V_iret 31 rfl rfl ⟨hW, _, rfl, h⟩
  intro σ hW h
  refine V_aload_n 0 0 rfl rfl rfl ?_
  refine V_iconst 1 (v := (0 : Int32)) rfl (by decide) ?_
  refine V_putI 2 0 rfl clX12 flX12_234 (by decide) (wsh hW rfl) rfl (fun _ _ => rfl) rfl rfl ?_
  refine V_nm (fun σ11 eσ11 => ?_)
  replace h := h σ11 eσ11
  have hW := wire_I eσ11 hW
  refine V_aload_n 3 0 rfl rfl rfl ?_
  refine V_iconst 4 (v := (0 : Int32)) rfl (by decide) ?_
  refine V_callV 5 1 (as := [.int (0 : Int32)]) (rest := []) rfl mlX12_492 yvX12_takeText rfl rfl clX12 (wsh hW rfl) (by decide) (by decide) (Nat.le_of_ble_eq_true rfl) (by decide) (by decide) (fun B9 => ceX12_takeText hl B9 hW h) (fun X9 τ9 h9 => VX_out rfl h9) ?_
  rintro v9 σ12 ⟨hW, rfl, h⟩
  refine V_aload_n 6 0 rfl rfl rfl ?_
  refine V_callV 7 0 (as := []) (rest := []) rfl mlX12_496 yvX12_readGrammar rfl rfl clX12 (wsh hW rfl) (by decide) (by decide) (Nat.le_of_ble_eq_true rfl) (by decide) (by decide) (fun B9 => ceX12_readGrammar hl B9 hW h) (fun X9 τ9 h9 => VX_out rfl h9) ?_
  rintro v9 σ13 ⟨hW, rfl, h⟩
  refine V_aload_n 8 0 rfl rfl rfl ?_
  refine V_callV 9 0 (as := []) (rest := []) rfl mlX12_291 yvX12_good rfl rfl clX12 (wsh hW rfl) (by decide) (by decide) (Nat.le_of_ble_eq_true rfl) (by decide) (by decide) (fun B9 => ceX12_good hl B9 hW h) (fun X9 τ9 h9 => VX_out rfl h9) ?_
  rintro v9 σ14 ⟨hW, u15, rfl, h⟩
  refine V_if_eq 10 (tgt := 28) rfl (by decide) (fun hc => ?_) (fun hc => ?_)
  · replace h := h.1 hc
    refine V_aload_n 14 0 rfl rfl rfl ?_
    refine V_get (v := .int (σ14.2.1 92 44)) 15 44 rfl clX12 flX12_284 (by decide) (wsh hW rfl) (fun _ => rfl) ?_
    exact k_j32 (σ14.2.1 92 44) σ14 hW h
  · replace h := h.2 hc
    refine V_pc 21 rfl ?_
    refine V_aload_n 11 0 rfl rfl rfl ?_
    refine V_callV 12 0 (as := []) (rest := []) rfl mlX12_499 yvX12_order rfl rfl clX12 (wsh hW rfl) (by decide) (by decide) (Nat.le_of_ble_eq_true rfl) (by decide) (by decide) (fun B9 => ceX12_order hl B9 hW h) (fun X9 τ9 h9 => VX_out rfl h9) ?_
    rintro v9 σ16 ⟨hW, u17, rfl, h⟩
    refine V_goto 13 (tgt := 32) rfl (by decide) ?_
    exact k_j32 u17 σ16 hW h

def wX12_size_j34 (a0 : Int32) (Q : Int32 → ab_S → Prop) (E : String → ab_S → Prop) (y0 : Int32) (y1 : Int32) (σ : ab_S) : Prop := wX12_refuse y1 y0 (0 : Int32) (fun u2 σ1 => ((u2 = 0) → ((¬ a0 = 0) → Q (σ1.2.1 92 14) σ1) ∧ (¬ (¬ a0 = 0) → Q (σ1.2.1 92 9) σ1)) ∧ (¬ (u2 = 0) → Q (0 : Int32) σ1)) E σ
def wX12_size_j33 (a0 : Int32) (Q : Int32 → ab_S → Prop) (E : String → ab_S → Prop) (y0 : Int32) (σ : ab_S) : Prop := wX12_size_j34 a0 Q E (0 : Int32) y0 σ
def wX12_size_j13 (a0 : Int32) (Q : Int32 → ab_S → Prop) (E : String → ab_S → Prop) (y0 : Int32) (σ : ab_S) : Prop := (((σ.2.1 92 4) = 0) → wX12_size_j33 a0 Q E y0 σ) ∧ (¬ ((σ.2.1 92 4) = 0) → wX12_in a0 (0 : Int32) (1 : Int32) (fun u4 σ3 => ((¬ u4 = 0) → wX12_size_j33 a0 Q E y0 σ3) ∧ (¬ (¬ u4 = 0) → wX12_size_j34 a0 Q E (1 : Int32) y0 σ3)) E σ)
def wX12_size (a0 : Int32) (Q : Int32 → ab_S → Prop) (E : String → ab_S → Prop) (σ : ab_S) : Prop := ((¬ (σ.2.1 92 4) = 0) → wX12_size_j13 a0 Q E (0 : Int32) σ) ∧ (¬ (¬ (σ.2.1 92 4) = 0) → wX12_size_j13 a0 Q E (1 : Int32) σ)
set_option maxHeartbeats 4000000 in
set_option maxRecDepth 100000 in
theorem ceX12_size {l : Launch} (hl : l.stackTraces = false) (B : Nat) {a0 : Int32}  {Q : Int32 → ab_S → Prop} {E : String → ab_S → Prop} {σ : ab_S} (hW : Wire σ) (h : wX12_size a0 Q E σ) : ab_Mt l yX12_size mdX12_size B 1 23 0 0 [.ref 92, .int a0] σ (fun v σ' => Wire σ' ∧ ∃ r : Int32, v = some (.int r) ∧ Q r σ') (fun X σ' => Wire σ' ∧ E X σ') := by
  refine V_met hl ⟨rfl, rfl, by decide⟩ rfl dkX12_size (Nat.le_of_ble_eq_true rfl) ?_
  show V l mdX12_size B 1 23 0 0 (ab_End _ _) 0 [(0, .ref 92), (1, .int a0)] [] σ
  revert h hW
  revert σ
  have k_j34 : ∀ (y0 : Int32) (y1 : Int32)  (σ : ab_S), Wire σ → wX12_size_j34 a0 Q E y0 y1 σ → V l mdX12_size B 1 23 0 0 (ab_End (fun v σ' => Wire σ' ∧ ∃ r : Int32, v = some (.int r) ∧ Q r σ') (fun X σ' => Wire σ' ∧ E X σ')) 34 [(0, .ref 92), (1, .int a0)] [.int y0, .int y1, .ref 92] σ := by
    intro y0 y1  σ hW h
    refine V_iconst 18 (v := (0 : Int32)) rfl (by decide) ?_
    refine V_callV 19 3 (as := [.int y1, .int y0, .int (0 : Int32)]) (rest := []) rfl mlX12_245 yvX12_refuse rfl rfl clX12 (wsh hW rfl) (by decide) (by decide) (Nat.le_of_ble_eq_true rfl) (by decide) (by decide) (fun B9 => ceX12_refuse hl B9 hW h) (fun X9 τ9 h9 => VX_out rfl h9) ?_
    rintro v9 σ1 ⟨hW, u2, rfl, h⟩
    refine V_if_eq 20 (tgt := 43) rfl (by decide) (fun hc => ?_) (fun hc => ?_)
    · replace h := h.1 hc
      refine V_iload_n 23 1 rfl rfl rfl ?_
      refine V_if_ne 24 (tgt := 54) rfl (by decide) (fun hc => ?_) (fun hc => ?_)
      · replace h := h.1 hc
        refine V_aload_n 28 0 rfl rfl rfl ?_
        refine V_get (v := .int (σ1.2.1 92 14)) 29 14 rfl clX12 flX12_316 (by decide) (wsh hW rfl) (fun _ => rfl) ?_
        exact V_iret 30 rfl rfl ⟨hW, _, rfl, h⟩
      · replace h := h.2 hc
        refine V_pc 47 rfl ?_
        refine V_aload_n 25 0 rfl rfl rfl ?_
        refine V_get (v := .int (σ1.2.1 92 9)) 26 9 rfl clX12 flX12_306 (by decide) (wsh hW rfl) (fun _ => rfl) ?_
        refine V_goto 27 (tgt := 58) rfl (by decide) ?_
        exact V_iret 30 rfl rfl ⟨hW, _, rfl, h⟩
    · replace h := h.2 hc
      refine V_pc 41 rfl ?_
      refine V_iconst 21 (v := (0 : Int32)) rfl (by decide) ?_
      exact V_iret 22 rfl rfl ⟨hW, _, rfl, h⟩
  have k_j33 : ∀ (y0 : Int32)  (σ : ab_S), Wire σ → wX12_size_j33 a0 Q E y0 σ → V l mdX12_size B 1 23 0 0 (ab_End (fun v σ' => Wire σ' ∧ ∃ r : Int32, v = some (.int r) ∧ Q r σ') (fun X σ' => Wire σ' ∧ E X σ')) 33 [(0, .ref 92), (1, .int a0)] [.int y0, .ref 92] σ := by
    intro y0  σ hW h
    refine V_iconst 17 (v := (0 : Int32)) rfl (by decide) ?_
    exact k_j34 (0 : Int32) y0 σ hW h
  have k_j13 : ∀ (y0 : Int32)  (σ : ab_S), Wire σ → wX12_size_j13 a0 Q E y0 σ → V l mdX12_size B 1 23 0 0 (ab_End (fun v σ' => Wire σ' ∧ ∃ r : Int32, v = some (.int r) ∧ Q r σ') (fun X σ' => Wire σ' ∧ E X σ')) 13 [(0, .ref 92), (1, .int a0)] [.int y0, .ref 92] σ := by
    intro y0  σ hW h
    refine V_aload_n 7 0 rfl rfl rfl ?_
    refine V_get (v := .int (σ.2.1 92 4)) 8 4 rfl clX12 flX12_452 (by decide) (wsh hW rfl) (fun _ => rfl) ?_
    refine V_if_eq 9 (tgt := 33) rfl (by decide) (fun hc => ?_) (fun hc => ?_)
    · replace h := h.1 hc
      exact k_j33 y0 σ hW h
    · replace h := h.2 hc
      refine V_pc 20 rfl ?_
      refine V_iload_n 10 1 rfl rfl rfl ?_
      refine V_iconst 11 (v := (0 : Int32)) rfl (by decide) ?_
      refine V_iconst 12 (v := (1 : Int32)) rfl (by decide) ?_
      refine V_callS 13 3 (as := [.int a0, .int (0 : Int32), .int (1 : Int32)]) (rest := [.int y0, .ref 92]) rfl mlX12_238 yvX12_in rfl rfl (by decide) (by decide) (Nat.le_of_ble_eq_true rfl) (by decide) (by decide) (fun B9 => ceX12_in hl B9 hW h) (fun X9 τ9 h9 => VX_out rfl h9) ?_
      rintro v9 σ3 ⟨hW, u4, rfl, h⟩
      refine V_if_ne 14 (tgt := 33) rfl (by decide) (fun hc => ?_) (fun hc => ?_)
      · replace h := h.1 hc
        exact k_j33 y0 σ3 hW h
      · replace h := h.2 hc
        refine V_pc 29 rfl ?_
        refine V_iconst 15 (v := (1 : Int32)) rfl (by decide) ?_
        refine V_goto 16 (tgt := 34) rfl (by decide) ?_
        exact k_j34 (1 : Int32) y0 σ3 hW h
  intro σ hW h
  refine V_aload_n 0 0 rfl rfl rfl ?_
  refine V_aload_n 1 0 rfl rfl rfl ?_
  refine V_get (v := .int (σ.2.1 92 4)) 2 4 rfl clX12 flX12_452 (by decide) (wsh hW rfl) (fun _ => rfl) ?_
  refine V_if_ne 3 (tgt := 12) rfl (by decide) (fun hc => ?_) (fun hc => ?_)
  · replace h := h.1 hc
    refine V_iconst 6 (v := (0 : Int32)) rfl (by decide) ?_
    exact k_j13 (0 : Int32) σ hW h
  · replace h := h.2 hc
    refine V_pc 8 rfl ?_
    refine V_iconst 4 (v := (1 : Int32)) rfl (by decide) ?_
    refine V_goto 5 (tgt := 13) rfl (by decide) ?_
    exact k_j13 (1 : Int32) σ hW h
