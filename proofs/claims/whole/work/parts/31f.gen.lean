def wX12_follow_j90 (a0 : Int32) (Q : ab_S → Prop) (E : String → ab_S → Prop) (Bk : Int32 → ab_S → Prop) (x2 : Int32) (σ : ab_S) : Prop := ∀ v1 : Int32, v1 = (x2 + 1) → Bk v1 σ
def wX12_follow_j83 (a0 : Int32) (Q : ab_S → Prop) (E : String → ab_S → Prop) (K90 : Int32 → ab_S → Prop) (Bk : Int32 → Int32 → ab_S → Prop) (x2 : Int32) (x3 : Int32) (y0 : Int64) (y1 : Int32) (σ : ab_S) : Prop := vp_in y1 992 ∧ (∀ σ2 : ab_S, σ2 = ab_L σ 109 y1.toNatClampNeg y0 → ∀ v3 : Int32, v3 = (x3 + 1) → Bk x2 v3 σ2)
def wX12_follow_l10_b (a0 : Int32) (Q : ab_S → Prop) (E : String → ab_S → Prop) (K90 : Int32 → ab_S → Prop) (Bk : Int32 → Int32 → ab_S → Prop) (x2 : Int32) (x3 : Int32) (σ : ab_S) : Prop := (((32 : Int32) ≤ x3) → K90 x2 σ) ∧ (¬ ((32 : Int32) ≤ x3) → vp_in (((32 : Int32) * a0) + x3) 992 ∧ (((¬ (lg_cmp (((σ.2.2.1 109 (((32 : Int32) * a0) + x3).toNatClampNeg) >>> (x2.toInt64 &&& 63)) &&& (1 : Int64)) (1 : Int64)) = 0) → vp_in (((32 : Int32) * a0) + x3) 992 ∧ (wX12_follow_j83 a0 Q E K90 Bk x2 x3 (σ.2.2.1 109 (((32 : Int32) * a0) + x3).toNatClampNeg) (((32 : Int32) * a0) + x3) σ)) ∧ (¬ (¬ (lg_cmp (((σ.2.2.1 109 (((32 : Int32) * a0) + x3).toNatClampNeg) >>> (x2.toInt64 &&& 63)) &&& (1 : Int64)) (1 : Int64)) = 0) → vp_in (((32 : Int32) * a0) + x3) 992 ∧ (vp_in (((32 : Int32) * a0) + x2) 992 ∧ (wX12_follow_j83 a0 Q E K90 Bk x2 x3 ((σ.2.2.1 109 (((32 : Int32) * a0) + x3).toNatClampNeg) ||| (σ.2.2.1 109 (((32 : Int32) * a0) + x2).toNatClampNeg)) (((32 : Int32) * a0) + x3) σ)))))
def wX12_follow_l10 (a0 : Int32) (Q : ab_S → Prop) (E : String → ab_S → Prop) (K90 : Int32 → ab_S → Prop) : Nat → Int32 → Int32 → ab_S → Prop
  | 0, _, _, _ => False
  | n + 1, x2, x3, σ => wX12_follow_l10_b a0 Q E K90 (wX12_follow_l10 a0 Q E K90 n) x2 x3 σ
def wX12_follow_l2_b (a0 : Int32) (Q : ab_S → Prop) (E : String → ab_S → Prop) (Bk : Int32 → ab_S → Prop) (x2 : Int32) (σ : ab_S) : Prop := (((32 : Int32) ≤ x2) → Q σ) ∧ (¬ ((32 : Int32) ≤ x2) → ∃ n, wX12_follow_l10 a0 Q E (wX12_follow_j90 a0 Q E Bk) n x2 (0 : Int32) σ)
def wX12_follow_l2 (a0 : Int32) (Q : ab_S → Prop) (E : String → ab_S → Prop) : Nat → Int32 → ab_S → Prop
  | 0, _, _ => False
  | n + 1, x2, σ => wX12_follow_l2_b a0 Q E (wX12_follow_l2 a0 Q E n) x2 σ
def wX12_follow (a0 : Int32) (Q : ab_S → Prop) (E : String → ab_S → Prop) (σ : ab_S) : Prop := ∃ n, wX12_follow_l2 a0 Q E n (0 : Int32) σ
set_option maxHeartbeats 4000000 in
set_option maxRecDepth 100000 in
theorem ceX12_follow {l : Launch} (hl : l.stackTraces = false) (B : Nat) {a0 : Int32}  {Q : ab_S → Prop} {E : String → ab_S → Prop} {σ : ab_S} (hW : Wire σ) (h : wX12_follow a0 Q E σ) : ab_Mt l yX12_follow mdX12_follow B 0 0 0 0 [.ref 92, .int a0] σ (fun v σ' => Wire σ' ∧ v = none ∧ Q σ') (fun X σ' => Wire σ' ∧ E X σ') := by
  refine V_met hl ⟨rfl, rfl, by decide⟩ rfl dkX12_follow (Nat.le_of_ble_eq_true rfl) ?_
  show V l mdX12_follow B 0 0 0 0 (ab_End _ _) 0 [(0, .ref 92), (1, .int a0)] [] σ
  revert h hW
  revert σ
  have k_l2 : ∀ (n : Nat) (x2 : Int32)  (σ : ab_S), Wire σ → wX12_follow_l2 a0 Q E n x2 σ → V l mdX12_follow B 0 0 0 0 (ab_End (fun v σ' => Wire σ' ∧ v = none ∧ Q σ') (fun X σ' => Wire σ' ∧ E X σ')) 2 [(0, .ref 92), (1, .int a0), (2, .int x2)] [] σ := by
    have step : ∀ (Bk : Int32 → ab_S → Prop) (k_Bk : ∀ (x2 : Int32)  (σ : ab_S), Wire σ → Bk x2 σ → V l mdX12_follow B 0 0 0 0 (ab_End (fun v σ' => Wire σ' ∧ v = none ∧ Q σ') (fun X σ' => Wire σ' ∧ E X σ')) 2 [(0, .ref 92), (1, .int a0), (2, .int x2)] [] σ), ∀ (x2 : Int32)  (σ : ab_S), Wire σ → wX12_follow_l2_b a0 Q E Bk x2 σ → V l mdX12_follow B 0 0 0 0 (ab_End (fun v σ' => Wire σ' ∧ v = none ∧ Q σ') (fun X σ' => Wire σ' ∧ E X σ')) 2 [(0, .ref 92), (1, .int a0), (2, .int x2)] [] σ := by
      intro Bk k_Bk
      have k_j90 : ∀ (x2 : Int32)  (σ : ab_S), Wire σ → wX12_follow_j90 a0 Q E Bk x2 σ → V l mdX12_follow B 0 0 0 0 (ab_End (fun v σ' => Wire σ' ∧ v = none ∧ Q σ') (fun X σ' => Wire σ' ∧ E X σ')) 90 [(0, .ref 92), (1, .int a0), (2, .int x2)] [] σ := by
        intro x2  σ hW h
        obtain ⟨v1, ev1⟩ : ∃ z : Int32, z = (x2 + 1) := ⟨_, rfl⟩
        replace h := h v1 ev1
        refine V_iinc 61 2 (v := v1) (lv' := [(2, .int v1), (0, .ref 92), (1, .int a0)]) rfl rfl ((in_1 _).trans ev1.symm) (by decide) rfl ?_
        refine V_goto 62 (tgt := 2) rfl (by decide) ?_
        refine V_sub [1, 2, 0] (lv' := [(0, .ref 92), (1, .int a0), (2, .int v1)]) rfl ?_
        exact k_Bk v1  σ hW h
      have k_l10 : ∀ (n : Nat) (x2 : Int32) (x3 : Int32)  (σ : ab_S), Wire σ → wX12_follow_l10 a0 Q E (wX12_follow_j90 a0 Q E Bk) n x2 x3 σ → V l mdX12_follow B 0 0 0 0 (ab_End (fun v σ' => Wire σ' ∧ v = none ∧ Q σ') (fun X σ' => Wire σ' ∧ E X σ')) 10 [(0, .ref 92), (1, .int a0), (2, .int x2), (3, .int x3)] [] σ := by
        have step : ∀ (K90 : Int32 → ab_S → Prop) (k_K90 : ∀ (x2 : Int32)  (σ : ab_S), Wire σ → K90 x2 σ → V l mdX12_follow B 0 0 0 0 (ab_End (fun v σ' => Wire σ' ∧ v = none ∧ Q σ') (fun X σ' => Wire σ' ∧ E X σ')) 90 [(0, .ref 92), (1, .int a0), (2, .int x2)] [] σ), ∀ (Bk : Int32 → Int32 → ab_S → Prop) (k_Bk : ∀ (x2 : Int32) (x3 : Int32)  (σ : ab_S), Wire σ → Bk x2 x3 σ → V l mdX12_follow B 0 0 0 0 (ab_End (fun v σ' => Wire σ' ∧ v = none ∧ Q σ') (fun X σ' => Wire σ' ∧ E X σ')) 10 [(0, .ref 92), (1, .int a0), (2, .int x2), (3, .int x3)] [] σ), ∀ (x2 : Int32) (x3 : Int32)  (σ : ab_S), Wire σ → wX12_follow_l10_b a0 Q E K90 Bk x2 x3 σ → V l mdX12_follow B 0 0 0 0 (ab_End (fun v σ' => Wire σ' ∧ v = none ∧ Q σ') (fun X σ' => Wire σ' ∧ E X σ')) 10 [(0, .ref 92), (1, .int a0), (2, .int x2), (3, .int x3)] [] σ := by
          intro K90 k_K90 Bk k_Bk
          have k_j83 : ∀ (x2 : Int32) (x3 : Int32) (y0 : Int64) (y1 : Int32)  (σ : ab_S), Wire σ → wX12_follow_j83 a0 Q E K90 Bk x2 x3 y0 y1 σ → V l mdX12_follow B 0 0 0 0 (ab_End (fun v σ' => Wire σ' ∧ v = none ∧ Q σ') (fun X σ' => Wire σ' ∧ E X σ')) 83 [(0, .ref 92), (1, .int a0), (2, .int x2), (3, .int x3)] [.long y0, .int y1, .ref 109] σ := by
            intro x2 x3 y0 y1  σ hW h
            obtain ⟨hin, h⟩ := h
            refine V_last 58 rfl (wsh hW rfl) hin ?_
            refine V_nm (fun σ2 eσ2 => ?_)
            replace h := h σ2 eσ2
            have hW := wire_L eσ2 hW
            obtain ⟨v3, ev3⟩ : ∃ z : Int32, z = (x3 + 1) := ⟨_, rfl⟩
            replace h := h v3 ev3
            refine V_iinc 59 3 (v := v3) (lv' := [(3, .int v3), (0, .ref 92), (1, .int a0), (2, .int x2)]) rfl rfl ((in_1 _).trans ev3.symm) (by decide) rfl ?_
            refine V_goto 60 (tgt := 10) rfl (by decide) ?_
            refine V_sub [1, 2, 3, 0] (lv' := [(0, .ref 92), (1, .int a0), (2, .int x2), (3, .int v3)]) rfl ?_
            exact k_Bk x2 v3  σ2 hW h
          intro x2 x3  σ hW h
          refine V_iload_n 7 3 rfl rfl rfl ?_
          refine V_bipush 8 (v := (32 : Int32)) rfl (by decide) ?_
          refine V_icmp_ge 9 (tgt := 90) rfl (by decide) (fun hc => ?_) (fun hc => ?_)
          · replace h := h.1 hc
            refine V_sub [0, 1, 2] (lv' := [(0, .ref 92), (1, .int a0), (2, .int x2)]) rfl ?_
            exact k_K90 x2  σ hW h
          · replace h := h.2 hc
            refine V_pc 16 rfl ?_
            refine V_aload_n 10 0 rfl rfl rfl ?_
            refine V_getR 11 24 rfl clX12 flX12_60 (by decide) (wsh hW rfl) (fun _ => rfl) (wrf hW 110 rfl) ?_
            refine V_bipush 12 (v := (32 : Int32)) rfl (by decide) ?_
            refine V_iload_n 13 1 rfl rfl rfl ?_
            refine V_imul 14 rfl ?_
            refine V_iload_n 15 3 rfl rfl rfl ?_
            refine V_pc 25 rfl ?_
            refine V_iadd 16 rfl ?_
            refine V_aload_n 17 0 rfl rfl rfl ?_
            refine V_getR 18 24 rfl clX12 flX12_60 (by decide) (wsh hW rfl) (fun _ => rfl) (wrf hW 110 rfl) ?_
            refine V_bipush 19 (v := (32 : Int32)) rfl (by decide) ?_
            refine V_iload_n 20 1 rfl rfl rfl ?_
            refine V_imul 21 rfl ?_
            refine V_pc 34 rfl ?_
            refine V_iload_n 22 3 rfl rfl rfl ?_
            refine V_iadd 23 rfl ?_
            obtain ⟨hin, h⟩ := h
            refine V_lald 24 rfl (wsh hW rfl) hin ?_
            refine V_iload_n 25 2 rfl rfl rfl ?_
            refine V_lshr 26 rfl ?_
            refine V_lconst 27 (v := (1 : Int64)) rfl (by decide) ?_
            refine V_pc 40 rfl ?_
            refine V_land 28 rfl ?_
            refine V_lconst 29 (v := (1 : Int64)) rfl (by decide) ?_
            refine V_lcmp 30 rfl ?_
            refine V_if_ne 31 (tgt := 72) rfl (by decide) (fun hc => ?_) (fun hc => ?_)
            · replace h := h.1 hc
              refine V_aload_n 50 0 rfl rfl rfl ?_
              refine V_getR 51 24 rfl clX12 flX12_60 (by decide) (wsh hW rfl) (fun _ => rfl) (wrf hW 110 rfl) ?_
              refine V_bipush 52 (v := (32 : Int32)) rfl (by decide) ?_
              refine V_iload_n 53 1 rfl rfl rfl ?_
              refine V_imul 54 rfl ?_
              refine V_iload_n 55 3 rfl rfl rfl ?_
              refine V_pc 81 rfl ?_
              refine V_iadd 56 rfl ?_
              obtain ⟨hin, h⟩ := h
              refine V_lald 57 rfl (wsh hW rfl) hin ?_
              exact k_j83 x2 x3 (σ.2.2.1 109 (((32 : Int32) * a0) + x3).toNatClampNeg) (((32 : Int32) * a0) + x3) σ hW h
            · replace h := h.2 hc
              refine V_pc 46 rfl ?_
              refine V_aload_n 32 0 rfl rfl rfl ?_
              refine V_getR 33 24 rfl clX12 flX12_60 (by decide) (wsh hW rfl) (fun _ => rfl) (wrf hW 110 rfl) ?_
              refine V_bipush 34 (v := (32 : Int32)) rfl (by decide) ?_
              refine V_iload_n 35 1 rfl rfl rfl ?_
              refine V_imul 36 rfl ?_
              refine V_iload_n 37 3 rfl rfl rfl ?_
              refine V_pc 55 rfl ?_
              refine V_iadd 38 rfl ?_
              obtain ⟨hin, h⟩ := h
              refine V_lald 39 rfl (wsh hW rfl) hin ?_
              refine V_aload_n 40 0 rfl rfl rfl ?_
              refine V_getR 41 24 rfl clX12 flX12_60 (by decide) (wsh hW rfl) (fun _ => rfl) (wrf hW 110 rfl) ?_
              refine V_bipush 42 (v := (32 : Int32)) rfl (by decide) ?_
              refine V_iload_n 43 1 rfl rfl rfl ?_
              refine V_pc 64 rfl ?_
              refine V_imul 44 rfl ?_
              refine V_iload_n 45 2 rfl rfl rfl ?_
              refine V_iadd 46 rfl ?_
              obtain ⟨hin, h⟩ := h
              refine V_lald 47 rfl (wsh hW rfl) hin ?_
              refine V_lor 48 rfl ?_
              refine V_goto 49 (tgt := 83) rfl (by decide) ?_
              exact k_j83 x2 x3 ((σ.2.2.1 109 (((32 : Int32) * a0) + x3).toNatClampNeg) ||| (σ.2.2.1 109 (((32 : Int32) * a0) + x2).toNatClampNeg)) (((32 : Int32) * a0) + x3) σ hW h
        intro n
        induction n with
        | zero => intro x2 x3  σ hW h; exact absurd h id
        | succ n ih => exact step _ k_j90 _ ih
      intro x2  σ hW h
      refine V_iload_n 2 2 rfl rfl rfl ?_
      refine V_bipush 3 (v := (32 : Int32)) rfl (by decide) ?_
      refine V_icmp_ge 4 (tgt := 96) rfl (by decide) (fun hc => ?_) (fun hc => ?_)
      · replace h := h.1 hc
        exact V_vret 63 rfl rfl ⟨hW, rfl, h⟩
      · replace h := h.2 hc
        refine V_pc 8 rfl ?_
        refine V_iconst 5 (v := (0 : Int32)) rfl (by decide) ?_
        refine V_istore_n 6 (lv' := [(3, .int (0 : Int32)), (0, .ref 92), (1, .int a0), (2, .int x2)]) rfl rfl (by decide) rfl ?_
        refine V_sub [1, 2, 3, 0] (lv' := [(0, .ref 92), (1, .int a0), (2, .int x2), (3, .int (0 : Int32))]) rfl ?_
        obtain ⟨n, h⟩ := h
        exact k_l10 n x2 (0 : Int32) σ hW h
    intro n
    induction n with
    | zero => intro x2  σ hW h; exact absurd h id
    | succ n ih => exact step  _ ih
  intro σ hW h
  refine V_iconst 0 (v := (0 : Int32)) rfl (by decide) ?_
  refine V_istore_n 1 (lv' := [(2, .int (0 : Int32)), (0, .ref 92), (1, .int a0)]) rfl rfl (by decide) rfl ?_
  refine V_sub [1, 2, 0] (lv' := [(0, .ref 92), (1, .int a0), (2, .int (0 : Int32))]) rfl ?_
  obtain ⟨n, h⟩ := h
  exact k_l2 n (0 : Int32) σ hW h

def wX12_exchange_j217 (a0 : Int32) (Q : Int32 → ab_S → Prop) (E : String → ab_S → Prop) (Bk : Int32 → Int32 → ab_S → Prop) (x2 : Int32) (x3 : Int32) (σ : ab_S) : Prop := ∀ v1 : Int32, v1 = (x3 + 1) → Bk x2 v1 σ
def wX12_exchange_j193 (a0 : Int32) (Q : Int32 → ab_S → Prop) (E : String → ab_S → Prop) (K217 : Int32 → Int32 → ab_S → Prop) (Bk : Int32 → Int32 → Int32 → ab_S → Prop) (x3 : Int32) (x4 : Int32) (x5 : Int32) (x6 : Int64) (y0 : Int32) (σ : ab_S) : Prop := vp_in x5 104 ∧ (vp_in x5 104 ∧ (∀ σ2 : ab_S, σ2 = ab_L σ 110 x5.toNatClampNeg ((σ.2.2.1 110 x5.toNatClampNeg) ||| x6) → ∀ v3 : Int32, v3 = (x4 + 1) → Bk y0 x3 v3 σ2))
def wX12_exchange_j188 (a0 : Int32) (Q : Int32 → ab_S → Prop) (E : String → ab_S → Prop) (K217 : Int32 → Int32 → ab_S → Prop) (Bk : Int32 → Int32 → Int32 → ab_S → Prop) (x3 : Int32) (x4 : Int32) (x5 : Int32) (x6 : Int64) (σ : ab_S) : Prop := wX12_exchange_j193 a0 Q E K217 Bk x3 x4 x5 x6 (1 : Int32) σ
def wX12_exchange_l112_b (a0 : Int32) (Q : Int32 → ab_S → Prop) (E : String → ab_S → Prop) (K217 : Int32 → Int32 → ab_S → Prop) (Bk : Int32 → Int32 → Int32 → ab_S → Prop) (x2 : Int32) (x3 : Int32) (x4 : Int32) (σ : ab_S) : Prop := (((8 : Int32) ≤ x4) → K217 x2 x3 σ) ∧ (¬ ((8 : Int32) ≤ x4) → vp_in (((4 : Int32) * a0) + x3) 124 ∧ (∀ v4 : Int32, v4 = (((8 : Int32) * (σ.2.1 104 (((4 : Int32) * a0) + x3).toNatClampNeg)) + x4) → vp_in ((((32 : Int32) * a0) + ((8 : Int32) * x3)) + x4) 992 ∧ (∀ v5 : Int64, v5 = (((σ.2.2.1 109 ((((32 : Int32) * a0) + ((8 : Int32) * x3)) + x4).toNatClampNeg) >>> (((8 : Int32) * x3).toInt64 &&& 63)) &&& (255 : Int64)) → ((¬ x2 = 0) → wX12_exchange_j188 a0 Q E K217 Bk x3 x4 v4 v5 σ) ∧ (¬ (¬ x2 = 0) → vp_in v4 104 ∧ ((((lg_cmp (v5 &&& ((σ.2.2.1 110 v4.toNatClampNeg) ^^^ (-1 : Int64))) (0 : Int64)) = 0) → wX12_exchange_j193 a0 Q E K217 Bk x3 x4 v4 v5 (0 : Int32) σ) ∧ (¬ ((lg_cmp (v5 &&& ((σ.2.2.1 110 v4.toNatClampNeg) ^^^ (-1 : Int64))) (0 : Int64)) = 0) → wX12_exchange_j188 a0 Q E K217 Bk x3 x4 v4 v5 σ))))))
def wX12_exchange_l112 (a0 : Int32) (Q : Int32 → ab_S → Prop) (E : String → ab_S → Prop) (K217 : Int32 → Int32 → ab_S → Prop) : Nat → Int32 → Int32 → Int32 → ab_S → Prop
  | 0, _, _, _, _ => False
  | n + 1, x2, x3, x4, σ => wX12_exchange_l112_b a0 Q E K217 (wX12_exchange_l112 a0 Q E K217 n) x2 x3 x4 σ
def wX12_exchange_l99_b (a0 : Int32) (Q : Int32 → ab_S → Prop) (E : String → ab_S → Prop) (Bk : Int32 → Int32 → ab_S → Prop) (x2 : Int32) (x3 : Int32) (σ : ab_S) : Prop := vp_in a0 31 ∧ ((((σ.2.1 103 a0.toNatClampNeg) < x3) → (x2 = 0 ∨ x2 = 1) ∧ Q x2 σ) ∧ (¬ ((σ.2.1 103 a0.toNatClampNeg) < x3) → ∃ n, wX12_exchange_l112 a0 Q E (wX12_exchange_j217 a0 Q E Bk) n x2 x3 (0 : Int32) σ))
def wX12_exchange_l99 (a0 : Int32) (Q : Int32 → ab_S → Prop) (E : String → ab_S → Prop) : Nat → Int32 → Int32 → ab_S → Prop
  | 0, _, _, _ => False
  | n + 1, x2, x3, σ => wX12_exchange_l99_b a0 Q E (wX12_exchange_l99 a0 Q E n) x2 x3 σ
def wX12_exchange_j90 (a0 : Int32) (Q : Int32 → ab_S → Prop) (E : String → ab_S → Prop)  (σ : ab_S) : Prop := wX12_follow a0 (fun σ6 => ∃ n, wX12_exchange_l99 a0 Q E n (0 : Int32) (0 : Int32) σ6) E σ
def wX12_exchange_j84 (a0 : Int32) (Q : Int32 → ab_S → Prop) (E : String → ab_S → Prop) (K90 : ab_S → Prop) (Bk : Int32 → ab_S → Prop) (x2 : Int32) (σ : ab_S) : Prop := ∀ v7 : Int32, v7 = (x2 + 1) → Bk v7 σ
def wX12_exchange_l14_b (a0 : Int32) (Q : Int32 → ab_S → Prop) (E : String → ab_S → Prop) (K84 : Int32 → ab_S → Prop) (Bk : Int32 → Int32 → ab_S → Prop) (x2 : Int32) (x3 : Int32) (σ : ab_S) : Prop := (((8 : Int32) ≤ x3) → K84 x2 σ) ∧ (¬ ((8 : Int32) ≤ x3) → vp_in ((((32 : Int32) * a0) + ((8 : Int32) * x2)) + x3) 992 ∧ (vp_in (((4 : Int32) * a0) + x2) 124 ∧ (vp_in (((8 : Int32) * (σ.2.1 104 (((4 : Int32) * a0) + x2).toNatClampNeg)) + x3) 104 ∧ (vp_in ((((32 : Int32) * a0) + ((8 : Int32) * x2)) + x3) 992 ∧ (∀ σ8 : ab_S, σ8 = ab_L σ 109 ((((32 : Int32) * a0) + ((8 : Int32) * x2)) + x3).toNatClampNeg ((σ.2.2.1 109 ((((32 : Int32) * a0) + ((8 : Int32) * x2)) + x3).toNatClampNeg) ||| ((σ.2.2.1 110 (((8 : Int32) * (σ.2.1 104 (((4 : Int32) * a0) + x2).toNatClampNeg)) + x3).toNatClampNeg) <<< (((8 : Int32) * x2).toInt64 &&& 63))) → ∀ v9 : Int32, v9 = (x3 + 1) → Bk x2 v9 σ8)))))
def wX12_exchange_l14 (a0 : Int32) (Q : Int32 → ab_S → Prop) (E : String → ab_S → Prop) (K84 : Int32 → ab_S → Prop) : Nat → Int32 → Int32 → ab_S → Prop
  | 0, _, _, _ => False
  | n + 1, x2, x3, σ => wX12_exchange_l14_b a0 Q E K84 (wX12_exchange_l14 a0 Q E K84 n) x2 x3 σ
def wX12_exchange_l2_b (a0 : Int32) (Q : Int32 → ab_S → Prop) (E : String → ab_S → Prop) (K90 : ab_S → Prop) (Bk : Int32 → ab_S → Prop) (x2 : Int32) (σ : ab_S) : Prop := vp_in a0 31 ∧ ((((σ.2.1 103 a0.toNatClampNeg) < x2) → K90 σ) ∧ (¬ ((σ.2.1 103 a0.toNatClampNeg) < x2) → ∃ n, wX12_exchange_l14 a0 Q E (wX12_exchange_j84 a0 Q E K90 Bk) n x2 (0 : Int32) σ))
def wX12_exchange_l2 (a0 : Int32) (Q : Int32 → ab_S → Prop) (E : String → ab_S → Prop) (K90 : ab_S → Prop) : Nat → Int32 → ab_S → Prop
  | 0, _, _ => False
  | n + 1, x2, σ => wX12_exchange_l2_b a0 Q E K90 (wX12_exchange_l2 a0 Q E K90 n) x2 σ
def wX12_exchange (a0 : Int32) (Q : Int32 → ab_S → Prop) (E : String → ab_S → Prop) (σ : ab_S) : Prop := ∃ n, wX12_exchange_l2 a0 Q E (wX12_exchange_j90 a0 Q E) n (0 : Int32) σ
set_option maxHeartbeats 4000000 in
set_option maxRecDepth 100000 in
theorem ceX12_exchange {l : Launch} (hl : l.stackTraces = false) (B : Nat) {a0 : Int32}  {Q : Int32 → ab_S → Prop} {E : String → ab_S → Prop} {σ : ab_S} (hW : Wire σ) (h : wX12_exchange a0 Q E σ) : ab_Mt l yX12_exchange mdX12_exchange B 1 23 0 0 [.ref 92, .int a0] σ (fun v σ' => Wire σ' ∧ ∃ r : Int32, v = some (.int r) ∧ Q r σ') (fun X σ' => Wire σ' ∧ E X σ') := by
  refine V_met hl ⟨rfl, rfl, by decide⟩ rfl dkX12_exchange (Nat.le_of_ble_eq_true rfl) ?_
  show V l mdX12_exchange B 1 23 0 0 (ab_End _ _) 0 [(0, .ref 92), (1, .int a0)] [] σ
  revert h hW
  revert σ
  have k_l99 : ∀ (n : Nat) (x2 : Int32) (x3 : Int32)  (σ : ab_S), Wire σ → wX12_exchange_l99 a0 Q E n x2 x3 σ → V l mdX12_exchange B 1 23 0 0 (ab_End (fun v σ' => Wire σ' ∧ ∃ r : Int32, v = some (.int r) ∧ Q r σ') (fun X σ' => Wire σ' ∧ E X σ')) 99 [(0, .ref 92), (1, .int a0), (2, .int x2), (3, .int x3)] [] σ := by
    have step : ∀ (Bk : Int32 → Int32 → ab_S → Prop) (k_Bk : ∀ (x2 : Int32) (x3 : Int32)  (σ : ab_S), Wire σ → Bk x2 x3 σ → V l mdX12_exchange B 1 23 0 0 (ab_End (fun v σ' => Wire σ' ∧ ∃ r : Int32, v = some (.int r) ∧ Q r σ') (fun X σ' => Wire σ' ∧ E X σ')) 99 [(0, .ref 92), (1, .int a0), (2, .int x2), (3, .int x3)] [] σ), ∀ (x2 : Int32) (x3 : Int32)  (σ : ab_S), Wire σ → wX12_exchange_l99_b a0 Q E Bk x2 x3 σ → V l mdX12_exchange B 1 23 0 0 (ab_End (fun v σ' => Wire σ' ∧ ∃ r : Int32, v = some (.int r) ∧ Q r σ') (fun X σ' => Wire σ' ∧ E X σ')) 99 [(0, .ref 92), (1, .int a0), (2, .int x2), (3, .int x3)] [] σ := by
      intro Bk k_Bk
      have k_j217 : ∀ (x2 : Int32) (x3 : Int32)  (σ : ab_S), Wire σ → wX12_exchange_j217 a0 Q E Bk x2 x3 σ → V l mdX12_exchange B 1 23 0 0 (ab_End (fun v σ' => Wire σ' ∧ ∃ r : Int32, v = some (.int r) ∧ Q r σ') (fun X σ' => Wire σ' ∧ E X σ')) 217 [(0, .ref 92), (1, .int a0), (2, .int x2), (3, .int x3)] [] σ := by
        intro x2 x3  σ hW h
        obtain ⟨v1, ev1⟩ : ∃ z : Int32, z = (x3 + 1) := ⟨_, rfl⟩
        replace h := h v1 ev1
        refine V_iinc 140 3 (v := v1) (lv' := [(3, .int v1), (0, .ref 92), (1, .int a0), (2, .int x2)]) rfl rfl ((in_1 _).trans ev1.symm) (by decide) rfl ?_
        refine V_goto 141 (tgt := 99) rfl (by decide) ?_
        refine V_sub [1, 2, 3, 0] (lv' := [(0, .ref 92), (1, .int a0), (2, .int x2), (3, .int v1)]) rfl ?_
        exact k_Bk x2 v1  σ hW h
      have k_l112 : ∀ (n : Nat) (x2 : Int32) (x3 : Int32) (x4 : Int32)  (σ : ab_S), Wire σ → wX12_exchange_l112 a0 Q E (wX12_exchange_j217 a0 Q E Bk) n x2 x3 x4 σ → V l mdX12_exchange B 1 23 0 0 (ab_End (fun v σ' => Wire σ' ∧ ∃ r : Int32, v = some (.int r) ∧ Q r σ') (fun X σ' => Wire σ' ∧ E X σ')) 112 [(0, .ref 92), (1, .int a0), (2, .int x2), (3, .int x3), (4, .int x4)] [] σ := by
        have step : ∀ (K217 : Int32 → Int32 → ab_S → Prop) (k_K217 : ∀ (x2 : Int32) (x3 : Int32)  (σ : ab_S), Wire σ → K217 x2 x3 σ → V l mdX12_exchange B 1 23 0 0 (ab_End (fun v σ' => Wire σ' ∧ ∃ r : Int32, v = some (.int r) ∧ Q r σ') (fun X σ' => Wire σ' ∧ E X σ')) 217 [(0, .ref 92), (1, .int a0), (2, .int x2), (3, .int x3)] [] σ), ∀ (Bk : Int32 → Int32 → Int32 → ab_S → Prop) (k_Bk : ∀ (x2 : Int32) (x3 : Int32) (x4 : Int32)  (σ : ab_S), Wire σ → Bk x2 x3 x4 σ → V l mdX12_exchange B 1 23 0 0 (ab_End (fun v σ' => Wire σ' ∧ ∃ r : Int32, v = some (.int r) ∧ Q r σ') (fun X σ' => Wire σ' ∧ E X σ')) 112 [(0, .ref 92), (1, .int a0), (2, .int x2), (3, .int x3), (4, .int x4)] [] σ), ∀ (x2 : Int32) (x3 : Int32) (x4 : Int32)  (σ : ab_S), Wire σ → wX12_exchange_l112_b a0 Q E K217 Bk x2 x3 x4 σ → V l mdX12_exchange B 1 23 0 0 (ab_End (fun v σ' => Wire σ' ∧ ∃ r : Int32, v = some (.int r) ∧ Q r σ') (fun X σ' => Wire σ' ∧ E X σ')) 112 [(0, .ref 92), (1, .int a0), (2, .int x2), (3, .int x3), (4, .int x4)] [] σ := by
          intro K217 k_K217 Bk k_Bk
          have k_j193 : ∀ (x3 : Int32) (x4 : Int32) (x5 : Int32) (x6 : Int64) (y0 : Int32)  (σ : ab_S), Wire σ → wX12_exchange_j193 a0 Q E K217 Bk x3 x4 x5 x6 y0 σ → V l mdX12_exchange B 1 23 0 0 (ab_End (fun v σ' => Wire σ' ∧ ∃ r : Int32, v = some (.int r) ∧ Q r σ') (fun X σ' => Wire σ' ∧ E X σ')) 193 [(0, .ref 92), (1, .int a0), (3, .int x3), (4, .int x4), (5, .int x5), (6, .long x6)] [.int y0] σ := by
            intro x3 x4 x5 x6 y0  σ hW h
            refine V_istore_n 127 (lv' := [(2, .int y0), (0, .ref 92), (1, .int a0), (3, .int x3), (4, .int x4), (5, .int x5), (6, .long x6)]) rfl rfl (by decide) rfl ?_
            refine V_aload_n 128 1 rfl rfl rfl ?_
            refine V_getR 129 25 rfl clX12 flX12_63 (by decide) (wsh hW rfl) (fun _ => rfl) (wrf hW 111 rfl) ?_
            refine V_iload 130 5 rfl rfl ?_
            refine V_aload_n 131 1 rfl rfl rfl ?_
            refine V_getR 132 25 rfl clX12 flX12_63 (by decide) (wsh hW rfl) (fun _ => rfl) (wrf hW 111 rfl) ?_
            refine V_pc 204 rfl ?_
            refine V_iload 133 5 rfl rfl ?_
            obtain ⟨hin, h⟩ := h
            refine V_lald 134 rfl (wsh hW rfl) hin ?_
            refine V_lload 135 6 rfl rfl ?_
            refine V_lor 136 rfl ?_
            obtain ⟨hin, h⟩ := h
            refine V_last 137 rfl (wsh hW rfl) hin ?_
            refine V_nm (fun σ2 eσ2 => ?_)
            replace h := h σ2 eσ2
            have hW := wire_L eσ2 hW
            obtain ⟨v3, ev3⟩ : ∃ z : Int32, z = (x4 + 1) := ⟨_, rfl⟩
            replace h := h v3 ev3
            refine V_iinc 138 4 (v := v3) (lv' := [(4, .int v3), (2, .int y0), (0, .ref 92), (1, .int a0), (3, .int x3), (5, .int x5), (6, .long x6)]) rfl rfl ((in_1 _).trans ev3.symm) (by decide) rfl ?_
            refine V_pc 214 rfl ?_
            refine V_goto 139 (tgt := 112) rfl (by decide) ?_
            refine V_sub [2, 3, 1, 4, 0] (lv' := [(0, .ref 92), (1, .int a0), (2, .int y0), (3, .int x3), (4, .int v3)]) rfl ?_
            exact k_Bk y0 x3 v3  σ2 hW h
          have k_j188 : ∀ (x3 : Int32) (x4 : Int32) (x5 : Int32) (x6 : Int64)  (σ : ab_S), Wire σ → wX12_exchange_j188 a0 Q E K217 Bk x3 x4 x5 x6 σ → V l mdX12_exchange B 1 23 0 0 (ab_End (fun v σ' => Wire σ' ∧ ∃ r : Int32, v = some (.int r) ∧ Q r σ') (fun X σ' => Wire σ' ∧ E X σ')) 188 [(0, .ref 92), (1, .int a0), (3, .int x3), (4, .int x4), (5, .int x5), (6, .long x6)] [] σ := by
            intro x3 x4 x5 x6  σ hW h
            refine V_iconst 124 (v := (1 : Int32)) rfl (by decide) ?_
            refine V_goto 125 (tgt := 193) rfl (by decide) ?_
            exact k_j193 x3 x4 x5 x6 (1 : Int32) σ hW h
          intro x2 x3 x4  σ hW h
          refine V_iload 76 4 rfl rfl ?_
          refine V_bipush 77 (v := (8 : Int32)) rfl (by decide) ?_
          refine V_icmp_ge 78 (tgt := 217) rfl (by decide) (fun hc => ?_) (fun hc => ?_)
          · replace h := h.1 hc
            refine V_sub [0, 1, 2, 3] (lv' := [(0, .ref 92), (1, .int a0), (2, .int x2), (3, .int x3)]) rfl ?_
            exact k_K217 x2 x3  σ hW h
          · replace h := h.2 hc
            refine V_pc 119 rfl ?_
            refine V_bipush 79 (v := (8 : Int32)) rfl (by decide) ?_
            refine V_aload_n 80 0 rfl rfl rfl ?_
            refine V_getR 81 18 rfl clX12 flX12_45 (by decide) (wsh hW rfl) (fun _ => rfl) (wrf hW 105 rfl) ?_
            refine V_iconst 82 (v := (4 : Int32)) rfl (by decide) ?_
            refine V_iload_n 83 1 rfl rfl rfl ?_
            refine V_imul 84 rfl ?_
            refine V_pc 128 rfl ?_
            refine V_iload_n 85 3 rfl rfl rfl ?_
            refine V_iadd 86 rfl ?_
            obtain ⟨hin, h⟩ := h
            refine V_iald 87 rfl (wsh hW rfl) hin ?_
            refine V_imul 88 rfl ?_
            refine V_iload 89 4 rfl rfl ?_
            refine V_iadd 90 rfl ?_
            refine V_pc 135 rfl ?_
            refine V_topi (fun v4 ev4 => ?_)
            replace h := h v4 ev4
            refine V_istore 91 (lv' := [(5, .int v4), (0, .ref 92), (1, .int a0), (2, .int x2), (3, .int x3), (4, .int x4)]) rfl (by decide) rfl ?_
            refine V_aload_n 92 1 rfl rfl rfl ?_
            refine V_getR 93 24 rfl clX12 flX12_60 (by decide) (wsh hW rfl) (fun _ => rfl) (wrf hW 110 rfl) ?_
            refine V_bipush 94 (v := (32 : Int32)) rfl (by decide) ?_
            refine V_iload_n 95 2 rfl rfl rfl ?_
            refine V_imul 96 rfl ?_
            refine V_pc 145 rfl ?_
            refine V_bipush 97 (v := (8 : Int32)) rfl (by decide) ?_
            refine V_iload_n 98 4 rfl rfl rfl ?_
            refine V_imul 99 rfl ?_
            refine V_iadd 100 rfl ?_
            refine V_iload 101 5 rfl rfl ?_
            refine V_iadd 102 rfl ?_
            refine V_pc 153 rfl ?_
            obtain ⟨hin, h⟩ := h
            refine V_lald 103 rfl (wsh hW rfl) hin ?_
            refine V_bipush 104 (v := (8 : Int32)) rfl (by decide) ?_
            refine V_iload_n 105 4 rfl rfl rfl ?_
            refine V_imul 106 rfl ?_
            refine V_lshr 107 rfl ?_
            refine V_ldc2 108 (v := (255 : Int64)) rfl ctX12_391 ?_
            refine V_pc 162 rfl ?_
            refine V_land 109 rfl ?_
            refine V_topl (fun v5 ev5 => ?_)
            replace h := h v5 ev5
            refine V_lstore 110 (lv' := [(6, .long v5), (5, .int v4), (0, .ref 92), (1, .int a0), (2, .int x2), (3, .int x3), (4, .int x4)]) rfl (by decide) rfl ?_
            refine V_iload_n 111 4 rfl rfl rfl ?_
            refine V_if_ne 112 (tgt := 188) rfl (by decide) (fun hc => ?_) (fun hc => ?_)
            · replace h := h.1 hc
              refine V_sub [2, 3, 5, 6, 1, 0] (lv' := [(0, .ref 92), (1, .int a0), (3, .int x3), (4, .int x4), (5, .int v4), (6, .long v5)]) rfl ?_
              exact k_j188 x3 x4 v4 v5 σ hW h
            · replace h := h.2 hc
              refine V_pc 169 rfl ?_
              refine V_lload 113 0 rfl rfl ?_
              refine V_aload_n 114 2 rfl rfl rfl ?_
              refine V_getR 115 25 rfl clX12 flX12_63 (by decide) (wsh hW rfl) (fun _ => rfl) (wrf hW 111 rfl) ?_
              refine V_iload 116 1 rfl rfl ?_
              obtain ⟨hin, h⟩ := h
              refine V_lald 117 rfl (wsh hW rfl) hin ?_
              refine V_ldc2 118 (v := (-1 : Int64)) rfl ctX12_393 ?_
              refine V_pc 181 rfl ?_
              refine V_lxor 119 rfl ?_
              refine V_land 120 rfl ?_
              refine V_lconst 121 (v := (0 : Int64)) rfl (by decide) ?_
              refine V_lcmp 122 rfl ?_
              refine V_if_eq 123 (tgt := 192) rfl (by decide) (fun hc => ?_) (fun hc => ?_)
              · replace h := h.1 hc
                refine V_iconst 126 (v := (0 : Int32)) rfl (by decide) ?_
                refine V_sub [2, 3, 5, 6, 1, 0] (lv' := [(0, .ref 92), (1, .int a0), (3, .int x3), (4, .int x4), (5, .int v4), (6, .long v5)]) rfl ?_
                exact k_j193 x3 x4 v4 v5 (0 : Int32) σ hW h
              · replace h := h.2 hc
                refine V_pc 188 rfl ?_
                refine V_sub [2, 3, 5, 6, 1, 0] (lv' := [(0, .ref 92), (1, .int a0), (3, .int x3), (4, .int x4), (5, .int v4), (6, .long v5)]) rfl ?_
                exact k_j188 x3 x4 v4 v5 σ hW h
        intro n
        induction n with
        | zero => intro x2 x3 x4  σ hW h; exact absurd h id
        | succ n ih => exact step _ k_j217 _ ih
      intro x2 x3  σ hW h
      refine V_iload_n 68 3 rfl rfl rfl ?_
      refine V_aload_n 69 0 rfl rfl rfl ?_
      refine V_getR 70 17 rfl clX12 flX12_42 (by decide) (wsh hW rfl) (fun _ => rfl) (wrf hW 104 rfl) ?_
      refine V_iload_n 71 1 rfl rfl rfl ?_
      obtain ⟨hin, h⟩ := h
      refine V_iald 72 rfl (wsh hW rfl) hin ?_
      refine V_icmp_gt 73 (tgt := 223) rfl (by decide) (fun hc => ?_) (fun hc => ?_)
      · replace h := h.1 hc
        refine V_iload_n 142 2 rfl rfl rfl ?_
        exact V_zret 143 rfl rfl (nb1 h.1) ⟨hW, _, rfl, h.2⟩
      · replace h := h.2 hc
        refine V_pc 109 rfl ?_
        refine V_iconst 74 (v := (0 : Int32)) rfl (by decide) ?_
        refine V_istore 75 (lv' := [(4, .int (0 : Int32)), (0, .ref 92), (1, .int a0), (2, .int x2), (3, .int x3)]) rfl (by decide) rfl ?_
        refine V_sub [1, 2, 3, 4, 0] (lv' := [(0, .ref 92), (1, .int a0), (2, .int x2), (3, .int x3), (4, .int (0 : Int32))]) rfl ?_
        obtain ⟨n, h⟩ := h
        exact k_l112 n x2 x3 (0 : Int32) σ hW h
    intro n
    induction n with
    | zero => intro x2 x3  σ hW h; exact absurd h id
    | succ n ih => exact step  _ ih
  have k_j90 : ∀   (σ : ab_S), Wire σ → wX12_exchange_j90 a0 Q E  σ → V l mdX12_exchange B 1 23 0 0 (ab_End (fun v σ' => Wire σ' ∧ ∃ r : Int32, v = some (.int r) ∧ Q r σ') (fun X σ' => Wire σ' ∧ E X σ')) 90 [(0, .ref 92), (1, .int a0)] [] σ := by
    intro   σ hW h
    refine V_aload_n 61 0 rfl rfl rfl ?_
    refine V_iload_n 62 1 rfl rfl rfl ?_
    refine V_callV 63 1 (as := [.int a0]) (rest := []) rfl mlX12_388 yvX12_follow rfl rfl clX12 (wsh hW rfl) (by decide) (by decide) (Nat.le_of_ble_eq_true rfl) (by decide) (by decide) (fun B9 => ceX12_follow hl B9 hW h) (fun X9 τ9 h9 => VX_out rfl h9) ?_
    rintro v9 σ6 ⟨hW, rfl, h⟩
    refine V_iconst 64 (v := (0 : Int32)) rfl (by decide) ?_
    refine V_istore_n 65 (lv' := [(2, .int (0 : Int32)), (0, .ref 92), (1, .int a0)]) rfl rfl (by decide) rfl ?_
    refine V_iconst 66 (v := (0 : Int32)) rfl (by decide) ?_
    refine V_istore_n 67 (lv' := [(3, .int (0 : Int32)), (2, .int (0 : Int32)), (0, .ref 92), (1, .int a0)]) rfl rfl (by decide) rfl ?_
    refine V_sub [2, 3, 1, 0] (lv' := [(0, .ref 92), (1, .int a0), (2, .int (0 : Int32)), (3, .int (0 : Int32))]) rfl ?_
    obtain ⟨n, h⟩ := h
    exact k_l99 n (0 : Int32) (0 : Int32) σ6 hW h
  have k_l2 : ∀ (n : Nat) (x2 : Int32)  (σ : ab_S), Wire σ → wX12_exchange_l2 a0 Q E (wX12_exchange_j90 a0 Q E) n x2 σ → V l mdX12_exchange B 1 23 0 0 (ab_End (fun v σ' => Wire σ' ∧ ∃ r : Int32, v = some (.int r) ∧ Q r σ') (fun X σ' => Wire σ' ∧ E X σ')) 2 [(0, .ref 92), (1, .int a0), (2, .int x2)] [] σ := by
    have step : ∀ (K90 : ab_S → Prop) (k_K90 : ∀   (σ : ab_S), Wire σ → K90  σ → V l mdX12_exchange B 1 23 0 0 (ab_End (fun v σ' => Wire σ' ∧ ∃ r : Int32, v = some (.int r) ∧ Q r σ') (fun X σ' => Wire σ' ∧ E X σ')) 90 [(0, .ref 92), (1, .int a0)] [] σ), ∀ (Bk : Int32 → ab_S → Prop) (k_Bk : ∀ (x2 : Int32)  (σ : ab_S), Wire σ → Bk x2 σ → V l mdX12_exchange B 1 23 0 0 (ab_End (fun v σ' => Wire σ' ∧ ∃ r : Int32, v = some (.int r) ∧ Q r σ') (fun X σ' => Wire σ' ∧ E X σ')) 2 [(0, .ref 92), (1, .int a0), (2, .int x2)] [] σ), ∀ (x2 : Int32)  (σ : ab_S), Wire σ → wX12_exchange_l2_b a0 Q E K90 Bk x2 σ → V l mdX12_exchange B 1 23 0 0 (ab_End (fun v σ' => Wire σ' ∧ ∃ r : Int32, v = some (.int r) ∧ Q r σ') (fun X σ' => Wire σ' ∧ E X σ')) 2 [(0, .ref 92), (1, .int a0), (2, .int x2)] [] σ := by
      intro K90 k_K90 Bk k_Bk
      have k_j84 : ∀ (x2 : Int32)  (σ : ab_S), Wire σ → wX12_exchange_j84 a0 Q E K90 Bk x2 σ → V l mdX12_exchange B 1 23 0 0 (ab_End (fun v σ' => Wire σ' ∧ ∃ r : Int32, v = some (.int r) ∧ Q r σ') (fun X σ' => Wire σ' ∧ E X σ')) 84 [(0, .ref 92), (1, .int a0), (2, .int x2)] [] σ := by
        intro x2  σ hW h
        obtain ⟨v7, ev7⟩ : ∃ z : Int32, z = (x2 + 1) := ⟨_, rfl⟩
        replace h := h v7 ev7
        refine V_iinc 59 2 (v := v7) (lv' := [(2, .int v7), (0, .ref 92), (1, .int a0)]) rfl rfl ((in_1 _).trans ev7.symm) (by decide) rfl ?_
        refine V_goto 60 (tgt := 2) rfl (by decide) ?_
        refine V_sub [1, 2, 0] (lv' := [(0, .ref 92), (1, .int a0), (2, .int v7)]) rfl ?_
        exact k_Bk v7  σ hW h
      have k_l14 : ∀ (n : Nat) (x2 : Int32) (x3 : Int32)  (σ : ab_S), Wire σ → wX12_exchange_l14 a0 Q E (wX12_exchange_j84 a0 Q E K90 Bk) n x2 x3 σ → V l mdX12_exchange B 1 23 0 0 (ab_End (fun v σ' => Wire σ' ∧ ∃ r : Int32, v = some (.int r) ∧ Q r σ') (fun X σ' => Wire σ' ∧ E X σ')) 14 [(0, .ref 92), (1, .int a0), (2, .int x2), (3, .int x3)] [] σ := by
        have step : ∀ (K84 : Int32 → ab_S → Prop) (k_K84 : ∀ (x2 : Int32)  (σ : ab_S), Wire σ → K84 x2 σ → V l mdX12_exchange B 1 23 0 0 (ab_End (fun v σ' => Wire σ' ∧ ∃ r : Int32, v = some (.int r) ∧ Q r σ') (fun X σ' => Wire σ' ∧ E X σ')) 84 [(0, .ref 92), (1, .int a0), (2, .int x2)] [] σ), ∀ (Bk : Int32 → Int32 → ab_S → Prop) (k_Bk : ∀ (x2 : Int32) (x3 : Int32)  (σ : ab_S), Wire σ → Bk x2 x3 σ → V l mdX12_exchange B 1 23 0 0 (ab_End (fun v σ' => Wire σ' ∧ ∃ r : Int32, v = some (.int r) ∧ Q r σ') (fun X σ' => Wire σ' ∧ E X σ')) 14 [(0, .ref 92), (1, .int a0), (2, .int x2), (3, .int x3)] [] σ), ∀ (x2 : Int32) (x3 : Int32)  (σ : ab_S), Wire σ → wX12_exchange_l14_b a0 Q E K84 Bk x2 x3 σ → V l mdX12_exchange B 1 23 0 0 (ab_End (fun v σ' => Wire σ' ∧ ∃ r : Int32, v = some (.int r) ∧ Q r σ') (fun X σ' => Wire σ' ∧ E X σ')) 14 [(0, .ref 92), (1, .int a0), (2, .int x2), (3, .int x3)] [] σ := by
          intro K84 k_K84 Bk k_Bk
          intro x2 x3  σ hW h
          refine V_iload_n 10 3 rfl rfl rfl ?_
          refine V_bipush 11 (v := (8 : Int32)) rfl (by decide) ?_
          refine V_icmp_ge 12 (tgt := 84) rfl (by decide) (fun hc => ?_) (fun hc => ?_)
          · replace h := h.1 hc
            refine V_sub [0, 1, 2] (lv' := [(0, .ref 92), (1, .int a0), (2, .int x2)]) rfl ?_
            exact k_K84 x2  σ hW h
          · replace h := h.2 hc
            refine V_pc 20 rfl ?_
            refine V_aload_n 13 0 rfl rfl rfl ?_
            refine V_getR 14 24 rfl clX12 flX12_60 (by decide) (wsh hW rfl) (fun _ => rfl) (wrf hW 110 rfl) ?_
            refine V_bipush 15 (v := (32 : Int32)) rfl (by decide) ?_
            refine V_iload_n 16 1 rfl rfl rfl ?_
            refine V_imul 17 rfl ?_
            refine V_bipush 18 (v := (8 : Int32)) rfl (by decide) ?_
            refine V_pc 30 rfl ?_
            refine V_iload_n 19 2 rfl rfl rfl ?_
            refine V_imul 20 rfl ?_
            refine V_iadd 21 rfl ?_
            refine V_iload_n 22 3 rfl rfl rfl ?_
            refine V_iadd 23 rfl ?_
            refine V_aload_n 24 0 rfl rfl rfl ?_
            refine V_pc 36 rfl ?_
            refine V_getR 25 24 rfl clX12 flX12_60 (by decide) (wsh hW rfl) (fun _ => rfl) (wrf hW 110 rfl) ?_
            refine V_bipush 26 (v := (32 : Int32)) rfl (by decide) ?_
            refine V_iload_n 27 1 rfl rfl rfl ?_
            refine V_imul 28 rfl ?_
            refine V_bipush 29 (v := (8 : Int32)) rfl (by decide) ?_
            refine V_iload_n 30 2 rfl rfl rfl ?_
            refine V_pc 46 rfl ?_
            refine V_imul 31 rfl ?_
            refine V_iadd 32 rfl ?_
            refine V_iload_n 33 3 rfl rfl rfl ?_
            refine V_iadd 34 rfl ?_
            obtain ⟨hin, h⟩ := h
            refine V_lald 35 rfl (wsh hW rfl) hin ?_
            refine V_aload_n 36 0 rfl rfl rfl ?_
            refine V_pc 52 rfl ?_
            refine V_getR 37 25 rfl clX12 flX12_63 (by decide) (wsh hW rfl) (fun _ => rfl) (wrf hW 111 rfl) ?_
            refine V_bipush 38 (v := (8 : Int32)) rfl (by decide) ?_
            refine V_aload_n 39 0 rfl rfl rfl ?_
            refine V_getR 40 18 rfl clX12 flX12_45 (by decide) (wsh hW rfl) (fun _ => rfl) (wrf hW 105 rfl) ?_
            refine V_iconst 41 (v := (4 : Int32)) rfl (by decide) ?_
            refine V_iload_n 42 1 rfl rfl rfl ?_
            refine V_pc 63 rfl ?_
            refine V_imul 43 rfl ?_
            refine V_iload_n 44 2 rfl rfl rfl ?_
            refine V_iadd 45 rfl ?_
            obtain ⟨hin, h⟩ := h
            refine V_iald 46 rfl (wsh hW rfl) hin ?_
            refine V_imul 47 rfl ?_
            refine V_iload_n 48 3 rfl rfl rfl ?_
            refine V_pc 69 rfl ?_
            refine V_iadd 49 rfl ?_
            obtain ⟨hin, h⟩ := h
            refine V_lald 50 rfl (wsh hW rfl) hin ?_
            refine V_bipush 51 (v := (8 : Int32)) rfl (by decide) ?_
            refine V_iload_n 52 2 rfl rfl rfl ?_
            refine V_imul 53 rfl ?_
            refine V_lshl 54 rfl ?_
            refine V_pc 76 rfl ?_
            refine V_lor 55 rfl ?_
            obtain ⟨hin, h⟩ := h
            refine V_last 56 rfl (wsh hW rfl) hin ?_
            refine V_nm (fun σ8 eσ8 => ?_)
            replace h := h σ8 eσ8
            have hW := wire_L eσ8 hW
            obtain ⟨v9, ev9⟩ : ∃ z : Int32, z = (x3 + 1) := ⟨_, rfl⟩
            replace h := h v9 ev9
            refine V_iinc 57 3 (v := v9) (lv' := [(3, .int v9), (0, .ref 92), (1, .int a0), (2, .int x2)]) rfl rfl ((in_1 _).trans ev9.symm) (by decide) rfl ?_
            refine V_goto 58 (tgt := 14) rfl (by decide) ?_
            refine V_sub [1, 2, 3, 0] (lv' := [(0, .ref 92), (1, .int a0), (2, .int x2), (3, .int v9)]) rfl ?_
            exact k_Bk x2 v9  σ8 hW h
        intro n
        induction n with
        | zero => intro x2 x3  σ hW h; exact absurd h id
        | succ n ih => exact step _ k_j84 _ ih
      intro x2  σ hW h
      refine V_iload_n 2 2 rfl rfl rfl ?_
      refine V_aload_n 3 0 rfl rfl rfl ?_
      refine V_getR 4 17 rfl clX12 flX12_42 (by decide) (wsh hW rfl) (fun _ => rfl) (wrf hW 104 rfl) ?_
      refine V_iload_n 5 1 rfl rfl rfl ?_
      obtain ⟨hin, h⟩ := h
      refine V_iald 6 rfl (wsh hW rfl) hin ?_
      refine V_icmp_gt 7 (tgt := 90) rfl (by decide) (fun hc => ?_) (fun hc => ?_)
      · replace h := h.1 hc
        refine V_sub [0, 1] (lv' := [(0, .ref 92), (1, .int a0)]) rfl ?_
        exact k_K90  σ hW h
      · replace h := h.2 hc
        refine V_pc 12 rfl ?_
        refine V_iconst 8 (v := (0 : Int32)) rfl (by decide) ?_
        refine V_istore_n 9 (lv' := [(3, .int (0 : Int32)), (0, .ref 92), (1, .int a0), (2, .int x2)]) rfl rfl (by decide) rfl ?_
        refine V_sub [1, 2, 3, 0] (lv' := [(0, .ref 92), (1, .int a0), (2, .int x2), (3, .int (0 : Int32))]) rfl ?_
        obtain ⟨n, h⟩ := h
        exact k_l14 n x2 (0 : Int32) σ hW h
    intro n
    induction n with
    | zero => intro x2  σ hW h; exact absurd h id
    | succ n ih => exact step _ k_j90 _ ih
  intro σ hW h
  refine V_iconst 0 (v := (0 : Int32)) rfl (by decide) ?_
  refine V_istore_n 1 (lv' := [(2, .int (0 : Int32)), (0, .ref 92), (1, .int a0)]) rfl rfl (by decide) rfl ?_
  refine V_sub [1, 2, 0] (lv' := [(0, .ref 92), (1, .int a0), (2, .int (0 : Int32))]) rfl ?_
  obtain ⟨n, h⟩ := h
  exact k_l2 n (0 : Int32) σ hW h

def wX12_induce_j84 (Q : ab_S → Prop) (E : String → ab_S → Prop) (Bk : Int32 → ab_S → Prop) (x1 : Int32) (σ : ab_S) : Prop := Bk x1 σ
def wX12_induce_j77 (Q : ab_S → Prop) (E : String → ab_S → Prop) (K84 : Int32 → ab_S → Prop) (Bk : Int32 → Int32 → ab_S → Prop) (x2 : Int32) (y0 : Int32) (σ : ab_S) : Prop := ∀ v1 : Int32, v1 = (x2 + 1) → Bk y0 v1 σ
def wX12_induce_j72 (Q : ab_S → Prop) (E : String → ab_S → Prop) (K84 : Int32 → ab_S → Prop) (Bk : Int32 → Int32 → ab_S → Prop) (x2 : Int32) (σ : ab_S) : Prop := wX12_induce_j77 Q E K84 Bk x2 (1 : Int32) σ
def wX12_induce_l52_b (Q : ab_S → Prop) (E : String → ab_S → Prop) (K84 : Int32 → ab_S → Prop) (Bk : Int32 → Int32 → ab_S → Prop) (x1 : Int32) (x2 : Int32) (σ : ab_S) : Prop := (((σ.2.1 92 14) ≤ x2) → K84 x1 σ) ∧ (¬ ((σ.2.1 92 14) ≤ x2) → wX12_exchange x2 (fun u3 σ2 => ((¬ u3 = 0) → wX12_induce_j72 Q E K84 Bk x2 σ2) ∧ (¬ (¬ u3 = 0) → ((x1 = 0) → wX12_induce_j77 Q E K84 Bk x2 (0 : Int32) σ2) ∧ (¬ (x1 = 0) → wX12_induce_j72 Q E K84 Bk x2 σ2))) E σ)
def wX12_induce_l52 (Q : ab_S → Prop) (E : String → ab_S → Prop) (K84 : Int32 → ab_S → Prop) : Nat → Int32 → Int32 → ab_S → Prop
  | 0, _, _, _ => False
  | n + 1, x1, x2, σ => wX12_induce_l52_b Q E K84 (wX12_induce_l52 Q E K84 n) x1 x2 σ
def wX12_induce_l44_b (Q : ab_S → Prop) (E : String → ab_S → Prop) (Bk : Int32 → ab_S → Prop) (x1 : Int32) (σ : ab_S) : Prop := ((x1 = 0) → Q σ) ∧ (¬ (x1 = 0) → ∃ n, wX12_induce_l52 Q E (wX12_induce_j84 Q E Bk) n (0 : Int32) (0 : Int32) σ)
def wX12_induce_l44 (Q : ab_S → Prop) (E : String → ab_S → Prop) : Nat → Int32 → ab_S → Prop
  | 0, _, _ => False
  | n + 1, x1, σ => wX12_induce_l44_b Q E (wX12_induce_l44 Q E n) x1 σ
def wX12_induce_j42 (Q : ab_S → Prop) (E : String → ab_S → Prop)  (σ : ab_S) : Prop := ∃ n, wX12_induce_l44 Q E n (1 : Int32) σ
def wX12_induce_l23_b (Q : ab_S → Prop) (E : String → ab_S → Prop) (K42 : ab_S → Prop) (Bk : Int32 → ab_S → Prop) (x1 : Int32) (σ : ab_S) : Prop := (((σ.2.1 92 14) ≤ x1) → K42 σ) ∧ (¬ ((σ.2.1 92 14) ≤ x1) → wX12_direct x1 (fun σ4 => ∀ v5 : Int32, v5 = (x1 + 1) → Bk v5 σ4) E σ)
def wX12_induce_l23 (Q : ab_S → Prop) (E : String → ab_S → Prop) (K42 : ab_S → Prop) : Nat → Int32 → ab_S → Prop
  | 0, _, _ => False
  | n + 1, x1, σ => wX12_induce_l23_b Q E K42 (wX12_induce_l23 Q E K42 n) x1 σ
def wX12_induce_j21 (Q : ab_S → Prop) (E : String → ab_S → Prop)  (σ : ab_S) : Prop := ∃ n, wX12_induce_l23 Q E (wX12_induce_j42 Q E) n (0 : Int32) σ
def wX12_induce_l2_b (Q : ab_S → Prop) (E : String → ab_S → Prop) (K21 : ab_S → Prop) (Bk : Int32 → ab_S → Prop) (x1 : Int32) (σ : ab_S) : Prop := (((104 : Int32) ≤ x1) → K21 σ) ∧ (¬ ((104 : Int32) ≤ x1) → vp_in x1 104 ∧ (∀ σ6 : ab_S, σ6 = ab_L σ 110 x1.toNatClampNeg (0 : Int64) → ∀ v7 : Int32, v7 = (x1 + 1) → Bk v7 σ6))
def wX12_induce_l2 (Q : ab_S → Prop) (E : String → ab_S → Prop) (K21 : ab_S → Prop) : Nat → Int32 → ab_S → Prop
  | 0, _, _ => False
  | n + 1, x1, σ => wX12_induce_l2_b Q E K21 (wX12_induce_l2 Q E K21 n) x1 σ
def wX12_induce  (Q : ab_S → Prop) (E : String → ab_S → Prop) (σ : ab_S) : Prop := ∃ n, wX12_induce_l2 Q E (wX12_induce_j21 Q E) n (0 : Int32) σ
set_option maxHeartbeats 4000000 in
set_option maxRecDepth 100000 in
theorem ceX12_induce {l : Launch} (hl : l.stackTraces = false) (B : Nat)   {Q : ab_S → Prop} {E : String → ab_S → Prop} {σ : ab_S} (hW : Wire σ) (h : wX12_induce  Q E σ) : ab_Mt l yX12_induce mdX12_induce B 2 50 0 0 [.ref 92] σ (fun v σ' => Wire σ' ∧ v = none ∧ Q σ') (fun X σ' => Wire σ' ∧ E X σ') := by
  refine V_met hl ⟨rfl, rfl, by decide⟩ rfl dkX12_induce (Nat.le_of_ble_eq_true rfl) ?_
  show V l mdX12_induce B 2 50 0 0 (ab_End _ _) 0 [(0, .ref 92)] [] σ
  revert h hW
  revert σ
  have k_l44 : ∀ (n : Nat) (x1 : Int32)  (σ : ab_S), Wire σ → wX12_induce_l44 Q E n x1 σ → V l mdX12_induce B 2 50 0 0 (ab_End (fun v σ' => Wire σ' ∧ v = none ∧ Q σ') (fun X σ' => Wire σ' ∧ E X σ')) 44 [(0, .ref 92), (1, .int x1)] [] σ := by
    have step : ∀ (Bk : Int32 → ab_S → Prop) (k_Bk : ∀ (x1 : Int32)  (σ : ab_S), Wire σ → Bk x1 σ → V l mdX12_induce B 2 50 0 0 (ab_End (fun v σ' => Wire σ' ∧ v = none ∧ Q σ') (fun X σ' => Wire σ' ∧ E X σ')) 44 [(0, .ref 92), (1, .int x1)] [] σ), ∀ (x1 : Int32)  (σ : ab_S), Wire σ → wX12_induce_l44_b Q E Bk x1 σ → V l mdX12_induce B 2 50 0 0 (ab_End (fun v σ' => Wire σ' ∧ v = none ∧ Q σ') (fun X σ' => Wire σ' ∧ E X σ')) 44 [(0, .ref 92), (1, .int x1)] [] σ := by
      intro Bk k_Bk
      have k_j84 : ∀ (x1 : Int32)  (σ : ab_S), Wire σ → wX12_induce_j84 Q E Bk x1 σ → V l mdX12_induce B 2 50 0 0 (ab_End (fun v σ' => Wire σ' ∧ v = none ∧ Q σ') (fun X σ' => Wire σ' ∧ E X σ')) 84 [(0, .ref 92), (1, .int x1)] [] σ := by
        intro x1  σ hW h
        refine V_goto 47 (tgt := 44) rfl (by decide) ?_
        exact k_Bk x1  σ hW h
      have k_l52 : ∀ (n : Nat) (x1 : Int32) (x2 : Int32)  (σ : ab_S), Wire σ → wX12_induce_l52 Q E (wX12_induce_j84 Q E Bk) n x1 x2 σ → V l mdX12_induce B 2 50 0 0 (ab_End (fun v σ' => Wire σ' ∧ v = none ∧ Q σ') (fun X σ' => Wire σ' ∧ E X σ')) 52 [(0, .ref 92), (1, .int x1), (2, .int x2)] [] σ := by
        have step : ∀ (K84 : Int32 → ab_S → Prop) (k_K84 : ∀ (x1 : Int32)  (σ : ab_S), Wire σ → K84 x1 σ → V l mdX12_induce B 2 50 0 0 (ab_End (fun v σ' => Wire σ' ∧ v = none ∧ Q σ') (fun X σ' => Wire σ' ∧ E X σ')) 84 [(0, .ref 92), (1, .int x1)] [] σ), ∀ (Bk : Int32 → Int32 → ab_S → Prop) (k_Bk : ∀ (x1 : Int32) (x2 : Int32)  (σ : ab_S), Wire σ → Bk x1 x2 σ → V l mdX12_induce B 2 50 0 0 (ab_End (fun v σ' => Wire σ' ∧ v = none ∧ Q σ') (fun X σ' => Wire σ' ∧ E X σ')) 52 [(0, .ref 92), (1, .int x1), (2, .int x2)] [] σ), ∀ (x1 : Int32) (x2 : Int32)  (σ : ab_S), Wire σ → wX12_induce_l52_b Q E K84 Bk x1 x2 σ → V l mdX12_induce B 2 50 0 0 (ab_End (fun v σ' => Wire σ' ∧ v = none ∧ Q σ') (fun X σ' => Wire σ' ∧ E X σ')) 52 [(0, .ref 92), (1, .int x1), (2, .int x2)] [] σ := by
          intro K84 k_K84 Bk k_Bk
          have k_j77 : ∀ (x2 : Int32) (y0 : Int32)  (σ : ab_S), Wire σ → wX12_induce_j77 Q E K84 Bk x2 y0 σ → V l mdX12_induce B 2 50 0 0 (ab_End (fun v σ' => Wire σ' ∧ v = none ∧ Q σ') (fun X σ' => Wire σ' ∧ E X σ')) 77 [(0, .ref 92), (2, .int x2)] [.int y0] σ := by
            intro x2 y0  σ hW h
            refine V_istore_n 44 (lv' := [(1, .int y0), (0, .ref 92), (2, .int x2)]) rfl rfl (by decide) rfl ?_
            obtain ⟨v1, ev1⟩ : ∃ z : Int32, z = (x2 + 1) := ⟨_, rfl⟩
            replace h := h v1 ev1
            refine V_iinc 45 2 (v := v1) (lv' := [(2, .int v1), (1, .int y0), (0, .ref 92)]) rfl rfl ((in_1 _).trans ev1.symm) (by decide) rfl ?_
            refine V_goto 46 (tgt := 52) rfl (by decide) ?_
            refine V_sub [2, 1, 0] (lv' := [(0, .ref 92), (1, .int y0), (2, .int v1)]) rfl ?_
            exact k_Bk y0 v1  σ hW h
          have k_j72 : ∀ (x2 : Int32)  (σ : ab_S), Wire σ → wX12_induce_j72 Q E K84 Bk x2 σ → V l mdX12_induce B 2 50 0 0 (ab_End (fun v σ' => Wire σ' ∧ v = none ∧ Q σ') (fun X σ' => Wire σ' ∧ E X σ')) 72 [(0, .ref 92), (2, .int x2)] [] σ := by
            intro x2  σ hW h
            refine V_iconst 41 (v := (1 : Int32)) rfl (by decide) ?_
            refine V_goto 42 (tgt := 77) rfl (by decide) ?_
            exact k_j77 x2 (1 : Int32) σ hW h
          intro x1 x2  σ hW h
          refine V_iload_n 31 2 rfl rfl rfl ?_
          refine V_aload_n 32 0 rfl rfl rfl ?_
          refine V_get (v := .int (σ.2.1 92 14)) 33 14 rfl clX12 flX12_316 (by decide) (wsh hW rfl) (fun _ => rfl) ?_
          refine V_icmp_ge 34 (tgt := 84) rfl (by decide) (fun hc => ?_) (fun hc => ?_)
          · replace h := h.1 hc
            refine V_sub [0, 1] (lv' := [(0, .ref 92), (1, .int x1)]) rfl ?_
            exact k_K84 x1  σ hW h
          · replace h := h.2 hc
            refine V_pc 60 rfl ?_
            refine V_aload_n 35 0 rfl rfl rfl ?_
            refine V_iload_n 36 2 rfl rfl rfl ?_
            refine V_callV 37 1 (as := [.int x2]) (rest := []) rfl mlX12_398 yvX12_exchange rfl rfl clX12 (wsh hW rfl) (by decide) (by decide) (Nat.le_of_ble_eq_true rfl) (by decide) (by decide) (fun B9 => ceX12_exchange hl B9 hW h) (fun X9 τ9 h9 => VX_out rfl h9) ?_
            rintro v9 σ2 ⟨hW, u3, rfl, h⟩
            refine V_if_ne 38 (tgt := 72) rfl (by decide) (fun hc => ?_) (fun hc => ?_)
            · replace h := h.1 hc
              refine V_sub [0, 2] (lv' := [(0, .ref 92), (2, .int x2)]) rfl ?_
              exact k_j72 x2 σ2 hW h
            · replace h := h.2 hc
              refine V_pc 68 rfl ?_
              refine V_iload_n 39 1 rfl rfl rfl ?_
              refine V_if_eq 40 (tgt := 76) rfl (by decide) (fun hc => ?_) (fun hc => ?_)
              · replace h := h.1 hc
                refine V_iconst 43 (v := (0 : Int32)) rfl (by decide) ?_
                refine V_sub [0, 2] (lv' := [(0, .ref 92), (2, .int x2)]) rfl ?_
                exact k_j77 x2 (0 : Int32) σ2 hW h
              · replace h := h.2 hc
                refine V_pc 72 rfl ?_
                refine V_sub [0, 2] (lv' := [(0, .ref 92), (2, .int x2)]) rfl ?_
                exact k_j72 x2 σ2 hW h
        intro n
        induction n with
        | zero => intro x1 x2  σ hW h; exact absurd h id
        | succ n ih => exact step _ k_j84 _ ih
      intro x1  σ hW h
      refine V_iload_n 25 1 rfl rfl rfl ?_
      refine V_if_eq 26 (tgt := 87) rfl (by decide) (fun hc => ?_) (fun hc => ?_)
      · replace h := h.1 hc
        exact V_vret 48 rfl rfl ⟨hW, rfl, h⟩
      · replace h := h.2 hc
        refine V_pc 48 rfl ?_
        refine V_iconst 27 (v := (0 : Int32)) rfl (by decide) ?_
        refine V_istore_n 28 (lv' := [(1, .int (0 : Int32)), (0, .ref 92)]) rfl rfl (by decide) rfl ?_
        refine V_iconst 29 (v := (0 : Int32)) rfl (by decide) ?_
        refine V_istore_n 30 (lv' := [(2, .int (0 : Int32)), (1, .int (0 : Int32)), (0, .ref 92)]) rfl rfl (by decide) rfl ?_
        refine V_sub [2, 1, 0] (lv' := [(0, .ref 92), (1, .int (0 : Int32)), (2, .int (0 : Int32))]) rfl ?_
        obtain ⟨n, h⟩ := h
        exact k_l52 n (0 : Int32) (0 : Int32) σ hW h
    intro n
    induction n with
    | zero => intro x1  σ hW h; exact absurd h id
    | succ n ih => exact step  _ ih
  have k_j42 : ∀   (σ : ab_S), Wire σ → wX12_induce_j42 Q E  σ → V l mdX12_induce B 2 50 0 0 (ab_End (fun v σ' => Wire σ' ∧ v = none ∧ Q σ') (fun X σ' => Wire σ' ∧ E X σ')) 42 [(0, .ref 92)] [] σ := by
    intro   σ hW h
    refine V_iconst 23 (v := (1 : Int32)) rfl (by decide) ?_
    refine V_istore_n 24 (lv' := [(1, .int (1 : Int32)), (0, .ref 92)]) rfl rfl (by decide) rfl ?_
    refine V_sub [1, 0] (lv' := [(0, .ref 92), (1, .int (1 : Int32))]) rfl ?_
    obtain ⟨n, h⟩ := h
    exact k_l44 n (1 : Int32) σ hW h
  have k_l23 : ∀ (n : Nat) (x1 : Int32)  (σ : ab_S), Wire σ → wX12_induce_l23 Q E (wX12_induce_j42 Q E) n x1 σ → V l mdX12_induce B 2 50 0 0 (ab_End (fun v σ' => Wire σ' ∧ v = none ∧ Q σ') (fun X σ' => Wire σ' ∧ E X σ')) 23 [(0, .ref 92), (1, .int x1)] [] σ := by
    have step : ∀ (K42 : ab_S → Prop) (k_K42 : ∀   (σ : ab_S), Wire σ → K42  σ → V l mdX12_induce B 2 50 0 0 (ab_End (fun v σ' => Wire σ' ∧ v = none ∧ Q σ') (fun X σ' => Wire σ' ∧ E X σ')) 42 [(0, .ref 92)] [] σ), ∀ (Bk : Int32 → ab_S → Prop) (k_Bk : ∀ (x1 : Int32)  (σ : ab_S), Wire σ → Bk x1 σ → V l mdX12_induce B 2 50 0 0 (ab_End (fun v σ' => Wire σ' ∧ v = none ∧ Q σ') (fun X σ' => Wire σ' ∧ E X σ')) 23 [(0, .ref 92), (1, .int x1)] [] σ), ∀ (x1 : Int32)  (σ : ab_S), Wire σ → wX12_induce_l23_b Q E K42 Bk x1 σ → V l mdX12_induce B 2 50 0 0 (ab_End (fun v σ' => Wire σ' ∧ v = none ∧ Q σ') (fun X σ' => Wire σ' ∧ E X σ')) 23 [(0, .ref 92), (1, .int x1)] [] σ := by
      intro K42 k_K42 Bk k_Bk
      intro x1  σ hW h
      refine V_iload_n 14 1 rfl rfl rfl ?_
      refine V_aload_n 15 0 rfl rfl rfl ?_
      refine V_get (v := .int (σ.2.1 92 14)) 16 14 rfl clX12 flX12_316 (by decide) (wsh hW rfl) (fun _ => rfl) ?_
      refine V_icmp_ge 17 (tgt := 42) rfl (by decide) (fun hc => ?_) (fun hc => ?_)
      · replace h := h.1 hc
        refine V_sub [0] (lv' := [(0, .ref 92)]) rfl ?_
        exact k_K42  σ hW h
      · replace h := h.2 hc
        refine V_pc 31 rfl ?_
        refine V_aload_n 18 0 rfl rfl rfl ?_
        refine V_iload_n 19 1 rfl rfl rfl ?_
        refine V_callV 20 1 (as := [.int x1]) (rest := []) rfl mlX12_395 yvX12_direct rfl rfl clX12 (wsh hW rfl) (by decide) (by decide) (Nat.le_of_ble_eq_true rfl) (by decide) (by decide) (fun B9 => ceX12_direct hl B9 hW h) (fun X9 τ9 h9 => VX_out rfl h9) ?_
        rintro v9 σ4 ⟨hW, rfl, h⟩
        obtain ⟨v5, ev5⟩ : ∃ z : Int32, z = (x1 + 1) := ⟨_, rfl⟩
        replace h := h v5 ev5
        refine V_iinc 21 1 (v := v5) (lv' := [(1, .int v5), (0, .ref 92)]) rfl rfl ((in_1 _).trans ev5.symm) (by decide) rfl ?_
        refine V_goto 22 (tgt := 23) rfl (by decide) ?_
        refine V_sub [1, 0] (lv' := [(0, .ref 92), (1, .int v5)]) rfl ?_
        exact k_Bk v5  σ4 hW h
    intro n
    induction n with
    | zero => intro x1  σ hW h; exact absurd h id
    | succ n ih => exact step _ k_j42 _ ih
  have k_j21 : ∀   (σ : ab_S), Wire σ → wX12_induce_j21 Q E  σ → V l mdX12_induce B 2 50 0 0 (ab_End (fun v σ' => Wire σ' ∧ v = none ∧ Q σ') (fun X σ' => Wire σ' ∧ E X σ')) 21 [(0, .ref 92)] [] σ := by
    intro   σ hW h
    refine V_iconst 12 (v := (0 : Int32)) rfl (by decide) ?_
    refine V_istore_n 13 (lv' := [(1, .int (0 : Int32)), (0, .ref 92)]) rfl rfl (by decide) rfl ?_
    refine V_sub [1, 0] (lv' := [(0, .ref 92), (1, .int (0 : Int32))]) rfl ?_
    obtain ⟨n, h⟩ := h
    exact k_l23 n (0 : Int32) σ hW h
  have k_l2 : ∀ (n : Nat) (x1 : Int32)  (σ : ab_S), Wire σ → wX12_induce_l2 Q E (wX12_induce_j21 Q E) n x1 σ → V l mdX12_induce B 2 50 0 0 (ab_End (fun v σ' => Wire σ' ∧ v = none ∧ Q σ') (fun X σ' => Wire σ' ∧ E X σ')) 2 [(0, .ref 92), (1, .int x1)] [] σ := by
    have step : ∀ (K21 : ab_S → Prop) (k_K21 : ∀   (σ : ab_S), Wire σ → K21  σ → V l mdX12_induce B 2 50 0 0 (ab_End (fun v σ' => Wire σ' ∧ v = none ∧ Q σ') (fun X σ' => Wire σ' ∧ E X σ')) 21 [(0, .ref 92)] [] σ), ∀ (Bk : Int32 → ab_S → Prop) (k_Bk : ∀ (x1 : Int32)  (σ : ab_S), Wire σ → Bk x1 σ → V l mdX12_induce B 2 50 0 0 (ab_End (fun v σ' => Wire σ' ∧ v = none ∧ Q σ') (fun X σ' => Wire σ' ∧ E X σ')) 2 [(0, .ref 92), (1, .int x1)] [] σ), ∀ (x1 : Int32)  (σ : ab_S), Wire σ → wX12_induce_l2_b Q E K21 Bk x1 σ → V l mdX12_induce B 2 50 0 0 (ab_End (fun v σ' => Wire σ' ∧ v = none ∧ Q σ') (fun X σ' => Wire σ' ∧ E X σ')) 2 [(0, .ref 92), (1, .int x1)] [] σ := by
      intro K21 k_K21 Bk k_Bk
      intro x1  σ hW h
      refine V_iload_n 2 1 rfl rfl rfl ?_
      refine V_bipush 3 (v := (104 : Int32)) rfl (by decide) ?_
      refine V_icmp_ge 4 (tgt := 21) rfl (by decide) (fun hc => ?_) (fun hc => ?_)
      · replace h := h.1 hc
        refine V_sub [0] (lv' := [(0, .ref 92)]) rfl ?_
        exact k_K21  σ hW h
      · replace h := h.2 hc
        refine V_pc 8 rfl ?_
        refine V_aload_n 5 0 rfl rfl rfl ?_
        refine V_getR 6 25 rfl clX12 flX12_63 (by decide) (wsh hW rfl) (fun _ => rfl) (wrf hW 111 rfl) ?_
        refine V_iload_n 7 1 rfl rfl rfl ?_
        refine V_lconst 8 (v := (0 : Int64)) rfl (by decide) ?_
        obtain ⟨hin, h⟩ := h
        refine V_last 9 rfl (wsh hW rfl) hin ?_
        refine V_nm (fun σ6 eσ6 => ?_)
        replace h := h σ6 eσ6
        have hW := wire_L eσ6 hW
        obtain ⟨v7, ev7⟩ : ∃ z : Int32, z = (x1 + 1) := ⟨_, rfl⟩
        replace h := h v7 ev7
        refine V_iinc 10 1 (v := v7) (lv' := [(1, .int v7), (0, .ref 92)]) rfl rfl ((in_1 _).trans ev7.symm) (by decide) rfl ?_
        refine V_pc 18 rfl ?_
        refine V_goto 11 (tgt := 2) rfl (by decide) ?_
        refine V_sub [1, 0] (lv' := [(0, .ref 92), (1, .int v7)]) rfl ?_
        exact k_Bk v7  σ6 hW h
    intro n
    induction n with
    | zero => intro x1  σ hW h; exact absurd h id
    | succ n ih => exact step _ k_j21 _ ih
  intro σ hW h
  refine V_iconst 0 (v := (0 : Int32)) rfl (by decide) ?_
  refine V_istore_n 1 (lv' := [(1, .int (0 : Int32)), (0, .ref 92)]) rfl rfl (by decide) rfl ?_
  refine V_sub [1, 0] (lv' := [(0, .ref 92), (1, .int (0 : Int32))]) rfl ?_
  obtain ⟨n, h⟩ := h
  exact k_l2 n (0 : Int32) σ hW h

def wX12_turning_j53 (Q : Int32 → ab_S → Prop) (E : String → ab_S → Prop) (Bk : Int32 → Int32 → ab_S → Prop) (x1 : Int32) (x2 : Int32) (σ : ab_S) : Prop := ∀ v1 : Int32, v1 = (x2 - 1) → Bk x1 v1 σ
def wX12_turning_j46 (Q : Int32 → ab_S → Prop) (E : String → ab_S → Prop) (K53 : Int32 → Int32 → ab_S → Prop) (Bk : Int32 → Int32 → Int32 → ab_S → Prop) (x2 : Int32) (x3 : Int32) (y0 : Int32) (σ : ab_S) : Prop := ∀ v2 : Int32, v2 = (x3 + 1) → Bk y0 x2 v2 σ
def wX12_turning_l15_b (Q : Int32 → ab_S → Prop) (E : String → ab_S → Prop) (K53 : Int32 → Int32 → ab_S → Prop) (Bk : Int32 → Int32 → Int32 → ab_S → Prop) (x1 : Int32) (x2 : Int32) (x3 : Int32) (σ : ab_S) : Prop := (((32 : Int32) ≤ x3) → K53 x1 x2 σ) ∧ (¬ ((32 : Int32) ≤ x3) → vp_in (((32 : Int32) * x2) + x3) 992 ∧ (((¬ (lg_cmp (((σ.2.2.1 109 (((32 : Int32) * x2) + x3).toNatClampNeg) >>> (x3.toInt64 &&& 63)) &&& (1 : Int64)) (1 : Int64)) = 0) → wX12_turning_j46 Q E K53 Bk x2 x3 x1 σ) ∧ (¬ (¬ (lg_cmp (((σ.2.2.1 109 (((32 : Int32) * x2) + x3).toNatClampNeg) >>> (x3.toInt64 &&& 63)) &&& (1 : Int64)) (1 : Int64)) = 0) → wX12_turning_j46 Q E K53 Bk x2 x3 x2 σ)))
def wX12_turning_l15 (Q : Int32 → ab_S → Prop) (E : String → ab_S → Prop) (K53 : Int32 → Int32 → ab_S → Prop) : Nat → Int32 → Int32 → Int32 → ab_S → Prop
  | 0, _, _, _, _ => False
  | n + 1, x1, x2, x3, σ => wX12_turning_l15_b Q E K53 (wX12_turning_l15 Q E K53 n) x1 x2 x3 σ
def wX12_turning_l9_b (Q : Int32 → ab_S → Prop) (E : String → ab_S → Prop) (Bk : Int32 → Int32 → ab_S → Prop) (x1 : Int32) (x2 : Int32) (σ : ab_S) : Prop := ((x2 < 0) → Q x1 σ) ∧ (¬ (x2 < 0) → ∃ n, wX12_turning_l15 Q E (wX12_turning_j53 Q E Bk) n x1 x2 (0 : Int32) σ)
def wX12_turning_l9 (Q : Int32 → ab_S → Prop) (E : String → ab_S → Prop) : Nat → Int32 → Int32 → ab_S → Prop
  | 0, _, _, _ => False
  | n + 1, x1, x2, σ => wX12_turning_l9_b Q E (wX12_turning_l9 Q E n) x1 x2 σ
def wX12_turning  (Q : Int32 → ab_S → Prop) (E : String → ab_S → Prop) (σ : ab_S) : Prop := ∀ v3 : Int32, v3 = ((σ.2.1 92 14) - (1 : Int32)) → ∃ n, wX12_turning_l9 Q E n (-1 : Int32) v3 σ
set_option maxHeartbeats 4000000 in
set_option maxRecDepth 100000 in
theorem ceX12_turning {l : Launch} (hl : l.stackTraces = false) (B : Nat)   {Q : Int32 → ab_S → Prop} {E : String → ab_S → Prop} {σ : ab_S} (hW : Wire σ) (h : wX12_turning  Q E σ) : ab_Mt l yX12_turning mdX12_turning B 0 0 0 0 [.ref 92] σ (fun v σ' => Wire σ' ∧ ∃ r : Int32, v = some (.int r) ∧ Q r σ') (fun X σ' => Wire σ' ∧ E X σ') := by
  refine V_met hl ⟨rfl, rfl, by decide⟩ rfl dkX12_turning (Nat.le_of_ble_eq_true rfl) ?_
  show V l mdX12_turning B 0 0 0 0 (ab_End _ _) 0 [(0, .ref 92)] [] σ
  revert h hW
  revert σ
  have k_l9 : ∀ (n : Nat) (x1 : Int32) (x2 : Int32)  (σ : ab_S), Wire σ → wX12_turning_l9 Q E n x1 x2 σ → V l mdX12_turning B 0 0 0 0 (ab_End (fun v σ' => Wire σ' ∧ ∃ r : Int32, v = some (.int r) ∧ Q r σ') (fun X σ' => Wire σ' ∧ E X σ')) 9 [(0, .ref 92), (1, .int x1), (2, .int x2)] [] σ := by
    have step : ∀ (Bk : Int32 → Int32 → ab_S → Prop) (k_Bk : ∀ (x1 : Int32) (x2 : Int32)  (σ : ab_S), Wire σ → Bk x1 x2 σ → V l mdX12_turning B 0 0 0 0 (ab_End (fun v σ' => Wire σ' ∧ ∃ r : Int32, v = some (.int r) ∧ Q r σ') (fun X σ' => Wire σ' ∧ E X σ')) 9 [(0, .ref 92), (1, .int x1), (2, .int x2)] [] σ), ∀ (x1 : Int32) (x2 : Int32)  (σ : ab_S), Wire σ → wX12_turning_l9_b Q E Bk x1 x2 σ → V l mdX12_turning B 0 0 0 0 (ab_End (fun v σ' => Wire σ' ∧ ∃ r : Int32, v = some (.int r) ∧ Q r σ') (fun X σ' => Wire σ' ∧ E X σ')) 9 [(0, .ref 92), (1, .int x1), (2, .int x2)] [] σ := by
      intro Bk k_Bk
      have k_j53 : ∀ (x1 : Int32) (x2 : Int32)  (σ : ab_S), Wire σ → wX12_turning_j53 Q E Bk x1 x2 σ → V l mdX12_turning B 0 0 0 0 (ab_End (fun v σ' => Wire σ' ∧ ∃ r : Int32, v = some (.int r) ∧ Q r σ') (fun X σ' => Wire σ' ∧ E X σ')) 53 [(0, .ref 92), (1, .int x1), (2, .int x2)] [] σ := by
        intro x1 x2  σ hW h
        obtain ⟨v1, ev1⟩ : ∃ z : Int32, z = (x2 - 1) := ⟨_, rfl⟩
        replace h := h v1 ev1
        refine V_iinc 35 2 (v := v1) (lv' := [(2, .int v1), (0, .ref 92), (1, .int x1)]) rfl rfl ((in_m1 _).trans ev1.symm) (by decide) rfl ?_
        refine V_goto 36 (tgt := 9) rfl (by decide) ?_
        refine V_sub [1, 2, 0] (lv' := [(0, .ref 92), (1, .int x1), (2, .int v1)]) rfl ?_
        exact k_Bk x1 v1  σ hW h
      have k_l15 : ∀ (n : Nat) (x1 : Int32) (x2 : Int32) (x3 : Int32)  (σ : ab_S), Wire σ → wX12_turning_l15 Q E (wX12_turning_j53 Q E Bk) n x1 x2 x3 σ → V l mdX12_turning B 0 0 0 0 (ab_End (fun v σ' => Wire σ' ∧ ∃ r : Int32, v = some (.int r) ∧ Q r σ') (fun X σ' => Wire σ' ∧ E X σ')) 15 [(0, .ref 92), (1, .int x1), (2, .int x2), (3, .int x3)] [] σ := by
        have step : ∀ (K53 : Int32 → Int32 → ab_S → Prop) (k_K53 : ∀ (x1 : Int32) (x2 : Int32)  (σ : ab_S), Wire σ → K53 x1 x2 σ → V l mdX12_turning B 0 0 0 0 (ab_End (fun v σ' => Wire σ' ∧ ∃ r : Int32, v = some (.int r) ∧ Q r σ') (fun X σ' => Wire σ' ∧ E X σ')) 53 [(0, .ref 92), (1, .int x1), (2, .int x2)] [] σ), ∀ (Bk : Int32 → Int32 → Int32 → ab_S → Prop) (k_Bk : ∀ (x1 : Int32) (x2 : Int32) (x3 : Int32)  (σ : ab_S), Wire σ → Bk x1 x2 x3 σ → V l mdX12_turning B 0 0 0 0 (ab_End (fun v σ' => Wire σ' ∧ ∃ r : Int32, v = some (.int r) ∧ Q r σ') (fun X σ' => Wire σ' ∧ E X σ')) 15 [(0, .ref 92), (1, .int x1), (2, .int x2), (3, .int x3)] [] σ), ∀ (x1 : Int32) (x2 : Int32) (x3 : Int32)  (σ : ab_S), Wire σ → wX12_turning_l15_b Q E K53 Bk x1 x2 x3 σ → V l mdX12_turning B 0 0 0 0 (ab_End (fun v σ' => Wire σ' ∧ ∃ r : Int32, v = some (.int r) ∧ Q r σ') (fun X σ' => Wire σ' ∧ E X σ')) 15 [(0, .ref 92), (1, .int x1), (2, .int x2), (3, .int x3)] [] σ := by
          intro K53 k_K53 Bk k_Bk
          have k_j46 : ∀ (x2 : Int32) (x3 : Int32) (y0 : Int32)  (σ : ab_S), Wire σ → wX12_turning_j46 Q E K53 Bk x2 x3 y0 σ → V l mdX12_turning B 0 0 0 0 (ab_End (fun v σ' => Wire σ' ∧ ∃ r : Int32, v = some (.int r) ∧ Q r σ') (fun X σ' => Wire σ' ∧ E X σ')) 46 [(0, .ref 92), (2, .int x2), (3, .int x3)] [.int y0] σ := by
            intro x2 x3 y0  σ hW h
            refine V_istore_n 32 (lv' := [(1, .int y0), (0, .ref 92), (2, .int x2), (3, .int x3)]) rfl rfl (by decide) rfl ?_
            obtain ⟨v2, ev2⟩ : ∃ z : Int32, z = (x3 + 1) := ⟨_, rfl⟩
            replace h := h v2 ev2
            refine V_iinc 33 3 (v := v2) (lv' := [(3, .int v2), (1, .int y0), (0, .ref 92), (2, .int x2)]) rfl rfl ((in_1 _).trans ev2.symm) (by decide) rfl ?_
            refine V_goto 34 (tgt := 15) rfl (by decide) ?_
            refine V_sub [2, 1, 3, 0] (lv' := [(0, .ref 92), (1, .int y0), (2, .int x2), (3, .int v2)]) rfl ?_
            exact k_Bk y0 x2 v2  σ hW h
          intro x1 x2 x3  σ hW h
          refine V_iload_n 11 3 rfl rfl rfl ?_
          refine V_bipush 12 (v := (32 : Int32)) rfl (by decide) ?_
          refine V_icmp_ge 13 (tgt := 53) rfl (by decide) (fun hc => ?_) (fun hc => ?_)
          · replace h := h.1 hc
            refine V_sub [0, 1, 2] (lv' := [(0, .ref 92), (1, .int x1), (2, .int x2)]) rfl ?_
            exact k_K53 x1 x2  σ hW h
          · replace h := h.2 hc
            refine V_pc 21 rfl ?_
            refine V_aload_n 14 0 rfl rfl rfl ?_
            refine V_getR 15 24 rfl clX12 flX12_60 (by decide) (wsh hW rfl) (fun _ => rfl) (wrf hW 110 rfl) ?_
            refine V_bipush 16 (v := (32 : Int32)) rfl (by decide) ?_
            refine V_iload_n 17 2 rfl rfl rfl ?_
            refine V_imul 18 rfl ?_
            refine V_iload_n 19 3 rfl rfl rfl ?_
            refine V_pc 30 rfl ?_
            refine V_iadd 20 rfl ?_
            obtain ⟨hin, h⟩ := h
            refine V_lald 21 rfl (wsh hW rfl) hin ?_
            refine V_iload_n 22 3 rfl rfl rfl ?_
            refine V_lshr 23 rfl ?_
            refine V_lconst 24 (v := (1 : Int64)) rfl (by decide) ?_
            refine V_land 25 rfl ?_
            refine V_pc 36 rfl ?_
            refine V_lconst 26 (v := (1 : Int64)) rfl (by decide) ?_
            refine V_lcmp 27 rfl ?_
            refine V_if_ne 28 (tgt := 45) rfl (by decide) (fun hc => ?_) (fun hc => ?_)
            · replace h := h.1 hc
              refine V_iload_n 31 1 rfl rfl rfl ?_
              refine V_sub [0, 2, 3] (lv' := [(0, .ref 92), (2, .int x2), (3, .int x3)]) rfl ?_
              exact k_j46 x2 x3 x1 σ hW h
            · replace h := h.2 hc
              refine V_pc 41 rfl ?_
              refine V_iload_n 29 2 rfl rfl rfl ?_
              refine V_goto 30 (tgt := 46) rfl (by decide) ?_
              refine V_sub [0, 2, 3] (lv' := [(0, .ref 92), (2, .int x2), (3, .int x3)]) rfl ?_
              exact k_j46 x2 x3 x2 σ hW h
        intro n
        induction n with
        | zero => intro x1 x2 x3  σ hW h; exact absurd h id
        | succ n ih => exact step _ k_j53 _ ih
      intro x1 x2  σ hW h
      refine V_iload_n 7 2 rfl rfl rfl ?_
      refine V_if_lt 8 (tgt := 59) rfl (by decide) (fun hc => ?_) (fun hc => ?_)
      · replace h := h.1 hc
        refine V_iload_n 37 1 rfl rfl rfl ?_
        exact V_iret 38 rfl rfl ⟨hW, _, rfl, h⟩
      · replace h := h.2 hc
        refine V_pc 13 rfl ?_
        refine V_iconst 9 (v := (0 : Int32)) rfl (by decide) ?_
        refine V_istore_n 10 (lv' := [(3, .int (0 : Int32)), (0, .ref 92), (1, .int x1), (2, .int x2)]) rfl rfl (by decide) rfl ?_
        refine V_sub [1, 2, 3, 0] (lv' := [(0, .ref 92), (1, .int x1), (2, .int x2), (3, .int (0 : Int32))]) rfl ?_
        obtain ⟨n, h⟩ := h
        exact k_l15 n x1 x2 (0 : Int32) σ hW h
    intro n
    induction n with
    | zero => intro x1 x2  σ hW h; exact absurd h id
    | succ n ih => exact step  _ ih
  intro σ hW h
  refine V_iconst 0 (v := (-1 : Int32)) rfl (by decide) ?_
  refine V_istore_n 1 (lv' := [(1, .int (-1 : Int32)), (0, .ref 92)]) rfl rfl (by decide) rfl ?_
  refine V_aload_n 2 1 rfl rfl rfl ?_
  refine V_get (v := .int (σ.2.1 92 14)) 3 14 rfl clX12 flX12_316 (by decide) (wsh hW rfl) (fun _ => rfl) ?_
  refine V_iconst 4 (v := (1 : Int32)) rfl (by decide) ?_
  refine V_isub 5 rfl ?_
  refine V_pc 8 rfl ?_
  refine V_topi (fun v3 ev3 => ?_)
  replace h := h v3 ev3
  refine V_istore_n 6 (lv' := [(2, .int v3), (1, .int (-1 : Int32)), (0, .ref 92)]) rfl rfl (by decide) rfl ?_
  refine V_sub [2, 1, 0] (lv' := [(0, .ref 92), (1, .int (-1 : Int32)), (2, .int v3)]) rfl ?_
  obtain ⟨n, h⟩ := h
  exact k_l9 n (-1 : Int32) v3 σ hW h

def wX12_mayHave_j79 (a0 : Int32) (a1 : Int32) (Q : Int32 → ab_S → Prop) (E : String → ab_S → Prop) (Bk : Int32 → Int32 → ab_S → Prop) (x4 : Int32) (y0 : Int32) (σ : ab_S) : Prop := ∀ v1 : Int32, v1 = (x4 + 1) → Bk y0 v1 σ
def wX12_mayHave_j74 (a0 : Int32) (a1 : Int32) (Q : Int32 → ab_S → Prop) (E : String → ab_S → Prop) (Bk : Int32 → Int32 → ab_S → Prop) (x4 : Int32) (σ : ab_S) : Prop := wX12_mayHave_j79 a0 a1 Q E Bk x4 (1 : Int32) σ
def wX12_mayHave_j78 (a0 : Int32) (a1 : Int32) (Q : Int32 → ab_S → Prop) (E : String → ab_S → Prop) (Bk : Int32 → Int32 → ab_S → Prop) (x4 : Int32) (σ : ab_S) : Prop := wX12_mayHave_j79 a0 a1 Q E Bk x4 (0 : Int32) σ
def wX12_mayHave_l23_b (a0 : Int32) (a1 : Int32) (Q : Int32 → ab_S → Prop) (E : String → ab_S → Prop) (Bk : Int32 → Int32 → ab_S → Prop) (x3 : Int32) (x4 : Int32) (σ : ab_S) : Prop := vp_in a0 13 ∧ ((((σ.2.1 99 a0.toNatClampNeg) ≤ x4) → (x3 = 0 ∨ x3 = 1) ∧ Q x3 σ) ∧ (¬ ((σ.2.1 99 a0.toNatClampNeg) ≤ x4) → ((x3 = 0) → wX12_mayHave_j78 a0 a1 Q E Bk x4 σ) ∧ (¬ (x3 = 0) → vp_in (((8 : Int32) * a0) + x4) 104 ∧ ((((lg_cmp (((σ.2.2.1 110 (((8 : Int32) * a0) + x4).toNatClampNeg) >>> (a1.toInt64 &&& 63)) &&& (1 : Int64)) (0 : Int64)) = 0) → wX12_mayHave_j74 a0 a1 Q E Bk x4 σ) ∧ (¬ ((lg_cmp (((σ.2.2.1 110 (((8 : Int32) * a0) + x4).toNatClampNeg) >>> (a1.toInt64 &&& 63)) &&& (1 : Int64)) (0 : Int64)) = 0) → vp_in (((8 : Int32) * a0) + x4) 104 ∧ ((((σ.2.1 111 (((8 : Int32) * a0) + x4).toNatClampNeg) ≤ 0) → wX12_mayHave_j78 a0 a1 Q E Bk x4 σ) ∧ (¬ ((σ.2.1 111 (((8 : Int32) * a0) + x4).toNatClampNeg) ≤ 0) → wX12_mayHave_j74 a0 a1 Q E Bk x4 σ)))))))
def wX12_mayHave_l23 (a0 : Int32) (a1 : Int32) (Q : Int32 → ab_S → Prop) (E : String → ab_S → Prop) : Nat → Int32 → Int32 → ab_S → Prop
  | 0, _, _, _ => False
  | n + 1, x3, x4, σ => wX12_mayHave_l23_b a0 a1 Q E (wX12_mayHave_l23 a0 a1 Q E n) x3 x4 σ
def wX12_mayHave_j19 (a0 : Int32) (a1 : Int32) (Q : Int32 → ab_S → Prop) (E : String → ab_S → Prop) (y0 : Int32) (σ : ab_S) : Prop := ∃ n, wX12_mayHave_l23 a0 a1 Q E n y0 (0 : Int32) σ
def wX12_mayHave (a0 : Int32) (a1 : Int32) (Q : Int32 → ab_S → Prop) (E : String → ab_S → Prop) (σ : ab_S) : Prop := vp_in (((8 : Int32) * a0) + a1) 104 ∧ (((¬ (σ.2.1 111 (((8 : Int32) * a0) + a1).toNatClampNeg) = 0) → wX12_mayHave_j19 a0 a1 Q E (0 : Int32) σ) ∧ (¬ (¬ (σ.2.1 111 (((8 : Int32) * a0) + a1).toNatClampNeg) = 0) → wX12_mayHave_j19 a0 a1 Q E (1 : Int32) σ))
set_option maxHeartbeats 4000000 in
set_option maxRecDepth 100000 in
theorem ceX12_mayHave {l : Launch} (hl : l.stackTraces = false) (B : Nat) {a0 : Int32} {a1 : Int32}  {Q : Int32 → ab_S → Prop} {E : String → ab_S → Prop} {σ : ab_S} (hW : Wire σ) (h : wX12_mayHave a0 a1 Q E σ) : ab_Mt l yX12_mayHave mdX12_mayHave B 0 0 0 0 [.ref 92, .int a0, .int a1] σ (fun v σ' => Wire σ' ∧ ∃ r : Int32, v = some (.int r) ∧ Q r σ') (fun X σ' => Wire σ' ∧ E X σ') := by
  refine V_met hl ⟨rfl, rfl, by decide⟩ rfl dkX12_mayHave (Nat.le_of_ble_eq_true rfl) ?_
  show V l mdX12_mayHave B 0 0 0 0 (ab_End _ _) 0 [(0, .ref 92), (1, .int a0), (2, .int a1)] [] σ
  revert h hW
  revert σ
  have k_l23 : ∀ (n : Nat) (x3 : Int32) (x4 : Int32)  (σ : ab_S), Wire σ → wX12_mayHave_l23 a0 a1 Q E n x3 x4 σ → V l mdX12_mayHave B 0 0 0 0 (ab_End (fun v σ' => Wire σ' ∧ ∃ r : Int32, v = some (.int r) ∧ Q r σ') (fun X σ' => Wire σ' ∧ E X σ')) 23 [(0, .ref 92), (1, .int a0), (2, .int a1), (3, .int x3), (4, .int x4)] [] σ := by
    have step : ∀ (Bk : Int32 → Int32 → ab_S → Prop) (k_Bk : ∀ (x3 : Int32) (x4 : Int32)  (σ : ab_S), Wire σ → Bk x3 x4 σ → V l mdX12_mayHave B 0 0 0 0 (ab_End (fun v σ' => Wire σ' ∧ ∃ r : Int32, v = some (.int r) ∧ Q r σ') (fun X σ' => Wire σ' ∧ E X σ')) 23 [(0, .ref 92), (1, .int a0), (2, .int a1), (3, .int x3), (4, .int x4)] [] σ), ∀ (x3 : Int32) (x4 : Int32)  (σ : ab_S), Wire σ → wX12_mayHave_l23_b a0 a1 Q E Bk x3 x4 σ → V l mdX12_mayHave B 0 0 0 0 (ab_End (fun v σ' => Wire σ' ∧ ∃ r : Int32, v = some (.int r) ∧ Q r σ') (fun X σ' => Wire σ' ∧ E X σ')) 23 [(0, .ref 92), (1, .int a0), (2, .int a1), (3, .int x3), (4, .int x4)] [] σ := by
      intro Bk k_Bk
      have k_j79 : ∀ (x4 : Int32) (y0 : Int32)  (σ : ab_S), Wire σ → wX12_mayHave_j79 a0 a1 Q E Bk x4 y0 σ → V l mdX12_mayHave B 0 0 0 0 (ab_End (fun v σ' => Wire σ' ∧ ∃ r : Int32, v = some (.int r) ∧ Q r σ') (fun X σ' => Wire σ' ∧ E X σ')) 79 [(0, .ref 92), (1, .int a0), (2, .int a1), (4, .int x4)] [.int y0] σ := by
        intro x4 y0  σ hW h
        refine V_istore_n 50 (lv' := [(3, .int y0), (0, .ref 92), (1, .int a0), (2, .int a1), (4, .int x4)]) rfl rfl (by decide) rfl ?_
        obtain ⟨v1, ev1⟩ : ∃ z : Int32, z = (x4 + 1) := ⟨_, rfl⟩
        replace h := h v1 ev1
        refine V_iinc 51 4 (v := v1) (lv' := [(4, .int v1), (3, .int y0), (0, .ref 92), (1, .int a0), (2, .int a1)]) rfl rfl ((in_1 _).trans ev1.symm) (by decide) rfl ?_
        refine V_goto 52 (tgt := 23) rfl (by decide) ?_
        refine V_sub [2, 3, 4, 1, 0] (lv' := [(0, .ref 92), (1, .int a0), (2, .int a1), (3, .int y0), (4, .int v1)]) rfl ?_
        exact k_Bk y0 v1  σ hW h
      have k_j74 : ∀ (x4 : Int32)  (σ : ab_S), Wire σ → wX12_mayHave_j74 a0 a1 Q E Bk x4 σ → V l mdX12_mayHave B 0 0 0 0 (ab_End (fun v σ' => Wire σ' ∧ ∃ r : Int32, v = some (.int r) ∧ Q r σ') (fun X σ' => Wire σ' ∧ E X σ')) 74 [(0, .ref 92), (1, .int a0), (2, .int a1), (4, .int x4)] [] σ := by
        intro x4  σ hW h
        refine V_iconst 47 (v := (1 : Int32)) rfl (by decide) ?_
        refine V_goto 48 (tgt := 79) rfl (by decide) ?_
        exact k_j79 x4 (1 : Int32) σ hW h
      have k_j78 : ∀ (x4 : Int32)  (σ : ab_S), Wire σ → wX12_mayHave_j78 a0 a1 Q E Bk x4 σ → V l mdX12_mayHave B 0 0 0 0 (ab_End (fun v σ' => Wire σ' ∧ ∃ r : Int32, v = some (.int r) ∧ Q r σ') (fun X σ' => Wire σ' ∧ E X σ')) 78 [(0, .ref 92), (1, .int a0), (2, .int a1), (4, .int x4)] [] σ := by
        intro x4  σ hW h
        refine V_iconst 49 (v := (0 : Int32)) rfl (by decide) ?_
        exact k_j79 x4 (0 : Int32) σ hW h
      intro x3 x4  σ hW h
      refine V_iload 15 4 rfl rfl ?_
      refine V_aload_n 16 0 rfl rfl rfl ?_
      refine V_getR 17 12 rfl clX12 flX12_29 (by decide) (wsh hW rfl) (fun _ => rfl) (wrf hW 100 rfl) ?_
      refine V_iload_n 18 1 rfl rfl rfl ?_
      obtain ⟨hin, h⟩ := h
      refine V_iald 19 rfl (wsh hW rfl) hin ?_
      refine V_icmp_ge 20 (tgt := 86) rfl (by decide) (fun hc => ?_) (fun hc => ?_)
      · replace h := h.1 hc
        refine V_iload_n 53 3 rfl rfl rfl ?_
        exact V_zret 54 rfl rfl (nb1 h.1) ⟨hW, _, rfl, h.2⟩
      · replace h := h.2 hc
        refine V_pc 34 rfl ?_
        refine V_iload_n 21 3 rfl rfl rfl ?_
        refine V_if_eq 22 (tgt := 78) rfl (by decide) (fun hc => ?_) (fun hc => ?_)
        · replace h := h.1 hc
          refine V_sub [0, 1, 2, 4] (lv' := [(0, .ref 92), (1, .int a0), (2, .int a1), (4, .int x4)]) rfl ?_
          exact k_j78 x4 σ hW h
        · replace h := h.2 hc
          refine V_pc 38 rfl ?_
          refine V_aload_n 23 0 rfl rfl rfl ?_
          refine V_getR 24 25 rfl clX12 flX12_63 (by decide) (wsh hW rfl) (fun _ => rfl) (wrf hW 111 rfl) ?_
          refine V_bipush 25 (v := (8 : Int32)) rfl (by decide) ?_
          refine V_iload_n 26 1 rfl rfl rfl ?_
          refine V_imul 27 rfl ?_
          refine V_iload 28 4 rfl rfl ?_
          refine V_pc 48 rfl ?_
          refine V_iadd 29 rfl ?_
          obtain ⟨hin, h⟩ := h
          refine V_lald 30 rfl (wsh hW rfl) hin ?_
          refine V_iload_n 31 2 rfl rfl rfl ?_
          refine V_lshr 32 rfl ?_
          refine V_lconst 33 (v := (1 : Int64)) rfl (by decide) ?_
          refine V_land 34 rfl ?_
          refine V_pc 54 rfl ?_
          refine V_lconst 35 (v := (0 : Int64)) rfl (by decide) ?_
          refine V_lcmp 36 rfl ?_
          refine V_if_eq 37 (tgt := 74) rfl (by decide) (fun hc => ?_) (fun hc => ?_)
          · replace h := h.1 hc
            refine V_sub [0, 1, 2, 4] (lv' := [(0, .ref 92), (1, .int a0), (2, .int a1), (4, .int x4)]) rfl ?_
            exact k_j74 x4 σ hW h
          · replace h := h.2 hc
            refine V_pc 59 rfl ?_
            refine V_aload_n 38 0 rfl rfl rfl ?_
            refine V_getR 39 26 rfl clX12 flX12_66 (by decide) (wsh hW rfl) (fun _ => rfl) (wrf hW 112 rfl) ?_
            refine V_bipush 40 (v := (8 : Int32)) rfl (by decide) ?_
            refine V_iload_n 41 1 rfl rfl rfl ?_
            refine V_imul 42 rfl ?_
            refine V_iload 43 4 rfl rfl ?_
            refine V_pc 69 rfl ?_
            refine V_iadd 44 rfl ?_
            obtain ⟨hin, h⟩ := h
            refine V_iald 45 rfl (wsh hW rfl) hin ?_
            refine V_if_le 46 (tgt := 78) rfl (by decide) (fun hc => ?_) (fun hc => ?_)
            · replace h := h.1 hc
              refine V_sub [0, 1, 2, 4] (lv' := [(0, .ref 92), (1, .int a0), (2, .int a1), (4, .int x4)]) rfl ?_
              exact k_j78 x4 σ hW h
            · replace h := h.2 hc
              refine V_pc 74 rfl ?_
              refine V_sub [0, 1, 2, 4] (lv' := [(0, .ref 92), (1, .int a0), (2, .int a1), (4, .int x4)]) rfl ?_
              exact k_j74 x4 σ hW h
    intro n
    induction n with
    | zero => intro x3 x4  σ hW h; exact absurd h id
    | succ n ih => exact step  _ ih
  have k_j19 : ∀ (y0 : Int32)  (σ : ab_S), Wire σ → wX12_mayHave_j19 a0 a1 Q E y0 σ → V l mdX12_mayHave B 0 0 0 0 (ab_End (fun v σ' => Wire σ' ∧ ∃ r : Int32, v = some (.int r) ∧ Q r σ') (fun X σ' => Wire σ' ∧ E X σ')) 19 [(0, .ref 92), (1, .int a0), (2, .int a1)] [.int y0] σ := by
    intro y0  σ hW h
    refine V_istore_n 12 (lv' := [(3, .int y0), (0, .ref 92), (1, .int a0), (2, .int a1)]) rfl rfl (by decide) rfl ?_
    refine V_iconst 13 (v := (0 : Int32)) rfl (by decide) ?_
    refine V_istore 14 (lv' := [(4, .int (0 : Int32)), (3, .int y0), (0, .ref 92), (1, .int a0), (2, .int a1)]) rfl (by decide) rfl ?_
    refine V_sub [2, 3, 4, 1, 0] (lv' := [(0, .ref 92), (1, .int a0), (2, .int a1), (3, .int y0), (4, .int (0 : Int32))]) rfl ?_
    obtain ⟨n, h⟩ := h
    exact k_l23 n y0 (0 : Int32) σ hW h
  intro σ hW h
  refine V_aload_n 0 0 rfl rfl rfl ?_
  refine V_getR 1 26 rfl clX12 flX12_66 (by decide) (wsh hW rfl) (fun _ => rfl) (wrf hW 112 rfl) ?_
  refine V_bipush 2 (v := (8 : Int32)) rfl (by decide) ?_
  refine V_iload_n 3 1 rfl rfl rfl ?_
  refine V_imul 4 rfl ?_
  refine V_iload_n 5 2 rfl rfl rfl ?_
  refine V_pc 9 rfl ?_
  refine V_iadd 6 rfl ?_
  obtain ⟨hin, h⟩ := h
  refine V_iald 7 rfl (wsh hW rfl) hin ?_
  refine V_if_ne 8 (tgt := 18) rfl (by decide) (fun hc => ?_) (fun hc => ?_)
  · replace h := h.1 hc
    refine V_iconst 11 (v := (0 : Int32)) rfl (by decide) ?_
    exact k_j19 (0 : Int32) σ hW h
  · replace h := h.2 hc
    refine V_pc 14 rfl ?_
    refine V_iconst 9 (v := (1 : Int32)) rfl (by decide) ?_
    refine V_goto 10 (tgt := 19) rfl (by decide) ?_
    exact k_j19 (1 : Int32) σ hW h

def wX12_giveLevels_j175 (a0 : Int32) (Q : ab_S → Prop) (E : String → ab_S → Prop) (y0 : Int32) (σ : ab_S) : Prop := vp_in a0 13 ∧ (∀ σ1 : ab_S, σ1 = ab_I σ 112 a0.toNatClampNeg y0 → Q σ1)
def wX12_giveLevels_j157 (a0 : Int32) (Q : ab_S → Prop) (E : String → ab_S → Prop) (x3 : Int32) (σ : ab_S) : Prop := ((¬ x3 = 0) → wX12_giveLevels_j175 a0 Q E ((x3 + (1 : Int32)) / (2 : Int32)) σ) ∧ (¬ (¬ x3 = 0) → wX12_giveLevels_j175 a0 Q E (1 : Int32) σ)
def wX12_giveLevels_j151 (a0 : Int32) (Q : ab_S → Prop) (E : String → ab_S → Prop) (K157 : Int32 → ab_S → Prop) (Bk : Int32 → Int32 → Int32 → ab_S → Prop) (x2 : Int32) (x3 : Int32) (x4 : Int32) (σ : ab_S) : Prop := ∀ v2 : Int32, v2 = (x4 + 1) → Bk x2 x3 v2 σ
def wX12_giveLevels_j148 (a0 : Int32) (Q : ab_S → Prop) (E : String → ab_S → Prop) (K151 : Int32 → Int32 → Int32 → ab_S → Prop) (Bk : Int32 → Int32 → Int32 → Int32 → ab_S → Prop) (x2 : Int32) (x3 : Int32) (x4 : Int32) (x5 : Int32) (σ : ab_S) : Prop := Bk x2 x3 x4 x5 σ
def wX12_giveLevels_j142 (a0 : Int32) (Q : ab_S → Prop) (E : String → ab_S → Prop) (K148 : Int32 → Int32 → Int32 → Int32 → ab_S → Prop) (Bk : Int32 → Int32 → Int32 → Int32 → Int32 → ab_S → Prop) (x2 : Int32) (x3 : Int32) (x4 : Int32) (x5 : Int32) (x6 : Int32) (σ : ab_S) : Prop := ∀ v3 : Int32, v3 = (x6 + 1) → Bk x2 x3 x4 x5 v3 σ
def wX12_giveLevels_j106 (a0 : Int32) (Q : ab_S → Prop) (E : String → ab_S → Prop) (K148 : Int32 → Int32 → Int32 → Int32 → ab_S → Prop) (Bk : Int32 → Int32 → Int32 → Int32 → Int32 → ab_S → Prop) (x2 : Int32) (x3 : Int32) (x4 : Int32) (x5 : Int32) (x6 : Int32) (y0 : Int32) (y1 : Int32) (σ : ab_S) : Prop := ((¬ y1 = y0) → wX12_giveLevels_j142 a0 Q E K148 Bk x2 x3 x4 x5 x6 σ) ∧ (¬ (¬ y1 = y0) → wX12_mayHave a0 x6 (fun u5 σ4 => ((u5 = 0) → wX12_giveLevels_j142 a0 Q E K148 Bk x2 x3 x4 x5 x6 σ4) ∧ (¬ (u5 = 0) → vp_in (((8 : Int32) * a0) + x6) 104 ∧ (∀ σ6 : ab_S, σ6 = ab_I σ4 111 (((8 : Int32) * a0) + x6).toNatClampNeg x4 → ∀ v7 : Int32, v7 = (x2 - 1) → wX12_giveLevels_j142 a0 Q E K148 Bk v7 x4 x4 (1 : Int32) x6 σ6))) E σ)
def wX12_giveLevels_j90 (a0 : Int32) (Q : ab_S → Prop) (E : String → ab_S → Prop) (K148 : Int32 → Int32 → Int32 → Int32 → ab_S → Prop) (Bk : Int32 → Int32 → Int32 → Int32 → Int32 → ab_S → Prop) (x2 : Int32) (x3 : Int32) (x4 : Int32) (x5 : Int32) (x6 : Int32) (y0 : Int32) (σ : ab_S) : Prop := ((¬ (x4 - x4 / (2 : Int32) * (2 : Int32)) = 0) → wX12_giveLevels_j106 a0 Q E K148 Bk x2 x3 x4 x5 x6 (0 : Int32) y0 σ) ∧ (¬ (¬ (x4 - x4 / (2 : Int32) * (2 : Int32)) = 0) → wX12_giveLevels_j106 a0 Q E K148 Bk x2 x3 x4 x5 x6 (1 : Int32) y0 σ)
def wX12_giveLevels_l59_b (a0 : Int32) (Q : ab_S → Prop) (E : String → ab_S → Prop) (K148 : Int32 → Int32 → Int32 → Int32 → ab_S → Prop) (Bk : Int32 → Int32 → Int32 → Int32 → Int32 → ab_S → Prop) (x2 : Int32) (x3 : Int32) (x4 : Int32) (x5 : Int32) (x6 : Int32) (σ : ab_S) : Prop := vp_in a0 13 ∧ ((((σ.2.1 99 a0.toNatClampNeg) ≤ x6) → K148 x2 x3 x4 x5 σ) ∧ (¬ ((σ.2.1 99 a0.toNatClampNeg) ≤ x6) → vp_in a0 13 ∧ (((¬ (((σ.2.1 100 a0.toNatClampNeg) >>> (x6 &&& 31)) &&& (1 : Int32)) = (1 : Int32)) → wX12_giveLevels_j90 a0 Q E K148 Bk x2 x3 x4 x5 x6 (0 : Int32) σ) ∧ (¬ (¬ (((σ.2.1 100 a0.toNatClampNeg) >>> (x6 &&& 31)) &&& (1 : Int32)) = (1 : Int32)) → wX12_giveLevels_j90 a0 Q E K148 Bk x2 x3 x4 x5 x6 (1 : Int32) σ))))
def wX12_giveLevels_l59 (a0 : Int32) (Q : ab_S → Prop) (E : String → ab_S → Prop) (K148 : Int32 → Int32 → Int32 → Int32 → ab_S → Prop) : Nat → Int32 → Int32 → Int32 → Int32 → Int32 → ab_S → Prop
  | 0, _, _, _, _, _, _ => False
  | n + 1, x2, x3, x4, x5, x6, σ => wX12_giveLevels_l59_b a0 Q E K148 (wX12_giveLevels_l59 a0 Q E K148 n) x2 x3 x4 x5 x6 σ
def wX12_giveLevels_l48_b (a0 : Int32) (Q : ab_S → Prop) (E : String → ab_S → Prop) (K151 : Int32 → Int32 → Int32 → ab_S → Prop) (Bk : Int32 → Int32 → Int32 → Int32 → ab_S → Prop) (x2 : Int32) (x3 : Int32) (x4 : Int32) (x5 : Int32) (σ : ab_S) : Prop := ((x5 = 0) → K151 x2 x3 x4 σ) ∧ (¬ (x5 = 0) → ∃ n, wX12_giveLevels_l59 a0 Q E (wX12_giveLevels_j148 a0 Q E K151 Bk) n x2 x3 x4 (0 : Int32) (0 : Int32) σ)
def wX12_giveLevels_l48 (a0 : Int32) (Q : ab_S → Prop) (E : String → ab_S → Prop) (K151 : Int32 → Int32 → Int32 → ab_S → Prop) : Nat → Int32 → Int32 → Int32 → Int32 → ab_S → Prop
  | 0, _, _, _, _, _ => False
  | n + 1, x2, x3, x4, x5, σ => wX12_giveLevels_l48_b a0 Q E K151 (wX12_giveLevels_l48 a0 Q E K151 n) x2 x3 x4 x5 σ
def wX12_giveLevels_l41_b (a0 : Int32) (Q : ab_S → Prop) (E : String → ab_S → Prop) (K157 : Int32 → ab_S → Prop) (Bk : Int32 → Int32 → Int32 → ab_S → Prop) (x2 : Int32) (x3 : Int32) (x4 : Int32) (σ : ab_S) : Prop := ((x2 ≤ 0) → K157 x3 σ) ∧ (¬ (x2 ≤ 0) → ∃ n, wX12_giveLevels_l48 a0 Q E (wX12_giveLevels_j151 a0 Q E K157 Bk) n x2 x3 x4 (1 : Int32) σ)
def wX12_giveLevels_l41 (a0 : Int32) (Q : ab_S → Prop) (E : String → ab_S → Prop) (K157 : Int32 → ab_S → Prop) : Nat → Int32 → Int32 → Int32 → ab_S → Prop
  | 0, _, _, _, _ => False
  | n + 1, x2, x3, x4, σ => wX12_giveLevels_l41_b a0 Q E K157 (wX12_giveLevels_l41 a0 Q E K157 n) x2 x3 x4 σ
def wX12_giveLevels_j38 (a0 : Int32) (Q : ab_S → Prop) (E : String → ab_S → Prop) (x2 : Int32) (x3 : Int32) (σ : ab_S) : Prop := ∃ n, wX12_giveLevels_l41 a0 Q E (wX12_giveLevels_j157 a0 Q E) n x2 x3 (1 : Int32) σ
def wX12_giveLevels_l12_b (a0 : Int32) (Q : ab_S → Prop) (E : String → ab_S → Prop) (K38 : Int32 → Int32 → ab_S → Prop) (Bk : Int32 → Int32 → Int32 → ab_S → Prop) (x2 : Int32) (x3 : Int32) (x4 : Int32) (σ : ab_S) : Prop := (((8 : Int32) ≤ x4) → K38 x2 x3 σ) ∧ (¬ ((8 : Int32) ≤ x4) → vp_in (((8 : Int32) * a0) + x4) 104 ∧ (∀ σ8 : ab_S, σ8 = ab_I σ 111 (((8 : Int32) * a0) + x4).toNatClampNeg (0 : Int32) → ∀ v9 : Int32, v9 = (x4 + 1) → Bk x2 x3 v9 σ8))
def wX12_giveLevels_l12 (a0 : Int32) (Q : ab_S → Prop) (E : String → ab_S → Prop) (K38 : Int32 → Int32 → ab_S → Prop) : Nat → Int32 → Int32 → Int32 → ab_S → Prop
  | 0, _, _, _, _ => False
  | n + 1, x2, x3, x4, σ => wX12_giveLevels_l12_b a0 Q E K38 (wX12_giveLevels_l12 a0 Q E K38 n) x2 x3 x4 σ
def wX12_giveLevels (a0 : Int32) (Q : ab_S → Prop) (E : String → ab_S → Prop) (σ : ab_S) : Prop := vp_in a0 13 ∧ (∀ v10 : Int32, v10 = (σ.2.1 99 a0.toNatClampNeg) → ∃ n, wX12_giveLevels_l12 a0 Q E (wX12_giveLevels_j38 a0 Q E) n v10 (0 : Int32) (0 : Int32) σ)
set_option maxHeartbeats 4000000 in
set_option maxRecDepth 100000 in
theorem ceX12_giveLevels {l : Launch} (hl : l.stackTraces = false) (B : Nat) {a0 : Int32}  {Q : ab_S → Prop} {E : String → ab_S → Prop} {σ : ab_S} (hW : Wire σ) (h : wX12_giveLevels a0 Q E σ) : ab_Mt l yX12_giveLevels mdX12_giveLevels B 1 24 0 0 [.ref 92, .int a0] σ (fun v σ' => Wire σ' ∧ v = none ∧ Q σ') (fun X σ' => Wire σ' ∧ E X σ') := by
  refine V_met hl ⟨rfl, rfl, by decide⟩ rfl dkX12_giveLevels (Nat.le_of_ble_eq_true rfl) ?_
  show V l mdX12_giveLevels B 1 24 0 0 (ab_End _ _) 0 [(0, .ref 92), (1, .int a0)] [] σ
  revert h hW
  revert σ
  have k_j175 : ∀ (y0 : Int32)  (σ : ab_S), Wire σ → wX12_giveLevels_j175 a0 Q E y0 σ → V l mdX12_giveLevels B 1 24 0 0 (ab_End (fun v σ' => Wire σ' ∧ v = none ∧ Q σ') (fun X σ' => Wire σ' ∧ E X σ')) 175 [] [.int y0, .int a0, .ref 112] σ := by
    intro y0  σ hW h
    obtain ⟨hin, h⟩ := h
    refine V_iast 100 rfl (wsh hW rfl) hin ?_
    refine V_nm (fun σ1 eσ1 => ?_)
    replace h := h σ1 eσ1
    have hW := wire_I eσ1 hW
    exact V_vret 101 rfl rfl ⟨hW, rfl, h⟩
  have k_j157 : ∀ (x3 : Int32)  (σ : ab_S), Wire σ → wX12_giveLevels_j157 a0 Q E x3 σ → V l mdX12_giveLevels B 1 24 0 0 (ab_End (fun v σ' => Wire σ' ∧ v = none ∧ Q σ') (fun X σ' => Wire σ' ∧ E X σ')) 157 [(0, .ref 92), (1, .int a0), (3, .int x3)] [] σ := by
    intro x3  σ hW h
    refine V_aload_n 88 0 rfl rfl rfl ?_
    refine V_getR 89 27 rfl clX12 flX12_69 (by decide) (wsh hW rfl) (fun _ => rfl) (wrf hW 113 rfl) ?_
    refine V_iload_n 90 1 rfl rfl rfl ?_
    refine V_iload_n 91 2 rfl rfl rfl ?_
    refine V_if_ne 92 (tgt := 170) rfl (by decide) (fun hc => ?_) (fun hc => ?_)
    · replace h := h.1 hc
      refine V_iload_n 95 2 rfl rfl rfl ?_
      refine V_iconst 96 (v := (1 : Int32)) rfl (by decide) ?_
      refine V_iadd 97 rfl ?_
      refine V_iconst 98 (v := (2 : Int32)) rfl (by decide) ?_
      refine V_idiv 99 rfl (by decide) ?_
      refine V_sub [] (lv' := []) rfl ?_
      exact k_j175 ((x3 + (1 : Int32)) / (2 : Int32)) σ hW h
    · replace h := h.2 hc
      refine V_pc 166 rfl ?_
      refine V_iconst 93 (v := (1 : Int32)) rfl (by decide) ?_
      refine V_goto 94 (tgt := 175) rfl (by decide) ?_
      refine V_sub [] (lv' := []) rfl ?_
      exact k_j175 (1 : Int32) σ hW h
  have k_l41 : ∀ (n : Nat) (x2 : Int32) (x3 : Int32) (x4 : Int32)  (σ : ab_S), Wire σ → wX12_giveLevels_l41 a0 Q E (wX12_giveLevels_j157 a0 Q E) n x2 x3 x4 σ → V l mdX12_giveLevels B 1 24 0 0 (ab_End (fun v σ' => Wire σ' ∧ v = none ∧ Q σ') (fun X σ' => Wire σ' ∧ E X σ')) 41 [(0, .ref 92), (1, .int a0), (2, .int x2), (3, .int x3), (4, .int x4)] [] σ := by
    have step : ∀ (K157 : Int32 → ab_S → Prop) (k_K157 : ∀ (x3 : Int32)  (σ : ab_S), Wire σ → K157 x3 σ → V l mdX12_giveLevels B 1 24 0 0 (ab_End (fun v σ' => Wire σ' ∧ v = none ∧ Q σ') (fun X σ' => Wire σ' ∧ E X σ')) 157 [(0, .ref 92), (1, .int a0), (3, .int x3)] [] σ), ∀ (Bk : Int32 → Int32 → Int32 → ab_S → Prop) (k_Bk : ∀ (x2 : Int32) (x3 : Int32) (x4 : Int32)  (σ : ab_S), Wire σ → Bk x2 x3 x4 σ → V l mdX12_giveLevels B 1 24 0 0 (ab_End (fun v σ' => Wire σ' ∧ v = none ∧ Q σ') (fun X σ' => Wire σ' ∧ E X σ')) 41 [(0, .ref 92), (1, .int a0), (2, .int x2), (3, .int x3), (4, .int x4)] [] σ), ∀ (x2 : Int32) (x3 : Int32) (x4 : Int32)  (σ : ab_S), Wire σ → wX12_giveLevels_l41_b a0 Q E K157 Bk x2 x3 x4 σ → V l mdX12_giveLevels B 1 24 0 0 (ab_End (fun v σ' => Wire σ' ∧ v = none ∧ Q σ') (fun X σ' => Wire σ' ∧ E X σ')) 41 [(0, .ref 92), (1, .int a0), (2, .int x2), (3, .int x3), (4, .int x4)] [] σ := by
      intro K157 k_K157 Bk k_Bk
      have k_j151 : ∀ (x2 : Int32) (x3 : Int32) (x4 : Int32)  (σ : ab_S), Wire σ → wX12_giveLevels_j151 a0 Q E K157 Bk x2 x3 x4 σ → V l mdX12_giveLevels B 1 24 0 0 (ab_End (fun v σ' => Wire σ' ∧ v = none ∧ Q σ') (fun X σ' => Wire σ' ∧ E X σ')) 151 [(0, .ref 92), (1, .int a0), (2, .int x2), (3, .int x3), (4, .int x4)] [] σ := by
        intro x2 x3 x4  σ hW h
        obtain ⟨v2, ev2⟩ : ∃ z : Int32, z = (x4 + 1) := ⟨_, rfl⟩
        replace h := h v2 ev2
        refine V_iinc 86 4 (v := v2) (lv' := [(4, .int v2), (0, .ref 92), (1, .int a0), (2, .int x2), (3, .int x3)]) rfl rfl ((in_1 _).trans ev2.symm) (by decide) rfl ?_
        refine V_goto 87 (tgt := 41) rfl (by decide) ?_
        refine V_sub [1, 2, 3, 4, 0] (lv' := [(0, .ref 92), (1, .int a0), (2, .int x2), (3, .int x3), (4, .int v2)]) rfl ?_
        exact k_Bk x2 x3 v2  σ hW h
      have k_l48 : ∀ (n : Nat) (x2 : Int32) (x3 : Int32) (x4 : Int32) (x5 : Int32)  (σ : ab_S), Wire σ → wX12_giveLevels_l48 a0 Q E (wX12_giveLevels_j151 a0 Q E K157 Bk) n x2 x3 x4 x5 σ → V l mdX12_giveLevels B 1 24 0 0 (ab_End (fun v σ' => Wire σ' ∧ v = none ∧ Q σ') (fun X σ' => Wire σ' ∧ E X σ')) 48 [(0, .ref 92), (1, .int a0), (2, .int x2), (3, .int x3), (4, .int x4), (5, .int x5)] [] σ := by
        have step : ∀ (K151 : Int32 → Int32 → Int32 → ab_S → Prop) (k_K151 : ∀ (x2 : Int32) (x3 : Int32) (x4 : Int32)  (σ : ab_S), Wire σ → K151 x2 x3 x4 σ → V l mdX12_giveLevels B 1 24 0 0 (ab_End (fun v σ' => Wire σ' ∧ v = none ∧ Q σ') (fun X σ' => Wire σ' ∧ E X σ')) 151 [(0, .ref 92), (1, .int a0), (2, .int x2), (3, .int x3), (4, .int x4)] [] σ), ∀ (Bk : Int32 → Int32 → Int32 → Int32 → ab_S → Prop) (k_Bk : ∀ (x2 : Int32) (x3 : Int32) (x4 : Int32) (x5 : Int32)  (σ : ab_S), Wire σ → Bk x2 x3 x4 x5 σ → V l mdX12_giveLevels B 1 24 0 0 (ab_End (fun v σ' => Wire σ' ∧ v = none ∧ Q σ') (fun X σ' => Wire σ' ∧ E X σ')) 48 [(0, .ref 92), (1, .int a0), (2, .int x2), (3, .int x3), (4, .int x4), (5, .int x5)] [] σ), ∀ (x2 : Int32) (x3 : Int32) (x4 : Int32) (x5 : Int32)  (σ : ab_S), Wire σ → wX12_giveLevels_l48_b a0 Q E K151 Bk x2 x3 x4 x5 σ → V l mdX12_giveLevels B 1 24 0 0 (ab_End (fun v σ' => Wire σ' ∧ v = none ∧ Q σ') (fun X σ' => Wire σ' ∧ E X σ')) 48 [(0, .ref 92), (1, .int a0), (2, .int x2), (3, .int x3), (4, .int x4), (5, .int x5)] [] σ := by
          intro K151 k_K151 Bk k_Bk
          have k_j148 : ∀ (x2 : Int32) (x3 : Int32) (x4 : Int32) (x5 : Int32)  (σ : ab_S), Wire σ → wX12_giveLevels_j148 a0 Q E K151 Bk x2 x3 x4 x5 σ → V l mdX12_giveLevels B 1 24 0 0 (ab_End (fun v σ' => Wire σ' ∧ v = none ∧ Q σ') (fun X σ' => Wire σ' ∧ E X σ')) 148 [(0, .ref 92), (1, .int a0), (2, .int x2), (3, .int x3), (4, .int x4), (5, .int x5)] [] σ := by
            intro x2 x3 x4 x5  σ hW h
            refine V_goto 85 (tgt := 48) rfl (by decide) ?_
            exact k_Bk x2 x3 x4 x5  σ hW h
          have k_l59 : ∀ (n : Nat) (x2 : Int32) (x3 : Int32) (x4 : Int32) (x5 : Int32) (x6 : Int32)  (σ : ab_S), Wire σ → wX12_giveLevels_l59 a0 Q E (wX12_giveLevels_j148 a0 Q E K151 Bk) n x2 x3 x4 x5 x6 σ → V l mdX12_giveLevels B 1 24 0 0 (ab_End (fun v σ' => Wire σ' ∧ v = none ∧ Q σ') (fun X σ' => Wire σ' ∧ E X σ')) 59 [(0, .ref 92), (1, .int a0), (2, .int x2), (3, .int x3), (4, .int x4), (5, .int x5), (6, .int x6)] [] σ := by
            have step : ∀ (K148 : Int32 → Int32 → Int32 → Int32 → ab_S → Prop) (k_K148 : ∀ (x2 : Int32) (x3 : Int32) (x4 : Int32) (x5 : Int32)  (σ : ab_S), Wire σ → K148 x2 x3 x4 x5 σ → V l mdX12_giveLevels B 1 24 0 0 (ab_End (fun v σ' => Wire σ' ∧ v = none ∧ Q σ') (fun X σ' => Wire σ' ∧ E X σ')) 148 [(0, .ref 92), (1, .int a0), (2, .int x2), (3, .int x3), (4, .int x4), (5, .int x5)] [] σ), ∀ (Bk : Int32 → Int32 → Int32 → Int32 → Int32 → ab_S → Prop) (k_Bk : ∀ (x2 : Int32) (x3 : Int32) (x4 : Int32) (x5 : Int32) (x6 : Int32)  (σ : ab_S), Wire σ → Bk x2 x3 x4 x5 x6 σ → V l mdX12_giveLevels B 1 24 0 0 (ab_End (fun v σ' => Wire σ' ∧ v = none ∧ Q σ') (fun X σ' => Wire σ' ∧ E X σ')) 59 [(0, .ref 92), (1, .int a0), (2, .int x2), (3, .int x3), (4, .int x4), (5, .int x5), (6, .int x6)] [] σ), ∀ (x2 : Int32) (x3 : Int32) (x4 : Int32) (x5 : Int32) (x6 : Int32)  (σ : ab_S), Wire σ → wX12_giveLevels_l59_b a0 Q E K148 Bk x2 x3 x4 x5 x6 σ → V l mdX12_giveLevels B 1 24 0 0 (ab_End (fun v σ' => Wire σ' ∧ v = none ∧ Q σ') (fun X σ' => Wire σ' ∧ E X σ')) 59 [(0, .ref 92), (1, .int a0), (2, .int x2), (3, .int x3), (4, .int x4), (5, .int x5), (6, .int x6)] [] σ := by
              intro K148 k_K148 Bk k_Bk
              have k_j142 : ∀ (x2 : Int32) (x3 : Int32) (x4 : Int32) (x5 : Int32) (x6 : Int32)  (σ : ab_S), Wire σ → wX12_giveLevels_j142 a0 Q E K148 Bk x2 x3 x4 x5 x6 σ → V l mdX12_giveLevels B 1 24 0 0 (ab_End (fun v σ' => Wire σ' ∧ v = none ∧ Q σ') (fun X σ' => Wire σ' ∧ E X σ')) 142 [(0, .ref 92), (1, .int a0), (2, .int x2), (3, .int x3), (4, .int x4), (5, .int x5), (6, .int x6)] [] σ := by
                intro x2 x3 x4 x5 x6  σ hW h
                obtain ⟨v3, ev3⟩ : ∃ z : Int32, z = (x6 + 1) := ⟨_, rfl⟩
                replace h := h v3 ev3
                refine V_iinc 83 6 (v := v3) (lv' := [(6, .int v3), (0, .ref 92), (1, .int a0), (2, .int x2), (3, .int x3), (4, .int x4), (5, .int x5)]) rfl rfl ((in_1 _).trans ev3.symm) (by decide) rfl ?_
                refine V_goto 84 (tgt := 59) rfl (by decide) ?_
                refine V_sub [1, 2, 3, 4, 5, 6, 0] (lv' := [(0, .ref 92), (1, .int a0), (2, .int x2), (3, .int x3), (4, .int x4), (5, .int x5), (6, .int v3)]) rfl ?_
                exact k_Bk x2 x3 x4 x5 v3  σ hW h
              have k_j106 : ∀ (x2 : Int32) (x3 : Int32) (x4 : Int32) (x5 : Int32) (x6 : Int32) (y0 : Int32) (y1 : Int32)  (σ : ab_S), Wire σ → wX12_giveLevels_j106 a0 Q E K148 Bk x2 x3 x4 x5 x6 y0 y1 σ → V l mdX12_giveLevels B 1 24 0 0 (ab_End (fun v σ' => Wire σ' ∧ v = none ∧ Q σ') (fun X σ' => Wire σ' ∧ E X σ')) 106 [(0, .ref 92), (1, .int a0), (2, .int x2), (3, .int x3), (4, .int x4), (5, .int x5), (6, .int x6)] [.int y0, .int y1] σ := by
                intro x2 x3 x4 x5 x6 y0 y1  σ hW h
                refine V_icmp_ne 63 (tgt := 142) rfl (by decide) (fun hc => ?_) (fun hc => ?_)
                · replace h := h.1 hc
                  exact k_j142 x2 x3 x4 x5 x6 σ hW h
                · replace h := h.2 hc
                  refine V_pc 109 rfl ?_
                  refine V_aload_n 64 0 rfl rfl rfl ?_
                  refine V_iload_n 65 1 rfl rfl rfl ?_
                  refine V_iload 66 6 rfl rfl ?_
                  refine V_callV 67 2 (as := [.int a0, .int x6]) (rest := []) rfl mlX12_401 yvX12_mayHave rfl rfl clX12 (wsh hW rfl) (by decide) (by decide) (Nat.le_of_ble_eq_true rfl) (by decide) (by decide) (fun B9 => ceX12_mayHave hl B9 hW h) (fun X9 τ9 h9 => VX_out rfl h9) ?_
                  rintro v9 σ4 ⟨hW, u5, rfl, h⟩
                  refine V_if_eq 68 (tgt := 142) rfl (by decide) (fun hc => ?_) (fun hc => ?_)
                  · replace h := h.1 hc
                    exact k_j142 x2 x3 x4 x5 x6 σ4 hW h
                  · replace h := h.2 hc
                    refine V_pc 119 rfl ?_
                    refine V_aload_n 69 0 rfl rfl rfl ?_
                    refine V_getR 70 26 rfl clX12 flX12_66 (by decide) (wsh hW rfl) (fun _ => rfl) (wrf hW 112 rfl) ?_
                    refine V_bipush 71 (v := (8 : Int32)) rfl (by decide) ?_
                    refine V_iload_n 72 1 rfl rfl rfl ?_
                    refine V_imul 73 rfl ?_
                    refine V_iload 74 6 rfl rfl ?_
                    refine V_pc 129 rfl ?_
                    refine V_iadd 75 rfl ?_
                    refine V_iload 76 4 rfl rfl ?_
                    obtain ⟨hin, h⟩ := h
                    refine V_iast 77 rfl (wsh hW rfl) hin ?_
                    refine V_nm (fun σ6 eσ6 => ?_)
                    replace h := h σ6 eσ6
                    have hW := wire_I eσ6 hW
                    refine V_iload 78 4 rfl rfl ?_
                    refine V_istore_n 79 (lv' := [(3, .int x4), (0, .ref 92), (1, .int a0), (2, .int x2), (4, .int x4), (5, .int x5), (6, .int x6)]) rfl rfl (by decide) rfl ?_
                    obtain ⟨v7, ev7⟩ : ∃ z : Int32, z = (x2 - 1) := ⟨_, rfl⟩
                    replace h := h v7 ev7
                    refine V_iinc 80 3 (v := v7) (lv' := [(2, .int v7), (3, .int x4), (0, .ref 92), (1, .int a0), (4, .int x4), (5, .int x5), (6, .int x6)]) rfl rfl ((in_m1 _).trans ev7.symm) (by decide) rfl ?_
                    refine V_pc 139 rfl ?_
                    refine V_iconst 81 (v := (1 : Int32)) rfl (by decide) ?_
                    refine V_istore 82 (lv' := [(5, .int (1 : Int32)), (2, .int v7), (3, .int x4), (0, .ref 92), (1, .int a0), (4, .int x4), (6, .int x6)]) rfl (by decide) rfl ?_
                    refine V_sub [3, 4, 1, 2, 5, 0, 6] (lv' := [(0, .ref 92), (1, .int a0), (2, .int v7), (3, .int x4), (4, .int x4), (5, .int (1 : Int32)), (6, .int x6)]) rfl ?_
                    exact k_j142 v7 x4 x4 (1 : Int32) x6 σ6 hW h
              have k_j90 : ∀ (x2 : Int32) (x3 : Int32) (x4 : Int32) (x5 : Int32) (x6 : Int32) (y0 : Int32)  (σ : ab_S), Wire σ → wX12_giveLevels_j90 a0 Q E K148 Bk x2 x3 x4 x5 x6 y0 σ → V l mdX12_giveLevels B 1 24 0 0 (ab_End (fun v σ' => Wire σ' ∧ v = none ∧ Q σ') (fun X σ' => Wire σ' ∧ E X σ')) 90 [(0, .ref 92), (1, .int a0), (2, .int x2), (3, .int x3), (4, .int x4), (5, .int x5), (6, .int x6)] [.int y0] σ := by
                intro x2 x3 x4 x5 x6 y0  σ hW h
                refine V_istore 54 (lv' := [(7, .int y0), (0, .ref 92), (1, .int a0), (2, .int x2), (3, .int x3), (4, .int x4), (5, .int x5), (6, .int x6)]) rfl (by decide) rfl ?_
                refine V_iload 55 0 rfl rfl ?_
                refine V_iload 56 5 rfl rfl ?_
                refine V_iconst 57 (v := (2 : Int32)) rfl (by decide) ?_
                refine V_irem 58 rfl (by decide) ?_
                refine V_if_ne 59 (tgt := 105) rfl (by decide) (fun hc => ?_) (fun hc => ?_)
                · replace h := h.1 hc
                  refine V_iconst 62 (v := (0 : Int32)) rfl (by decide) ?_
                  refine V_sub [1, 2, 3, 4, 5, 6, 7] (lv' := [(0, .ref 92), (1, .int a0), (2, .int x2), (3, .int x3), (4, .int x4), (5, .int x5), (6, .int x6)]) rfl ?_
                  exact k_j106 x2 x3 x4 x5 x6 (0 : Int32) y0 σ hW h
                · replace h := h.2 hc
                  refine V_pc 101 rfl ?_
                  refine V_iconst 60 (v := (1 : Int32)) rfl (by decide) ?_
                  refine V_goto 61 (tgt := 106) rfl (by decide) ?_
                  refine V_sub [1, 2, 3, 4, 5, 6, 7] (lv' := [(0, .ref 92), (1, .int a0), (2, .int x2), (3, .int x3), (4, .int x4), (5, .int x5), (6, .int x6)]) rfl ?_
                  exact k_j106 x2 x3 x4 x5 x6 (1 : Int32) y0 σ hW h
              intro x2 x3 x4 x5 x6  σ hW h
              refine V_iload 35 6 rfl rfl ?_
              refine V_aload_n 36 0 rfl rfl rfl ?_
              refine V_getR 37 12 rfl clX12 flX12_29 (by decide) (wsh hW rfl) (fun _ => rfl) (wrf hW 100 rfl) ?_
              refine V_iload_n 38 1 rfl rfl rfl ?_
              obtain ⟨hin, h⟩ := h
              refine V_iald 39 rfl (wsh hW rfl) hin ?_
              refine V_icmp_ge 40 (tgt := 148) rfl (by decide) (fun hc => ?_) (fun hc => ?_)
              · replace h := h.1 hc
                refine V_sub [0, 1, 2, 3, 4, 5] (lv' := [(0, .ref 92), (1, .int a0), (2, .int x2), (3, .int x3), (4, .int x4), (5, .int x5)]) rfl ?_
                exact k_K148 x2 x3 x4 x5  σ hW h
              · replace h := h.2 hc
                refine V_pc 70 rfl ?_
                refine V_aload_n 41 0 rfl rfl rfl ?_
                refine V_getR 42 13 rfl clX12 flX12_32 (by decide) (wsh hW rfl) (fun _ => rfl) (wrf hW 101 rfl) ?_
                refine V_iload_n 43 1 rfl rfl rfl ?_
                obtain ⟨hin, h⟩ := h
                refine V_iald 44 rfl (wsh hW rfl) hin ?_
                refine V_iload 45 6 rfl rfl ?_
                refine V_ishr 46 rfl ?_
                refine V_pc 79 rfl ?_
                refine V_iconst 47 (v := (1 : Int32)) rfl (by decide) ?_
                refine V_iand 48 rfl ?_
                refine V_iconst 49 (v := (1 : Int32)) rfl (by decide) ?_
                refine V_icmp_ne 50 (tgt := 89) rfl (by decide) (fun hc => ?_) (fun hc => ?_)
                · replace h := h.1 hc
                  refine V_iconst 53 (v := (0 : Int32)) rfl (by decide) ?_
                  exact k_j90 x2 x3 x4 x5 x6 (0 : Int32) σ hW h
                · replace h := h.2 hc
                  refine V_pc 85 rfl ?_
                  refine V_iconst 51 (v := (1 : Int32)) rfl (by decide) ?_
                  refine V_goto 52 (tgt := 90) rfl (by decide) ?_
                  exact k_j90 x2 x3 x4 x5 x6 (1 : Int32) σ hW h
            intro n
            induction n with
            | zero => intro x2 x3 x4 x5 x6  σ hW h; exact absurd h id
            | succ n ih => exact step _ k_j148 _ ih
          intro x2 x3 x4 x5  σ hW h
          refine V_iload 29 5 rfl rfl ?_
          refine V_if_eq 30 (tgt := 151) rfl (by decide) (fun hc => ?_) (fun hc => ?_)
          · replace h := h.1 hc
            refine V_sub [0, 1, 2, 3, 4] (lv' := [(0, .ref 92), (1, .int a0), (2, .int x2), (3, .int x3), (4, .int x4)]) rfl ?_
            exact k_K151 x2 x3 x4  σ hW h
          · replace h := h.2 hc
            refine V_pc 53 rfl ?_
            refine V_iconst 31 (v := (0 : Int32)) rfl (by decide) ?_
            refine V_istore 32 (lv' := [(5, .int (0 : Int32)), (0, .ref 92), (1, .int a0), (2, .int x2), (3, .int x3), (4, .int x4)]) rfl (by decide) rfl ?_
            refine V_iconst 33 (v := (0 : Int32)) rfl (by decide) ?_
            refine V_istore 34 (lv' := [(6, .int (0 : Int32)), (5, .int (0 : Int32)), (0, .ref 92), (1, .int a0), (2, .int x2), (3, .int x3), (4, .int x4)]) rfl (by decide) rfl ?_
            refine V_sub [2, 3, 4, 5, 6, 1, 0] (lv' := [(0, .ref 92), (1, .int a0), (2, .int x2), (3, .int x3), (4, .int x4), (5, .int (0 : Int32)), (6, .int (0 : Int32))]) rfl ?_
            obtain ⟨n, h⟩ := h
            exact k_l59 n x2 x3 x4 (0 : Int32) (0 : Int32) σ hW h
        intro n
        induction n with
        | zero => intro x2 x3 x4 x5  σ hW h; exact absurd h id
        | succ n ih => exact step _ k_j151 _ ih
      intro x2 x3 x4  σ hW h
      refine V_iload_n 25 2 rfl rfl rfl ?_
      refine V_if_le 26 (tgt := 157) rfl (by decide) (fun hc => ?_) (fun hc => ?_)
      · replace h := h.1 hc
        refine V_sub [0, 1, 3] (lv' := [(0, .ref 92), (1, .int a0), (3, .int x3)]) rfl ?_
        exact k_K157 x3  σ hW h
      · replace h := h.2 hc
        refine V_pc 45 rfl ?_
        refine V_iconst 27 (v := (1 : Int32)) rfl (by decide) ?_
        refine V_istore 28 (lv' := [(5, .int (1 : Int32)), (0, .ref 92), (1, .int a0), (2, .int x2), (3, .int x3), (4, .int x4)]) rfl (by decide) rfl ?_
        refine V_sub [1, 2, 3, 4, 5, 0] (lv' := [(0, .ref 92), (1, .int a0), (2, .int x2), (3, .int x3), (4, .int x4), (5, .int (1 : Int32))]) rfl ?_
        obtain ⟨n, h⟩ := h
        exact k_l48 n x2 x3 x4 (1 : Int32) σ hW h
    intro n
    induction n with
    | zero => intro x2 x3 x4  σ hW h; exact absurd h id
    | succ n ih => exact step _ k_j157 _ ih
  have k_j38 : ∀ (x2 : Int32) (x3 : Int32)  (σ : ab_S), Wire σ → wX12_giveLevels_j38 a0 Q E x2 x3 σ → V l mdX12_giveLevels B 1 24 0 0 (ab_End (fun v σ' => Wire σ' ∧ v = none ∧ Q σ') (fun X σ' => Wire σ' ∧ E X σ')) 38 [(0, .ref 92), (1, .int a0), (2, .int x2), (3, .int x3)] [] σ := by
    intro x2 x3  σ hW h
    refine V_iconst 23 (v := (1 : Int32)) rfl (by decide) ?_
    refine V_istore 24 (lv' := [(4, .int (1 : Int32)), (0, .ref 92), (1, .int a0), (2, .int x2), (3, .int x3)]) rfl (by decide) rfl ?_
    refine V_sub [1, 2, 3, 4, 0] (lv' := [(0, .ref 92), (1, .int a0), (2, .int x2), (3, .int x3), (4, .int (1 : Int32))]) rfl ?_
    obtain ⟨n, h⟩ := h
    exact k_l41 n x2 x3 (1 : Int32) σ hW h
  have k_l12 : ∀ (n : Nat) (x2 : Int32) (x3 : Int32) (x4 : Int32)  (σ : ab_S), Wire σ → wX12_giveLevels_l12 a0 Q E (wX12_giveLevels_j38 a0 Q E) n x2 x3 x4 σ → V l mdX12_giveLevels B 1 24 0 0 (ab_End (fun v σ' => Wire σ' ∧ v = none ∧ Q σ') (fun X σ' => Wire σ' ∧ E X σ')) 12 [(0, .ref 92), (1, .int a0), (2, .int x2), (3, .int x3), (4, .int x4)] [] σ := by
    have step : ∀ (K38 : Int32 → Int32 → ab_S → Prop) (k_K38 : ∀ (x2 : Int32) (x3 : Int32)  (σ : ab_S), Wire σ → K38 x2 x3 σ → V l mdX12_giveLevels B 1 24 0 0 (ab_End (fun v σ' => Wire σ' ∧ v = none ∧ Q σ') (fun X σ' => Wire σ' ∧ E X σ')) 38 [(0, .ref 92), (1, .int a0), (2, .int x2), (3, .int x3)] [] σ), ∀ (Bk : Int32 → Int32 → Int32 → ab_S → Prop) (k_Bk : ∀ (x2 : Int32) (x3 : Int32) (x4 : Int32)  (σ : ab_S), Wire σ → Bk x2 x3 x4 σ → V l mdX12_giveLevels B 1 24 0 0 (ab_End (fun v σ' => Wire σ' ∧ v = none ∧ Q σ') (fun X σ' => Wire σ' ∧ E X σ')) 12 [(0, .ref 92), (1, .int a0), (2, .int x2), (3, .int x3), (4, .int x4)] [] σ), ∀ (x2 : Int32) (x3 : Int32) (x4 : Int32)  (σ : ab_S), Wire σ → wX12_giveLevels_l12_b a0 Q E K38 Bk x2 x3 x4 σ → V l mdX12_giveLevels B 1 24 0 0 (ab_End (fun v σ' => Wire σ' ∧ v = none ∧ Q σ') (fun X σ' => Wire σ' ∧ E X σ')) 12 [(0, .ref 92), (1, .int a0), (2, .int x2), (3, .int x3), (4, .int x4)] [] σ := by
      intro K38 k_K38 Bk k_Bk
      intro x2 x3 x4  σ hW h
      refine V_iload 9 4 rfl rfl ?_
      refine V_bipush 10 (v := (8 : Int32)) rfl (by decide) ?_
      refine V_icmp_ge 11 (tgt := 38) rfl (by decide) (fun hc => ?_) (fun hc => ?_)
      · replace h := h.1 hc
        refine V_sub [0, 1, 2, 3] (lv' := [(0, .ref 92), (1, .int a0), (2, .int x2), (3, .int x3)]) rfl ?_
        exact k_K38 x2 x3  σ hW h
      · replace h := h.2 hc
        refine V_pc 19 rfl ?_
        refine V_aload_n 12 0 rfl rfl rfl ?_
        refine V_getR 13 26 rfl clX12 flX12_66 (by decide) (wsh hW rfl) (fun _ => rfl) (wrf hW 112 rfl) ?_
        refine V_bipush 14 (v := (8 : Int32)) rfl (by decide) ?_
        refine V_iload_n 15 1 rfl rfl rfl ?_
        refine V_imul 16 rfl ?_
        refine V_iload 17 4 rfl rfl ?_
        refine V_pc 29 rfl ?_
        refine V_iadd 18 rfl ?_
        refine V_iconst 19 (v := (0 : Int32)) rfl (by decide) ?_
        obtain ⟨hin, h⟩ := h
        refine V_iast 20 rfl (wsh hW rfl) hin ?_
        refine V_nm (fun σ8 eσ8 => ?_)
        replace h := h σ8 eσ8
        have hW := wire_I eσ8 hW
        obtain ⟨v9, ev9⟩ : ∃ z : Int32, z = (x4 + 1) := ⟨_, rfl⟩
        replace h := h v9 ev9
        refine V_iinc 21 4 (v := v9) (lv' := [(4, .int v9), (0, .ref 92), (1, .int a0), (2, .int x2), (3, .int x3)]) rfl rfl ((in_1 _).trans ev9.symm) (by decide) rfl ?_
        refine V_goto 22 (tgt := 12) rfl (by decide) ?_
        refine V_sub [1, 2, 3, 4, 0] (lv' := [(0, .ref 92), (1, .int a0), (2, .int x2), (3, .int x3), (4, .int v9)]) rfl ?_
        exact k_Bk x2 x3 v9  σ8 hW h
    intro n
    induction n with
    | zero => intro x2 x3 x4  σ hW h; exact absurd h id
    | succ n ih => exact step _ k_j38 _ ih
  intro σ hW h
  refine V_aload_n 0 0 rfl rfl rfl ?_
  refine V_getR 1 12 rfl clX12 flX12_29 (by decide) (wsh hW rfl) (fun _ => rfl) (wrf hW 100 rfl) ?_
  refine V_iload_n 2 1 rfl rfl rfl ?_
  obtain ⟨hin, h⟩ := h
  refine V_iald 3 rfl (wsh hW rfl) hin ?_
  refine V_topi (fun v10 ev10 => ?_)
  replace h := h v10 ev10
  refine V_istore_n 4 (lv' := [(2, .int v10), (0, .ref 92), (1, .int a0)]) rfl rfl (by decide) rfl ?_
  refine V_iconst 5 (v := (0 : Int32)) rfl (by decide) ?_
  refine V_pc 8 rfl ?_
  refine V_istore_n 6 (lv' := [(3, .int (0 : Int32)), (2, .int v10), (0, .ref 92), (1, .int a0)]) rfl rfl (by decide) rfl ?_
  refine V_iconst 7 (v := (0 : Int32)) rfl (by decide) ?_
  refine V_istore 8 (lv' := [(4, .int (0 : Int32)), (3, .int (0 : Int32)), (2, .int v10), (0, .ref 92), (1, .int a0)]) rfl (by decide) rfl ?_
  refine V_sub [3, 4, 2, 1, 0] (lv' := [(0, .ref 92), (1, .int a0), (2, .int v10), (3, .int (0 : Int32)), (4, .int (0 : Int32))]) rfl ?_
  obtain ⟨n, h⟩ := h
  exact k_l12 n v10 (0 : Int32) (0 : Int32) σ hW h

def wX12_cross_j189 (Q : ab_S → Prop) (E : String → ab_S → Prop) (Bk : Int32 → ab_S → Prop) (x1 : Int32) (σ : ab_S) : Prop := wX12_follow x1 (fun σ1 => ∀ v2 : Int32, v2 = (x1 + 1) → Bk v2 σ1) E σ
def wX12_cross_j183 (Q : ab_S → Prop) (E : String → ab_S → Prop) (K189 : Int32 → ab_S → Prop) (Bk : Int32 → Int32 → ab_S → Prop) (x1 : Int32) (x2 : Int32) (σ : ab_S) : Prop := ∀ v3 : Int32, v3 = (x2 + 1) → Bk x1 v3 σ
def wX12_cross_j177 (Q : ab_S → Prop) (E : String → ab_S → Prop) (K183 : Int32 → Int32 → ab_S → Prop) (Bk : Int32 → Int32 → Int32 → Int32 → ab_S → Prop) (x1 : Int32) (x2 : Int32) (x3 : Int32) (x4 : Int32) (σ : ab_S) : Prop := ∀ v4 : Int32, v4 = (x4 + 1) → Bk x1 x2 x3 v4 σ
def wX12_cross_j170 (Q : ab_S → Prop) (E : String → ab_S → Prop) (K177 : Int32 → Int32 → Int32 → Int32 → ab_S → Prop) (Bk : Int32 → Int32 → Int32 → Int32 → Int32 → ab_S → Prop) (x1 : Int32) (x2 : Int32) (x3 : Int32) (x4 : Int32) (x5 : Int32) (y0 : Int64) (y1 : Int32) (σ : ab_S) : Prop := vp_in y1 992 ∧ (∀ σ5 : ab_S, σ5 = ab_L σ 109 y1.toNatClampNeg y0 → ∀ v6 : Int32, v6 = (x5 + 1) → Bk x1 x2 x3 x4 v6 σ5)
def wX12_cross_j100 (Q : ab_S → Prop) (E : String → ab_S → Prop) (K177 : Int32 → Int32 → Int32 → Int32 → ab_S → Prop) (Bk : Int32 → Int32 → Int32 → Int32 → Int32 → ab_S → Prop) (x1 : Int32) (x2 : Int32) (x3 : Int32) (x4 : Int32) (x5 : Int32) (y0 : Int32) (σ : ab_S) : Prop := ((y0 = 0) → vp_in ((((32 : Int32) * x1) + ((8 : Int32) * x2)) + x4) 992 ∧ (wX12_cross_j170 Q E K177 Bk x1 x2 x3 x4 x5 (σ.2.2.1 109 ((((32 : Int32) * x1) + ((8 : Int32) * x2)) + x4).toNatClampNeg) ((((32 : Int32) * x1) + ((8 : Int32) * x2)) + x4) σ)) ∧ (¬ (y0 = 0) → vp_in ((((32 : Int32) * x1) + ((8 : Int32) * x2)) + x4) 992 ∧ (wX12_cross_j170 Q E K177 Bk x1 x2 x3 x4 x5 ((σ.2.2.1 109 ((((32 : Int32) * x1) + ((8 : Int32) * x2)) + x4).toNatClampNeg) ||| ((1 : Int64) <<< ((((8 : Int32) * x2) + x5).toInt64 &&& 63))) ((((32 : Int32) * x1) + ((8 : Int32) * x2)) + x4) σ))
def wX12_cross_l55_b (Q : ab_S → Prop) (E : String → ab_S → Prop) (K177 : Int32 → Int32 → Int32 → Int32 → ab_S → Prop) (Bk : Int32 → Int32 → Int32 → Int32 → Int32 → ab_S → Prop) (x1 : Int32) (x2 : Int32) (x3 : Int32) (x4 : Int32) (x5 : Int32) (σ : ab_S) : Prop := vp_in x3 13 ∧ ((((σ.2.1 99 x3.toNatClampNeg) ≤ x5) → K177 x1 x2 x3 x4 σ) ∧ (¬ ((σ.2.1 99 x3.toNatClampNeg) ≤ x5) → vp_in (((8 : Int32) * x3) + x5) 104 ∧ (vp_in (((8 : Int32) * x3) + x4) 104 ∧ (((¬ (σ.2.1 111 (((8 : Int32) * x3) + x5).toNatClampNeg) = ((σ.2.1 111 (((8 : Int32) * x3) + x4).toNatClampNeg) + (1 : Int32))) → wX12_cross_j100 Q E K177 Bk x1 x2 x3 x4 x5 (0 : Int32) σ) ∧ (¬ (¬ (σ.2.1 111 (((8 : Int32) * x3) + x5).toNatClampNeg) = ((σ.2.1 111 (((8 : Int32) * x3) + x4).toNatClampNeg) + (1 : Int32))) → wX12_cross_j100 Q E K177 Bk x1 x2 x3 x4 x5 (1 : Int32) σ)))))
def wX12_cross_l55 (Q : ab_S → Prop) (E : String → ab_S → Prop) (K177 : Int32 → Int32 → Int32 → Int32 → ab_S → Prop) : Nat → Int32 → Int32 → Int32 → Int32 → Int32 → ab_S → Prop
  | 0, _, _, _, _, _, _ => False
  | n + 1, x1, x2, x3, x4, x5, σ => wX12_cross_l55_b Q E K177 (wX12_cross_l55 Q E K177 n) x1 x2 x3 x4 x5 σ
def wX12_cross_l41_b (Q : ab_S → Prop) (E : String → ab_S → Prop) (K183 : Int32 → Int32 → ab_S → Prop) (Bk : Int32 → Int32 → Int32 → Int32 → ab_S → Prop) (x1 : Int32) (x2 : Int32) (x3 : Int32) (x4 : Int32) (σ : ab_S) : Prop := vp_in x3 13 ∧ ((((σ.2.1 99 x3.toNatClampNeg) ≤ x4) → K183 x1 x2 σ) ∧ (¬ ((σ.2.1 99 x3.toNatClampNeg) ≤ x4) → ∃ n, wX12_cross_l55 Q E (wX12_cross_j177 Q E K183 Bk) n x1 x2 x3 x4 (0 : Int32) σ))
def wX12_cross_l41 (Q : ab_S → Prop) (E : String → ab_S → Prop) (K183 : Int32 → Int32 → ab_S → Prop) : Nat → Int32 → Int32 → Int32 → Int32 → ab_S → Prop
  | 0, _, _, _, _, _ => False
  | n + 1, x1, x2, x3, x4, σ => wX12_cross_l41_b Q E K183 (wX12_cross_l41 Q E K183 n) x1 x2 x3 x4 σ
def wX12_cross_l17_b (Q : ab_S → Prop) (E : String → ab_S → Prop) (K189 : Int32 → ab_S → Prop) (Bk : Int32 → Int32 → ab_S → Prop) (x1 : Int32) (x2 : Int32) (σ : ab_S) : Prop := vp_in x1 31 ∧ ((((σ.2.1 103 x1.toNatClampNeg) < x2) → K189 x1 σ) ∧ (¬ ((σ.2.1 103 x1.toNatClampNeg) < x2) → vp_in (((4 : Int32) * x1) + x2) 124 ∧ (∀ v7 : Int32, v7 = (σ.2.1 104 (((4 : Int32) * x1) + x2).toNatClampNeg) → ∃ n, wX12_cross_l41 Q E (wX12_cross_j183 Q E K189 Bk) n x1 x2 v7 (0 : Int32) σ)))
def wX12_cross_l17 (Q : ab_S → Prop) (E : String → ab_S → Prop) (K189 : Int32 → ab_S → Prop) : Nat → Int32 → Int32 → ab_S → Prop
  | 0, _, _, _ => False
  | n + 1, x1, x2, σ => wX12_cross_l17_b Q E K189 (wX12_cross_l17 Q E K189 n) x1 x2 σ
def wX12_cross_l2_b (Q : ab_S → Prop) (E : String → ab_S → Prop) (Bk : Int32 → ab_S → Prop) (x1 : Int32) (σ : ab_S) : Prop := (((σ.2.1 92 14) ≤ x1) → Q σ) ∧ (¬ ((σ.2.1 92 14) ≤ x1) → wX12_direct x1 (fun σ8 => ∃ n, wX12_cross_l17 Q E (wX12_cross_j189 Q E Bk) n x1 (0 : Int32) σ8) E σ)
def wX12_cross_l2 (Q : ab_S → Prop) (E : String → ab_S → Prop) : Nat → Int32 → ab_S → Prop
  | 0, _, _ => False
  | n + 1, x1, σ => wX12_cross_l2_b Q E (wX12_cross_l2 Q E n) x1 σ
def wX12_cross  (Q : ab_S → Prop) (E : String → ab_S → Prop) (σ : ab_S) : Prop := ∃ n, wX12_cross_l2 Q E n (0 : Int32) σ
set_option maxHeartbeats 4000000 in
set_option maxRecDepth 100000 in
theorem ceX12_cross {l : Launch} (hl : l.stackTraces = false) (B : Nat)   {Q : ab_S → Prop} {E : String → ab_S → Prop} {σ : ab_S} (hW : Wire σ) (h : wX12_cross  Q E σ) : ab_Mt l yX12_cross mdX12_cross B 1 23 0 0 [.ref 92] σ (fun v σ' => Wire σ' ∧ v = none ∧ Q σ') (fun X σ' => Wire σ' ∧ E X σ') := by
  refine V_met hl ⟨rfl, rfl, by decide⟩ rfl dkX12_cross (Nat.le_of_ble_eq_true rfl) ?_
  show V l mdX12_cross B 1 23 0 0 (ab_End _ _) 0 [(0, .ref 92)] [] σ
  revert h hW
  revert σ
  have k_l2 : ∀ (n : Nat) (x1 : Int32)  (σ : ab_S), Wire σ → wX12_cross_l2 Q E n x1 σ → V l mdX12_cross B 1 23 0 0 (ab_End (fun v σ' => Wire σ' ∧ v = none ∧ Q σ') (fun X σ' => Wire σ' ∧ E X σ')) 2 [(0, .ref 92), (1, .int x1)] [] σ := by
    have step : ∀ (Bk : Int32 → ab_S → Prop) (k_Bk : ∀ (x1 : Int32)  (σ : ab_S), Wire σ → Bk x1 σ → V l mdX12_cross B 1 23 0 0 (ab_End (fun v σ' => Wire σ' ∧ v = none ∧ Q σ') (fun X σ' => Wire σ' ∧ E X σ')) 2 [(0, .ref 92), (1, .int x1)] [] σ), ∀ (x1 : Int32)  (σ : ab_S), Wire σ → wX12_cross_l2_b Q E Bk x1 σ → V l mdX12_cross B 1 23 0 0 (ab_End (fun v σ' => Wire σ' ∧ v = none ∧ Q σ') (fun X σ' => Wire σ' ∧ E X σ')) 2 [(0, .ref 92), (1, .int x1)] [] σ := by
      intro Bk k_Bk
      have k_j189 : ∀ (x1 : Int32)  (σ : ab_S), Wire σ → wX12_cross_j189 Q E Bk x1 σ → V l mdX12_cross B 1 23 0 0 (ab_End (fun v σ' => Wire σ' ∧ v = none ∧ Q σ') (fun X σ' => Wire σ' ∧ E X σ')) 189 [(0, .ref 92), (1, .int x1)] [] σ := by
        intro x1  σ hW h
        refine V_aload_n 118 0 rfl rfl rfl ?_
        refine V_iload_n 119 1 rfl rfl rfl ?_
        refine V_callV 120 1 (as := [.int x1]) (rest := []) rfl mlX12_388 yvX12_follow rfl rfl clX12 (wsh hW rfl) (by decide) (by decide) (Nat.le_of_ble_eq_true rfl) (by decide) (by decide) (fun B9 => ceX12_follow hl B9 hW h) (fun X9 τ9 h9 => VX_out rfl h9) ?_
        rintro v9 σ1 ⟨hW, rfl, h⟩
        obtain ⟨v2, ev2⟩ : ∃ z : Int32, z = (x1 + 1) := ⟨_, rfl⟩
        replace h := h v2 ev2
        refine V_iinc 121 1 (v := v2) (lv' := [(1, .int v2), (0, .ref 92)]) rfl rfl ((in_1 _).trans ev2.symm) (by decide) rfl ?_
        refine V_goto 122 (tgt := 2) rfl (by decide) ?_
        refine V_sub [1, 0] (lv' := [(0, .ref 92), (1, .int v2)]) rfl ?_
        exact k_Bk v2  σ1 hW h
      have k_l17 : ∀ (n : Nat) (x1 : Int32) (x2 : Int32)  (σ : ab_S), Wire σ → wX12_cross_l17 Q E (wX12_cross_j189 Q E Bk) n x1 x2 σ → V l mdX12_cross B 1 23 0 0 (ab_End (fun v σ' => Wire σ' ∧ v = none ∧ Q σ') (fun X σ' => Wire σ' ∧ E X σ')) 17 [(0, .ref 92), (1, .int x1), (2, .int x2)] [] σ := by
        have step : ∀ (K189 : Int32 → ab_S → Prop) (k_K189 : ∀ (x1 : Int32)  (σ : ab_S), Wire σ → K189 x1 σ → V l mdX12_cross B 1 23 0 0 (ab_End (fun v σ' => Wire σ' ∧ v = none ∧ Q σ') (fun X σ' => Wire σ' ∧ E X σ')) 189 [(0, .ref 92), (1, .int x1)] [] σ), ∀ (Bk : Int32 → Int32 → ab_S → Prop) (k_Bk : ∀ (x1 : Int32) (x2 : Int32)  (σ : ab_S), Wire σ → Bk x1 x2 σ → V l mdX12_cross B 1 23 0 0 (ab_End (fun v σ' => Wire σ' ∧ v = none ∧ Q σ') (fun X σ' => Wire σ' ∧ E X σ')) 17 [(0, .ref 92), (1, .int x1), (2, .int x2)] [] σ), ∀ (x1 : Int32) (x2 : Int32)  (σ : ab_S), Wire σ → wX12_cross_l17_b Q E K189 Bk x1 x2 σ → V l mdX12_cross B 1 23 0 0 (ab_End (fun v σ' => Wire σ' ∧ v = none ∧ Q σ') (fun X σ' => Wire σ' ∧ E X σ')) 17 [(0, .ref 92), (1, .int x1), (2, .int x2)] [] σ := by
          intro K189 k_K189 Bk k_Bk
          have k_j183 : ∀ (x1 : Int32) (x2 : Int32)  (σ : ab_S), Wire σ → wX12_cross_j183 Q E K189 Bk x1 x2 σ → V l mdX12_cross B 1 23 0 0 (ab_End (fun v σ' => Wire σ' ∧ v = none ∧ Q σ') (fun X σ' => Wire σ' ∧ E X σ')) 183 [(0, .ref 92), (1, .int x1), (2, .int x2)] [] σ := by
            intro x1 x2  σ hW h
            obtain ⟨v3, ev3⟩ : ∃ z : Int32, z = (x2 + 1) := ⟨_, rfl⟩
            replace h := h v3 ev3
            refine V_iinc 116 2 (v := v3) (lv' := [(2, .int v3), (0, .ref 92), (1, .int x1)]) rfl rfl ((in_1 _).trans ev3.symm) (by decide) rfl ?_
            refine V_goto 117 (tgt := 17) rfl (by decide) ?_
            refine V_sub [1, 2, 0] (lv' := [(0, .ref 92), (1, .int x1), (2, .int v3)]) rfl ?_
            exact k_Bk x1 v3  σ hW h
          have k_l41 : ∀ (n : Nat) (x1 : Int32) (x2 : Int32) (x3 : Int32) (x4 : Int32)  (σ : ab_S), Wire σ → wX12_cross_l41 Q E (wX12_cross_j183 Q E K189 Bk) n x1 x2 x3 x4 σ → V l mdX12_cross B 1 23 0 0 (ab_End (fun v σ' => Wire σ' ∧ v = none ∧ Q σ') (fun X σ' => Wire σ' ∧ E X σ')) 41 [(0, .ref 92), (1, .int x1), (2, .int x2), (3, .int x3), (4, .int x4)] [] σ := by
            have step : ∀ (K183 : Int32 → Int32 → ab_S → Prop) (k_K183 : ∀ (x1 : Int32) (x2 : Int32)  (σ : ab_S), Wire σ → K183 x1 x2 σ → V l mdX12_cross B 1 23 0 0 (ab_End (fun v σ' => Wire σ' ∧ v = none ∧ Q σ') (fun X σ' => Wire σ' ∧ E X σ')) 183 [(0, .ref 92), (1, .int x1), (2, .int x2)] [] σ), ∀ (Bk : Int32 → Int32 → Int32 → Int32 → ab_S → Prop) (k_Bk : ∀ (x1 : Int32) (x2 : Int32) (x3 : Int32) (x4 : Int32)  (σ : ab_S), Wire σ → Bk x1 x2 x3 x4 σ → V l mdX12_cross B 1 23 0 0 (ab_End (fun v σ' => Wire σ' ∧ v = none ∧ Q σ') (fun X σ' => Wire σ' ∧ E X σ')) 41 [(0, .ref 92), (1, .int x1), (2, .int x2), (3, .int x3), (4, .int x4)] [] σ), ∀ (x1 : Int32) (x2 : Int32) (x3 : Int32) (x4 : Int32)  (σ : ab_S), Wire σ → wX12_cross_l41_b Q E K183 Bk x1 x2 x3 x4 σ → V l mdX12_cross B 1 23 0 0 (ab_End (fun v σ' => Wire σ' ∧ v = none ∧ Q σ') (fun X σ' => Wire σ' ∧ E X σ')) 41 [(0, .ref 92), (1, .int x1), (2, .int x2), (3, .int x3), (4, .int x4)] [] σ := by
              intro K183 k_K183 Bk k_Bk
              have k_j177 : ∀ (x1 : Int32) (x2 : Int32) (x3 : Int32) (x4 : Int32)  (σ : ab_S), Wire σ → wX12_cross_j177 Q E K183 Bk x1 x2 x3 x4 σ → V l mdX12_cross B 1 23 0 0 (ab_End (fun v σ' => Wire σ' ∧ v = none ∧ Q σ') (fun X σ' => Wire σ' ∧ E X σ')) 177 [(0, .ref 92), (1, .int x1), (2, .int x2), (3, .int x3), (4, .int x4)] [] σ := by
                intro x1 x2 x3 x4  σ hW h
                obtain ⟨v4, ev4⟩ : ∃ z : Int32, z = (x4 + 1) := ⟨_, rfl⟩
                replace h := h v4 ev4
                refine V_iinc 114 4 (v := v4) (lv' := [(4, .int v4), (0, .ref 92), (1, .int x1), (2, .int x2), (3, .int x3)]) rfl rfl ((in_1 _).trans ev4.symm) (by decide) rfl ?_
                refine V_goto 115 (tgt := 41) rfl (by decide) ?_
                refine V_sub [1, 2, 3, 4, 0] (lv' := [(0, .ref 92), (1, .int x1), (2, .int x2), (3, .int x3), (4, .int v4)]) rfl ?_
                exact k_Bk x1 x2 x3 v4  σ hW h
              have k_l55 : ∀ (n : Nat) (x1 : Int32) (x2 : Int32) (x3 : Int32) (x4 : Int32) (x5 : Int32)  (σ : ab_S), Wire σ → wX12_cross_l55 Q E (wX12_cross_j177 Q E K183 Bk) n x1 x2 x3 x4 x5 σ → V l mdX12_cross B 1 23 0 0 (ab_End (fun v σ' => Wire σ' ∧ v = none ∧ Q σ') (fun X σ' => Wire σ' ∧ E X σ')) 55 [(0, .ref 92), (1, .int x1), (2, .int x2), (3, .int x3), (4, .int x4), (5, .int x5)] [] σ := by
                have step : ∀ (K177 : Int32 → Int32 → Int32 → Int32 → ab_S → Prop) (k_K177 : ∀ (x1 : Int32) (x2 : Int32) (x3 : Int32) (x4 : Int32)  (σ : ab_S), Wire σ → K177 x1 x2 x3 x4 σ → V l mdX12_cross B 1 23 0 0 (ab_End (fun v σ' => Wire σ' ∧ v = none ∧ Q σ') (fun X σ' => Wire σ' ∧ E X σ')) 177 [(0, .ref 92), (1, .int x1), (2, .int x2), (3, .int x3), (4, .int x4)] [] σ), ∀ (Bk : Int32 → Int32 → Int32 → Int32 → Int32 → ab_S → Prop) (k_Bk : ∀ (x1 : Int32) (x2 : Int32) (x3 : Int32) (x4 : Int32) (x5 : Int32)  (σ : ab_S), Wire σ → Bk x1 x2 x3 x4 x5 σ → V l mdX12_cross B 1 23 0 0 (ab_End (fun v σ' => Wire σ' ∧ v = none ∧ Q σ') (fun X σ' => Wire σ' ∧ E X σ')) 55 [(0, .ref 92), (1, .int x1), (2, .int x2), (3, .int x3), (4, .int x4), (5, .int x5)] [] σ), ∀ (x1 : Int32) (x2 : Int32) (x3 : Int32) (x4 : Int32) (x5 : Int32)  (σ : ab_S), Wire σ → wX12_cross_l55_b Q E K177 Bk x1 x2 x3 x4 x5 σ → V l mdX12_cross B 1 23 0 0 (ab_End (fun v σ' => Wire σ' ∧ v = none ∧ Q σ') (fun X σ' => Wire σ' ∧ E X σ')) 55 [(0, .ref 92), (1, .int x1), (2, .int x2), (3, .int x3), (4, .int x4), (5, .int x5)] [] σ := by
                  intro K177 k_K177 Bk k_Bk
                  have k_j170 : ∀ (x1 : Int32) (x2 : Int32) (x3 : Int32) (x4 : Int32) (x5 : Int32) (y0 : Int64) (y1 : Int32)  (σ : ab_S), Wire σ → wX12_cross_j170 Q E K177 Bk x1 x2 x3 x4 x5 y0 y1 σ → V l mdX12_cross B 1 23 0 0 (ab_End (fun v σ' => Wire σ' ∧ v = none ∧ Q σ') (fun X σ' => Wire σ' ∧ E X σ')) 170 [(0, .ref 92), (1, .int x1), (2, .int x2), (3, .int x3), (4, .int x4), (5, .int x5)] [.long y0, .int y1, .ref 109] σ := by
                    intro x1 x2 x3 x4 x5 y0 y1  σ hW h
                    obtain ⟨hin, h⟩ := h
                    refine V_last 111 rfl (wsh hW rfl) hin ?_
                    refine V_nm (fun σ5 eσ5 => ?_)
                    replace h := h σ5 eσ5
                    have hW := wire_L eσ5 hW
                    obtain ⟨v6, ev6⟩ : ∃ z : Int32, z = (x5 + 1) := ⟨_, rfl⟩
                    replace h := h v6 ev6
                    refine V_iinc 112 5 (v := v6) (lv' := [(5, .int v6), (0, .ref 92), (1, .int x1), (2, .int x2), (3, .int x3), (4, .int x4)]) rfl rfl ((in_1 _).trans ev6.symm) (by decide) rfl ?_
                    refine V_goto 113 (tgt := 55) rfl (by decide) ?_
                    refine V_sub [1, 2, 3, 4, 5, 0] (lv' := [(0, .ref 92), (1, .int x1), (2, .int x2), (3, .int x3), (4, .int x4), (5, .int v6)]) rfl ?_
                    exact k_Bk x1 x2 x3 x4 v6  σ5 hW h
                  have k_j100 : ∀ (x1 : Int32) (x2 : Int32) (x3 : Int32) (x4 : Int32) (x5 : Int32) (y0 : Int32)  (σ : ab_S), Wire σ → wX12_cross_j100 Q E K177 Bk x1 x2 x3 x4 x5 y0 σ → V l mdX12_cross B 1 23 0 0 (ab_End (fun v σ' => Wire σ' ∧ v = none ∧ Q σ') (fun X σ' => Wire σ' ∧ E X σ')) 100 [(0, .ref 92), (1, .int x1), (2, .int x2), (3, .int x3), (4, .int x4), (5, .int x5)] [.int y0] σ := by
                    intro x1 x2 x3 x4 x5 y0  σ hW h
                    refine V_istore 64 (lv' := [(6, .int y0), (0, .ref 92), (1, .int x1), (2, .int x2), (3, .int x3), (4, .int x4), (5, .int x5)]) rfl (by decide) rfl ?_
                    refine V_aload_n 65 1 rfl rfl rfl ?_
                    refine V_getR 66 24 rfl clX12 flX12_60 (by decide) (wsh hW rfl) (fun _ => rfl) (wrf hW 110 rfl) ?_
                    refine V_bipush 67 (v := (32 : Int32)) rfl (by decide) ?_
                    refine V_iload_n 68 2 rfl rfl rfl ?_
                    refine V_imul 69 rfl ?_
                    refine V_pc 110 rfl ?_
                    refine V_bipush 70 (v := (8 : Int32)) rfl (by decide) ?_
                    refine V_iload_n 71 3 rfl rfl rfl ?_
                    refine V_imul 72 rfl ?_
                    refine V_iadd 73 rfl ?_
                    refine V_iload 74 5 rfl rfl ?_
                    refine V_iadd 75 rfl ?_
                    refine V_pc 118 rfl ?_
                    refine V_iload 76 0 rfl rfl ?_
                    refine V_if_eq 77 (tgt := 153) rfl (by decide) (fun hc => ?_) (fun hc => ?_)
                    · replace h := h.1 hc
                      refine V_aload_n 99 1 rfl rfl rfl ?_
                      refine V_getR 100 24 rfl clX12 flX12_60 (by decide) (wsh hW rfl) (fun _ => rfl) (wrf hW 110 rfl) ?_
                      refine V_bipush 101 (v := (32 : Int32)) rfl (by decide) ?_
                      refine V_iload_n 102 2 rfl rfl rfl ?_
                      refine V_imul 103 rfl ?_
                      refine V_bipush 104 (v := (8 : Int32)) rfl (by decide) ?_
                      refine V_pc 163 rfl ?_
                      refine V_iload_n 105 3 rfl rfl rfl ?_
                      refine V_imul 106 rfl ?_
                      refine V_iadd 107 rfl ?_
                      refine V_iload 108 5 rfl rfl ?_
                      refine V_iadd 109 rfl ?_
                      obtain ⟨hin, h⟩ := h
                      refine V_lald 110 rfl (wsh hW rfl) hin ?_
                      refine V_sub [1, 2, 3, 4, 5, 6] (lv' := [(0, .ref 92), (1, .int x1), (2, .int x2), (3, .int x3), (4, .int x4), (5, .int x5)]) rfl ?_
                      exact k_j170 x1 x2 x3 x4 x5 (σ.2.2.1 109 ((((32 : Int32) * x1) + ((8 : Int32) * x2)) + x4).toNatClampNeg) ((((32 : Int32) * x1) + ((8 : Int32) * x2)) + x4) σ hW h
                    · replace h := h.2 hc
                      refine V_pc 123 rfl ?_
                      refine V_aload_n 78 1 rfl rfl rfl ?_
                      refine V_getR 79 24 rfl clX12 flX12_60 (by decide) (wsh hW rfl) (fun _ => rfl) (wrf hW 110 rfl) ?_
                      refine V_bipush 80 (v := (32 : Int32)) rfl (by decide) ?_
                      refine V_iload_n 81 2 rfl rfl rfl ?_
                      refine V_imul 82 rfl ?_
                      refine V_bipush 83 (v := (8 : Int32)) rfl (by decide) ?_
                      refine V_pc 133 rfl ?_
                      refine V_iload_n 84 3 rfl rfl rfl ?_
                      refine V_imul 85 rfl ?_
                      refine V_iadd 86 rfl ?_
                      refine V_iload 87 5 rfl rfl ?_
                      refine V_iadd 88 rfl ?_
                      obtain ⟨hin, h⟩ := h
                      refine V_lald 89 rfl (wsh hW rfl) hin ?_
                      refine V_pc 140 rfl ?_
                      refine V_lconst 90 (v := (1 : Int64)) rfl (by decide) ?_
                      refine V_bipush 91 (v := (8 : Int32)) rfl (by decide) ?_
                      refine V_iload_n 92 3 rfl rfl rfl ?_
                      refine V_imul 93 rfl ?_
                      refine V_iload 94 6 rfl rfl ?_
                      refine V_iadd 95 rfl ?_
                      refine V_pc 148 rfl ?_
                      refine V_lshl 96 rfl ?_
                      refine V_lor 97 rfl ?_
                      refine V_goto 98 (tgt := 170) rfl (by decide) ?_
                      refine V_sub [1, 2, 3, 4, 5, 6] (lv' := [(0, .ref 92), (1, .int x1), (2, .int x2), (3, .int x3), (4, .int x4), (5, .int x5)]) rfl ?_
                      exact k_j170 x1 x2 x3 x4 x5 ((σ.2.2.1 109 ((((32 : Int32) * x1) + ((8 : Int32) * x2)) + x4).toNatClampNeg) ||| ((1 : Int64) <<< ((((8 : Int32) * x2) + x5).toInt64 &&& 63))) ((((32 : Int32) * x1) + ((8 : Int32) * x2)) + x4) σ hW h
                  intro x1 x2 x3 x4 x5  σ hW h
                  refine V_iload 36 5 rfl rfl ?_
                  refine V_aload_n 37 0 rfl rfl rfl ?_
                  refine V_getR 38 12 rfl clX12 flX12_29 (by decide) (wsh hW rfl) (fun _ => rfl) (wrf hW 100 rfl) ?_
                  refine V_iload_n 39 3 rfl rfl rfl ?_
                  obtain ⟨hin, h⟩ := h
                  refine V_iald 40 rfl (wsh hW rfl) hin ?_
                  refine V_icmp_ge 41 (tgt := 177) rfl (by decide) (fun hc => ?_) (fun hc => ?_)
                  · replace h := h.1 hc
                    refine V_sub [0, 1, 2, 3, 4] (lv' := [(0, .ref 92), (1, .int x1), (2, .int x2), (3, .int x3), (4, .int x4)]) rfl ?_
                    exact k_K177 x1 x2 x3 x4  σ hW h
                  · replace h := h.2 hc
                    refine V_pc 66 rfl ?_
                    refine V_aload_n 42 0 rfl rfl rfl ?_
                    refine V_getR 43 26 rfl clX12 flX12_66 (by decide) (wsh hW rfl) (fun _ => rfl) (wrf hW 112 rfl) ?_
                    refine V_bipush 44 (v := (8 : Int32)) rfl (by decide) ?_
                    refine V_iload_n 45 3 rfl rfl rfl ?_
                    refine V_imul 46 rfl ?_
                    refine V_iload 47 5 rfl rfl ?_
                    refine V_pc 76 rfl ?_
                    refine V_iadd 48 rfl ?_
                    obtain ⟨hin, h⟩ := h
                    refine V_iald 49 rfl (wsh hW rfl) hin ?_
                    refine V_aload_n 50 0 rfl rfl rfl ?_
                    refine V_getR 51 26 rfl clX12 flX12_66 (by decide) (wsh hW rfl) (fun _ => rfl) (wrf hW 112 rfl) ?_
                    refine V_bipush 52 (v := (8 : Int32)) rfl (by decide) ?_
                    refine V_iload_n 53 3 rfl rfl rfl ?_
                    refine V_pc 85 rfl ?_
                    refine V_imul 54 rfl ?_
                    refine V_iload 55 4 rfl rfl ?_
                    refine V_iadd 56 rfl ?_
                    obtain ⟨hin, h⟩ := h
                    refine V_iald 57 rfl (wsh hW rfl) hin ?_
                    refine V_iconst 58 (v := (1 : Int32)) rfl (by decide) ?_
                    refine V_iadd 59 rfl ?_
                    refine V_pc 92 rfl ?_
                    refine V_icmp_ne 60 (tgt := 99) rfl (by decide) (fun hc => ?_) (fun hc => ?_)
                    · replace h := h.1 hc
                      refine V_iconst 63 (v := (0 : Int32)) rfl (by decide) ?_
                      exact k_j100 x1 x2 x3 x4 x5 (0 : Int32) σ hW h
                    · replace h := h.2 hc
                      refine V_pc 95 rfl ?_
                      refine V_iconst 61 (v := (1 : Int32)) rfl (by decide) ?_
                      refine V_goto 62 (tgt := 100) rfl (by decide) ?_
                      exact k_j100 x1 x2 x3 x4 x5 (1 : Int32) σ hW h
                intro n
                induction n with
                | zero => intro x1 x2 x3 x4 x5  σ hW h; exact absurd h id
                | succ n ih => exact step _ k_j177 _ ih
              intro x1 x2 x3 x4  σ hW h
              refine V_iload 28 4 rfl rfl ?_
              refine V_aload_n 29 0 rfl rfl rfl ?_
              refine V_getR 30 12 rfl clX12 flX12_29 (by decide) (wsh hW rfl) (fun _ => rfl) (wrf hW 100 rfl) ?_
              refine V_iload_n 31 3 rfl rfl rfl ?_
              obtain ⟨hin, h⟩ := h
              refine V_iald 32 rfl (wsh hW rfl) hin ?_
              refine V_icmp_ge 33 (tgt := 183) rfl (by decide) (fun hc => ?_) (fun hc => ?_)
              · replace h := h.1 hc
                refine V_sub [0, 1, 2] (lv' := [(0, .ref 92), (1, .int x1), (2, .int x2)]) rfl ?_
                exact k_K183 x1 x2  σ hW h
              · replace h := h.2 hc
                refine V_pc 52 rfl ?_
                refine V_iconst 34 (v := (0 : Int32)) rfl (by decide) ?_
                refine V_istore 35 (lv' := [(5, .int (0 : Int32)), (0, .ref 92), (1, .int x1), (2, .int x2), (3, .int x3), (4, .int x4)]) rfl (by decide) rfl ?_
                refine V_sub [1, 2, 3, 4, 5, 0] (lv' := [(0, .ref 92), (1, .int x1), (2, .int x2), (3, .int x3), (4, .int x4), (5, .int (0 : Int32))]) rfl ?_
                obtain ⟨n, h⟩ := h
                exact k_l55 n x1 x2 x3 x4 (0 : Int32) σ hW h
            intro n
            induction n with
            | zero => intro x1 x2 x3 x4  σ hW h; exact absurd h id
            | succ n ih => exact step _ k_j183 _ ih
          intro x1 x2  σ hW h
          refine V_iload_n 11 2 rfl rfl rfl ?_
          refine V_aload_n 12 0 rfl rfl rfl ?_
          refine V_getR 13 17 rfl clX12 flX12_42 (by decide) (wsh hW rfl) (fun _ => rfl) (wrf hW 104 rfl) ?_
          refine V_iload_n 14 1 rfl rfl rfl ?_
          obtain ⟨hin, h⟩ := h
          refine V_iald 15 rfl (wsh hW rfl) hin ?_
          refine V_icmp_gt 16 (tgt := 189) rfl (by decide) (fun hc => ?_) (fun hc => ?_)
          · replace h := h.1 hc
            refine V_sub [0, 1] (lv' := [(0, .ref 92), (1, .int x1)]) rfl ?_
            exact k_K189 x1  σ hW h
          · replace h := h.2 hc
            refine V_pc 27 rfl ?_
            refine V_aload_n 17 0 rfl rfl rfl ?_
            refine V_getR 18 18 rfl clX12 flX12_45 (by decide) (wsh hW rfl) (fun _ => rfl) (wrf hW 105 rfl) ?_
            refine V_iconst 19 (v := (4 : Int32)) rfl (by decide) ?_
            refine V_iload_n 20 1 rfl rfl rfl ?_
            refine V_imul 21 rfl ?_
            refine V_iload_n 22 2 rfl rfl rfl ?_
            refine V_pc 35 rfl ?_
            refine V_iadd 23 rfl ?_
            obtain ⟨hin, h⟩ := h
            refine V_iald 24 rfl (wsh hW rfl) hin ?_
            refine V_topi (fun v7 ev7 => ?_)
            replace h := h v7 ev7
            refine V_istore_n 25 (lv' := [(3, .int v7), (0, .ref 92), (1, .int x1), (2, .int x2)]) rfl rfl (by decide) rfl ?_
            refine V_iconst 26 (v := (0 : Int32)) rfl (by decide) ?_
            refine V_istore 27 (lv' := [(4, .int (0 : Int32)), (3, .int v7), (0, .ref 92), (1, .int x1), (2, .int x2)]) rfl (by decide) rfl ?_
            refine V_sub [2, 3, 4, 1, 0] (lv' := [(0, .ref 92), (1, .int x1), (2, .int x2), (3, .int v7), (4, .int (0 : Int32))]) rfl ?_
            obtain ⟨n, h⟩ := h
            exact k_l41 n x1 x2 v7 (0 : Int32) σ hW h
        intro n
        induction n with
        | zero => intro x1 x2  σ hW h; exact absurd h id
        | succ n ih => exact step _ k_j189 _ ih
      intro x1  σ hW h
      refine V_iload_n 2 1 rfl rfl rfl ?_
      refine V_aload_n 3 0 rfl rfl rfl ?_
      refine V_get (v := .int (σ.2.1 92 14)) 4 14 rfl clX12 flX12_316 (by decide) (wsh hW rfl) (fun _ => rfl) ?_
      refine V_icmp_ge 5 (tgt := 200) rfl (by decide) (fun hc => ?_) (fun hc => ?_)
      · replace h := h.1 hc
        exact V_vret 123 rfl rfl ⟨hW, rfl, h⟩
      · replace h := h.2 hc
        refine V_pc 10 rfl ?_
        refine V_aload_n 6 0 rfl rfl rfl ?_
        refine V_iload_n 7 1 rfl rfl rfl ?_
        refine V_callV 8 1 (as := [.int x1]) (rest := []) rfl mlX12_395 yvX12_direct rfl rfl clX12 (wsh hW rfl) (by decide) (by decide) (Nat.le_of_ble_eq_true rfl) (by decide) (by decide) (fun B9 => ceX12_direct hl B9 hW h) (fun X9 τ9 h9 => VX_out rfl h9) ?_
        rintro v9 σ8 ⟨hW, rfl, h⟩
        refine V_iconst 9 (v := (0 : Int32)) rfl (by decide) ?_
        refine V_istore_n 10 (lv' := [(2, .int (0 : Int32)), (0, .ref 92), (1, .int x1)]) rfl rfl (by decide) rfl ?_
        refine V_sub [1, 2, 0] (lv' := [(0, .ref 92), (1, .int x1), (2, .int (0 : Int32))]) rfl ?_
        obtain ⟨n, h⟩ := h
        exact k_l17 n x1 (0 : Int32) σ8 hW h
    intro n
    induction n with
    | zero => intro x1  σ hW h; exact absurd h id
    | succ n ih => exact step  _ ih
  intro σ hW h
  refine V_iconst 0 (v := (0 : Int32)) rfl (by decide) ?_
  refine V_istore_n 1 (lv' := [(1, .int (0 : Int32)), (0, .ref 92)]) rfl rfl (by decide) rfl ?_
  refine V_sub [1, 0] (lv' := [(0, .ref 92), (1, .int (0 : Int32))]) rfl ?_
  obtain ⟨n, h⟩ := h
  exact k_l2 n (0 : Int32) σ hW h

def wX12_order0_j40 (Q : Int32 → ab_S → Prop) (E : String → ab_S → Prop)  (σ : ab_S) : Prop := wX12_cross (fun σ1 => wX12_turning (fun u3 σ2 => ((u3 < 0) → Q (-1 : Int32) σ2) ∧ (¬ (u3 < 0) → Q ((3000 : Int32) + u3) σ2)) E σ1) E σ
def wX12_order0_l21_b (Q : Int32 → ab_S → Prop) (E : String → ab_S → Prop) (K40 : ab_S → Prop) (Bk : Int32 → ab_S → Prop) (x2 : Int32) (σ : ab_S) : Prop := (((σ.2.1 92 9) ≤ x2) → K40 σ) ∧ (¬ ((σ.2.1 92 9) ≤ x2) → wX12_giveLevels x2 (fun σ4 => ∀ v5 : Int32, v5 = (x2 + 1) → Bk v5 σ4) E σ)
def wX12_order0_l21 (Q : Int32 → ab_S → Prop) (E : String → ab_S → Prop) (K40 : ab_S → Prop) : Nat → Int32 → ab_S → Prop
  | 0, _, _ => False
  | n + 1, x2, σ => wX12_order0_l21_b Q E K40 (wX12_order0_l21 Q E K40 n) x2 σ
def wX12_order0  (Q : Int32 → ab_S → Prop) (E : String → ab_S → Prop) (σ : ab_S) : Prop := wX12_induce (fun σ6 => wX12_turning (fun u8 σ7 => ((u8 < 0) → ∃ n, wX12_order0_l21 Q E (wX12_order0_j40 Q E) n (0 : Int32) σ7) ∧ (¬ (u8 < 0) → Q ((2000 : Int32) + u8) σ7)) E σ6) E σ
set_option maxHeartbeats 4000000 in
set_option maxRecDepth 100000 in
theorem ceX12_order0 {l : Launch} (hl : l.stackTraces = false) (B : Nat)   {Q : Int32 → ab_S → Prop} {E : String → ab_S → Prop} {σ : ab_S} (hW : Wire σ) (h : wX12_order0  Q E σ) : ab_Mt l yX12_order0 mdX12_order0 B 3 72 0 0 [.ref 92] σ (fun v σ' => Wire σ' ∧ ∃ r : Int32, v = some (.int r) ∧ Q r σ') (fun X σ' => Wire σ' ∧ E X σ') := by
  refine V_met hl ⟨rfl, rfl, by decide⟩ rfl dkX12_order0 (Nat.le_of_ble_eq_true rfl) ?_
  show V l mdX12_order0 B 3 72 0 0 (ab_End _ _) 0 [(0, .ref 92)] [] σ
  revert h hW
  revert σ
  have k_j40 : ∀   (σ : ab_S), Wire σ → wX12_order0_j40 Q E  σ → V l mdX12_order0 B 3 72 0 0 (ab_End (fun v σ' => Wire σ' ∧ ∃ r : Int32, v = some (.int r) ∧ Q r σ') (fun X σ' => Wire σ' ∧ E X σ')) 40 [(0, .ref 92)] [] σ := by
    intro   σ hW h
    refine V_aload_n 22 0 rfl rfl rfl ?_
    refine V_callV 23 0 (as := []) (rest := []) rfl mlX12_414 yvX12_cross rfl rfl clX12 (wsh hW rfl) (by decide) (by decide) (Nat.le_of_ble_eq_true rfl) (by decide) (by decide) (fun B9 => ceX12_cross hl B9 hW h) (fun X9 τ9 h9 => VX_out rfl h9) ?_
    rintro v9 σ1 ⟨hW, rfl, h⟩
    refine V_aload_n 24 0 rfl rfl rfl ?_
    refine V_callV 25 0 (as := []) (rest := []) rfl mlX12_408 yvX12_turning rfl rfl clX12 (wsh hW rfl) (by decide) (by decide) (Nat.le_of_ble_eq_true rfl) (by decide) (by decide) (fun B9 => ceX12_turning hl B9 hW h) (fun X9 τ9 h9 => VX_out rfl h9) ?_
    rintro v9 σ2 ⟨hW, u3, rfl, h⟩
    refine V_istore_n 26 (lv' := [(1, .int u3), (0, .ref 92)]) rfl rfl (by decide) rfl ?_
    refine V_iload_n 27 0 rfl rfl rfl ?_
    refine V_if_lt 28 (tgt := 61) rfl (by decide) (fun hc => ?_) (fun hc => ?_)
    · replace h := h.1 hc
      refine V_iconst 33 (v := (-1 : Int32)) rfl (by decide) ?_
      exact V_iret 34 rfl rfl ⟨hW, _, rfl, h⟩
    · replace h := h.2 hc
      refine V_pc 53 rfl ?_
      refine V_sipush 29 (v := (3000 : Int32)) rfl (by decide) ?_
      refine V_iload_n 30 0 rfl rfl rfl ?_
      refine V_iadd 31 rfl ?_
      refine V_goto 32 (tgt := 62) rfl (by decide) ?_
      exact V_iret 34 rfl rfl ⟨hW, _, rfl, h⟩
  have k_l21 : ∀ (n : Nat) (x2 : Int32)  (σ : ab_S), Wire σ → wX12_order0_l21 Q E (wX12_order0_j40 Q E) n x2 σ → V l mdX12_order0 B 3 72 0 0 (ab_End (fun v σ' => Wire σ' ∧ ∃ r : Int32, v = some (.int r) ∧ Q r σ') (fun X σ' => Wire σ' ∧ E X σ')) 21 [(0, .ref 92), (2, .int x2)] [] σ := by
    have step : ∀ (K40 : ab_S → Prop) (k_K40 : ∀   (σ : ab_S), Wire σ → K40  σ → V l mdX12_order0 B 3 72 0 0 (ab_End (fun v σ' => Wire σ' ∧ ∃ r : Int32, v = some (.int r) ∧ Q r σ') (fun X σ' => Wire σ' ∧ E X σ')) 40 [(0, .ref 92)] [] σ), ∀ (Bk : Int32 → ab_S → Prop) (k_Bk : ∀ (x2 : Int32)  (σ : ab_S), Wire σ → Bk x2 σ → V l mdX12_order0 B 3 72 0 0 (ab_End (fun v σ' => Wire σ' ∧ ∃ r : Int32, v = some (.int r) ∧ Q r σ') (fun X σ' => Wire σ' ∧ E X σ')) 21 [(0, .ref 92), (2, .int x2)] [] σ), ∀ (x2 : Int32)  (σ : ab_S), Wire σ → wX12_order0_l21_b Q E K40 Bk x2 σ → V l mdX12_order0 B 3 72 0 0 (ab_End (fun v σ' => Wire σ' ∧ ∃ r : Int32, v = some (.int r) ∧ Q r σ') (fun X σ' => Wire σ' ∧ E X σ')) 21 [(0, .ref 92), (2, .int x2)] [] σ := by
      intro K40 k_K40 Bk k_Bk
      intro x2  σ hW h
      refine V_iload_n 13 1 rfl rfl rfl ?_
      refine V_aload_n 14 0 rfl rfl rfl ?_
      refine V_get (v := .int (σ.2.1 92 9)) 15 9 rfl clX12 flX12_306 (by decide) (wsh hW rfl) (fun _ => rfl) ?_
      refine V_icmp_ge 16 (tgt := 40) rfl (by decide) (fun hc => ?_) (fun hc => ?_)
      · replace h := h.1 hc
        refine V_sub [0] (lv' := [(0, .ref 92)]) rfl ?_
        exact k_K40  σ hW h
      · replace h := h.2 hc
        refine V_pc 29 rfl ?_
        refine V_aload_n 17 0 rfl rfl rfl ?_
        refine V_iload_n 18 1 rfl rfl rfl ?_
        refine V_callV 19 1 (as := [.int x2]) (rest := []) rfl mlX12_411 yvX12_giveLevels rfl rfl clX12 (wsh hW rfl) (by decide) (by decide) (Nat.le_of_ble_eq_true rfl) (by decide) (by decide) (fun B9 => ceX12_giveLevels hl B9 hW h) (fun X9 τ9 h9 => VX_out rfl h9) ?_
        rintro v9 σ4 ⟨hW, rfl, h⟩
        obtain ⟨v5, ev5⟩ : ∃ z : Int32, z = (x2 + 1) := ⟨_, rfl⟩
        replace h := h v5 ev5
        refine V_iinc 20 1 (v := v5) (lv' := [(2, .int v5), (0, .ref 92)]) rfl rfl ((in_1 _).trans ev5.symm) (by decide) rfl ?_
        refine V_goto 21 (tgt := 21) rfl (by decide) ?_
        refine V_sub [1, 0] (lv' := [(0, .ref 92), (2, .int v5)]) rfl ?_
        exact k_Bk v5  σ4 hW h
    intro n
    induction n with
    | zero => intro x2  σ hW h; exact absurd h id
    | succ n ih => exact step _ k_j40 _ ih
  intro σ hW h
  refine V_aload_n 0 0 rfl rfl rfl ?_
  refine V_callV 1 0 (as := []) (rest := []) rfl mlX12_405 yvX12_induce rfl rfl clX12 (wsh hW rfl) (by decide) (by decide) (Nat.le_of_ble_eq_true rfl) (by decide) (by decide) (fun B9 => ceX12_induce hl B9 hW h) (fun X9 τ9 h9 => VX_out rfl h9) ?_
  rintro v9 σ6 ⟨hW, rfl, h⟩
  refine V_aload_n 2 0 rfl rfl rfl ?_
  refine V_callV 3 0 (as := []) (rest := []) rfl mlX12_408 yvX12_turning rfl rfl clX12 (wsh hW rfl) (by decide) (by decide) (Nat.le_of_ble_eq_true rfl) (by decide) (by decide) (fun B9 => ceX12_turning hl B9 hW h) (fun X9 τ9 h9 => VX_out rfl h9) ?_
  rintro v9 σ7 ⟨hW, u8, rfl, h⟩
  refine V_istore_n 4 (lv' := [(1, .int u8), (0, .ref 92)]) rfl rfl (by decide) rfl ?_
  refine V_iload_n 5 0 rfl rfl rfl ?_
  refine V_if_lt 6 (tgt := 19) rfl (by decide) (fun hc => ?_) (fun hc => ?_)
  · replace h := h.1 hc
    refine V_iconst 11 (v := (0 : Int32)) rfl (by decide) ?_
    refine V_istore_n 12 (lv' := [(2, .int (0 : Int32)), (1, .int u8), (0, .ref 92)]) rfl rfl (by decide) rfl ?_
    refine V_sub [2, 0] (lv' := [(0, .ref 92), (2, .int (0 : Int32))]) rfl ?_
    obtain ⟨n, h⟩ := h
    exact k_l21 n (0 : Int32) σ7 hW h
  · replace h := h.2 hc
    refine V_pc 13 rfl ?_
    refine V_sipush 7 (v := (2000 : Int32)) rfl (by decide) ?_
    refine V_iload_n 8 0 rfl rfl rfl ?_
    refine V_iadd 9 rfl ?_
    exact V_iret 10 rfl rfl ⟨hW, _, rfl, h⟩

def wX12_visitOf (a0 : Int32) (a1 : Int32) (Q : Int32 → ab_S → Prop) (E : String → ab_S → Prop) (σ : ab_S) : Prop := vp_in a0 13 ∧ (vp_in (((8 : Int32) * a0) + a1) 104 ∧ (Q ((σ.2.1 112 a0.toNatClampNeg) - (((σ.2.1 111 (((8 : Int32) * a0) + a1).toNatClampNeg) - (1 : Int32)) / (2 : Int32))) σ))
set_option maxHeartbeats 4000000 in
set_option maxRecDepth 100000 in
theorem ceX12_visitOf {l : Launch} (hl : l.stackTraces = false) (B : Nat) {a0 : Int32} {a1 : Int32}  {Q : Int32 → ab_S → Prop} {E : String → ab_S → Prop} {σ : ab_S} (hW : Wire σ) (h : wX12_visitOf a0 a1 Q E σ) : ab_Mt l yX12_visitOf mdX12_visitOf B 0 0 0 0 [.ref 92, .int a0, .int a1] σ (fun v σ' => Wire σ' ∧ ∃ r : Int32, v = some (.int r) ∧ Q r σ') (fun X σ' => Wire σ' ∧ E X σ') := by
  refine V_met hl ⟨rfl, rfl, by decide⟩ rfl dkX12_visitOf (Nat.le_of_ble_eq_true rfl) ?_
  show V l mdX12_visitOf B 0 0 0 0 (ab_End _ _) 0 [(0, .ref 92), (1, .int a0), (2, .int a1)] [] σ
  refine V_aload_n 0 0 rfl rfl rfl ?_
  refine V_getR 1 27 rfl clX12 flX12_69 (by decide) (wsh hW rfl) (fun _ => rfl) (wrf hW 113 rfl) ?_
  refine V_iload_n 2 1 rfl rfl rfl ?_
  obtain ⟨hin, h⟩ := h
  refine V_iald 3 rfl (wsh hW rfl) hin ?_
  refine V_aload_n 4 0 rfl rfl rfl ?_
  refine V_getR 5 26 rfl clX12 flX12_66 (by decide) (wsh hW rfl) (fun _ => rfl) (wrf hW 112 rfl) ?_
  refine V_pc 10 rfl ?_
  refine V_bipush 6 (v := (8 : Int32)) rfl (by decide) ?_
  refine V_iload_n 7 1 rfl rfl rfl ?_
  refine V_imul 8 rfl ?_
  refine V_iload_n 9 2 rfl rfl rfl ?_
  refine V_iadd 10 rfl ?_
  obtain ⟨hin, h⟩ := h
  refine V_iald 11 rfl (wsh hW rfl) hin ?_
  refine V_pc 17 rfl ?_
  refine V_iconst 12 (v := (1 : Int32)) rfl (by decide) ?_
  refine V_isub 13 rfl ?_
  refine V_iconst 14 (v := (2 : Int32)) rfl (by decide) ?_
  refine V_idiv 15 rfl (by decide) ?_
  refine V_isub 16 rfl ?_
  exact V_iret 17 rfl rfl ⟨hW, _, rfl, h⟩

def wX12_comes_j108 (a0 : Int32) (a1 : Int32) (a2 : Int32) (a3 : Int32) (Q : ab_S → Prop) (E : String → ab_S → Prop) (Bk : Int32 → Int32 → ab_S → Prop) (x5 : Int32) (x6 : Int32) (y0 : Int32) (y1 : Int32) (σ : ab_S) : Prop := vp_in y1 32 ∧ (∀ σ1 : ab_S, σ1 = ab_I σ 120 y1.toNatClampNeg (vp_nar .boolean y0) → ∀ v2 : Int32, v2 = (x6 + 1) → Bk x5 v2 σ1)
def wX12_comes_j103 (a0 : Int32) (a1 : Int32) (a2 : Int32) (a3 : Int32) (Q : ab_S → Prop) (E : String → ab_S → Prop) (Bk : Int32 → Int32 → ab_S → Prop) (x5 : Int32) (x6 : Int32) (y0 : Int32) (σ : ab_S) : Prop := wX12_comes_j108 a0 a1 a2 a3 Q E Bk x5 x6 (1 : Int32) y0 σ
def wX12_comes_j70 (a0 : Int32) (a1 : Int32) (a2 : Int32) (a3 : Int32) (Q : ab_S → Prop) (E : String → ab_S → Prop) (Bk : Int32 → Int32 → ab_S → Prop) (x5 : Int32) (x6 : Int32) (y0 : Int32) (σ : ab_S) : Prop := vp_in (((8 : Int32) * a1) + x6) 32 ∧ (((¬ (σ.2.1 120 (((8 : Int32) * a1) + x6).toNatClampNeg) = 0) → wX12_comes_j103 a0 a1 a2 a3 Q E Bk x5 x6 (((8 : Int32) * a1) + x6) σ) ∧ (¬ (¬ (σ.2.1 120 (((8 : Int32) * a1) + x6).toNatClampNeg) = 0) → ((y0 = 0) → wX12_comes_j108 a0 a1 a2 a3 Q E Bk x5 x6 (0 : Int32) (((8 : Int32) * a1) + x6) σ) ∧ (¬ (y0 = 0) → wX12_comes_j103 a0 a1 a2 a3 Q E Bk x5 x6 (((8 : Int32) * a1) + x6) σ)))
def wX12_comes_j69 (a0 : Int32) (a1 : Int32) (a2 : Int32) (a3 : Int32) (Q : ab_S → Prop) (E : String → ab_S → Prop) (Bk : Int32 → Int32 → ab_S → Prop) (x5 : Int32) (x6 : Int32) (σ : ab_S) : Prop := wX12_comes_j70 a0 a1 a2 a3 Q E Bk x5 x6 (0 : Int32) σ
def wX12_comes_j48 (a0 : Int32) (a1 : Int32) (a2 : Int32) (a3 : Int32) (Q : ab_S → Prop) (E : String → ab_S → Prop) (Bk : Int32 → Int32 → ab_S → Prop) (x5 : Int32) (x6 : Int32) (y0 : Int32) (σ : ab_S) : Prop := ((¬ y0 = a3) → wX12_comes_j69 a0 a1 a2 a3 Q E Bk x5 x6 σ) ∧ (¬ (¬ y0 = a3) → wX12_visitOf x5 x6 (fun u4 σ3 => ((¬ u4 = a2) → wX12_comes_j69 a0 a1 a2 a3 Q E Bk x5 x6 σ3) ∧ (¬ (¬ u4 = a2) → wX12_comes_j70 a0 a1 a2 a3 Q E Bk x5 x6 (1 : Int32) σ3)) E σ)
def wX12_comes_l15_b (a0 : Int32) (a1 : Int32) (a2 : Int32) (a3 : Int32) (Q : ab_S → Prop) (E : String → ab_S → Prop) (Bk : Int32 → Int32 → ab_S → Prop) (x5 : Int32) (x6 : Int32) (σ : ab_S) : Prop := vp_in x5 13 ∧ ((((σ.2.1 99 x5.toNatClampNeg) ≤ x6) → Q σ) ∧ (¬ ((σ.2.1 99 x5.toNatClampNeg) ≤ x6) → vp_in x5 13 ∧ (((¬ (((σ.2.1 100 x5.toNatClampNeg) >>> (x6 &&& 31)) &&& (1 : Int32)) = (1 : Int32)) → wX12_comes_j48 a0 a1 a2 a3 Q E Bk x5 x6 (0 : Int32) σ) ∧ (¬ (¬ (((σ.2.1 100 x5.toNatClampNeg) >>> (x6 &&& 31)) &&& (1 : Int32)) = (1 : Int32)) → wX12_comes_j48 a0 a1 a2 a3 Q E Bk x5 x6 (1 : Int32) σ))))
def wX12_comes_l15 (a0 : Int32) (a1 : Int32) (a2 : Int32) (a3 : Int32) (Q : ab_S → Prop) (E : String → ab_S → Prop) : Nat → Int32 → Int32 → ab_S → Prop
  | 0, _, _, _ => False
  | n + 1, x5, x6, σ => wX12_comes_l15_b a0 a1 a2 a3 Q E (wX12_comes_l15 a0 a1 a2 a3 Q E n) x5 x6 σ
def wX12_comes (a0 : Int32) (a1 : Int32) (a2 : Int32) (a3 : Int32) (Q : ab_S → Prop) (E : String → ab_S → Prop) (σ : ab_S) : Prop := vp_in (((4 : Int32) * a0) + a1) 124 ∧ (∀ v5 : Int32, v5 = (σ.2.1 104 (((4 : Int32) * a0) + a1).toNatClampNeg) → ∃ n, wX12_comes_l15 a0 a1 a2 a3 Q E n v5 (0 : Int32) σ)
set_option maxHeartbeats 4000000 in
set_option maxRecDepth 100000 in
theorem ceX12_comes {l : Launch} (hl : l.stackTraces = false) (B : Nat) {a0 : Int32} {a1 : Int32} {a2 : Int32} {a3 : Int32}  {Q : ab_S → Prop} {E : String → ab_S → Prop} {σ : ab_S} (hW : Wire σ) (h : wX12_comes a0 a1 a2 a3 Q E σ) : ab_Mt l yX12_comes mdX12_comes B 1 22 0 0 [.ref 92, .int a0, .int a1, .int a2, .int a3] σ (fun v σ' => Wire σ' ∧ v = none ∧ Q σ') (fun X σ' => Wire σ' ∧ E X σ') := by
  refine V_met hl ⟨rfl, rfl, by decide⟩ rfl dkX12_comes (Nat.le_of_ble_eq_true rfl) ?_
  show V l mdX12_comes B 1 22 0 0 (ab_End _ _) 0 [(0, .ref 92), (1, .int a0), (2, .int a1), (3, .int a2), (4, .int a3)] [] σ
  revert h hW
  revert σ
  have k_l15 : ∀ (n : Nat) (x5 : Int32) (x6 : Int32)  (σ : ab_S), Wire σ → wX12_comes_l15 a0 a1 a2 a3 Q E n x5 x6 σ → V l mdX12_comes B 1 22 0 0 (ab_End (fun v σ' => Wire σ' ∧ v = none ∧ Q σ') (fun X σ' => Wire σ' ∧ E X σ')) 15 [(0, .ref 92), (2, .int a1), (3, .int a2), (4, .int a3), (5, .int x5), (6, .int x6)] [] σ := by
    have step : ∀ (Bk : Int32 → Int32 → ab_S → Prop) (k_Bk : ∀ (x5 : Int32) (x6 : Int32)  (σ : ab_S), Wire σ → Bk x5 x6 σ → V l mdX12_comes B 1 22 0 0 (ab_End (fun v σ' => Wire σ' ∧ v = none ∧ Q σ') (fun X σ' => Wire σ' ∧ E X σ')) 15 [(0, .ref 92), (2, .int a1), (3, .int a2), (4, .int a3), (5, .int x5), (6, .int x6)] [] σ), ∀ (x5 : Int32) (x6 : Int32)  (σ : ab_S), Wire σ → wX12_comes_l15_b a0 a1 a2 a3 Q E Bk x5 x6 σ → V l mdX12_comes B 1 22 0 0 (ab_End (fun v σ' => Wire σ' ∧ v = none ∧ Q σ') (fun X σ' => Wire σ' ∧ E X σ')) 15 [(0, .ref 92), (2, .int a1), (3, .int a2), (4, .int a3), (5, .int x5), (6, .int x6)] [] σ := by
      intro Bk k_Bk
      have k_j108 : ∀ (x5 : Int32) (x6 : Int32) (y0 : Int32) (y1 : Int32)  (σ : ab_S), Wire σ → wX12_comes_j108 a0 a1 a2 a3 Q E Bk x5 x6 y0 y1 σ → V l mdX12_comes B 1 22 0 0 (ab_End (fun v σ' => Wire σ' ∧ v = none ∧ Q σ') (fun X σ' => Wire σ' ∧ E X σ')) 108 [(0, .ref 92), (2, .int a1), (3, .int a2), (4, .int a3), (5, .int x5), (6, .int x6)] [.int y0, .int y1, .ref 120] σ := by
        intro x5 x6 y0 y1  σ hW h
        obtain ⟨hin, h⟩ := h
        refine V_zast 63 rfl (wsh hW rfl) hin ?_
        refine V_nm (fun σ1 eσ1 => ?_)
        replace h := h σ1 eσ1
        have hW := wire_I eσ1 hW
        obtain ⟨v2, ev2⟩ : ∃ z : Int32, z = (x6 + 1) := ⟨_, rfl⟩
        replace h := h v2 ev2
        refine V_iinc 64 5 (v := v2) (lv' := [(6, .int v2), (0, .ref 92), (2, .int a1), (3, .int a2), (4, .int a3), (5, .int x5)]) rfl rfl ((in_1 _).trans ev2.symm) (by decide) rfl ?_
        refine V_goto 65 (tgt := 15) rfl (by decide) ?_
        refine V_sub [1, 2, 3, 4, 5, 0] (lv' := [(0, .ref 92), (2, .int a1), (3, .int a2), (4, .int a3), (5, .int x5), (6, .int v2)]) rfl ?_
        exact k_Bk x5 v2  σ1 hW h
      have k_j103 : ∀ (x5 : Int32) (x6 : Int32) (y0 : Int32)  (σ : ab_S), Wire σ → wX12_comes_j103 a0 a1 a2 a3 Q E Bk x5 x6 y0 σ → V l mdX12_comes B 1 22 0 0 (ab_End (fun v σ' => Wire σ' ∧ v = none ∧ Q σ') (fun X σ' => Wire σ' ∧ E X σ')) 103 [(0, .ref 92), (2, .int a1), (3, .int a2), (4, .int a3), (5, .int x5), (6, .int x6)] [.int y0, .ref 120] σ := by
        intro x5 x6 y0  σ hW h
        refine V_iconst 60 (v := (1 : Int32)) rfl (by decide) ?_
        refine V_goto 61 (tgt := 108) rfl (by decide) ?_
        exact k_j108 x5 x6 (1 : Int32) y0 σ hW h
      have k_j70 : ∀ (x5 : Int32) (x6 : Int32) (y0 : Int32)  (σ : ab_S), Wire σ → wX12_comes_j70 a0 a1 a2 a3 Q E Bk x5 x6 y0 σ → V l mdX12_comes B 1 22 0 0 (ab_End (fun v σ' => Wire σ' ∧ v = none ∧ Q σ') (fun X σ' => Wire σ' ∧ E X σ')) 70 [(0, .ref 92), (2, .int a1), (3, .int a2), (4, .int a3), (5, .int x5), (6, .int x6)] [.int y0] σ := by
        intro x5 x6 y0  σ hW h
        refine V_istore 41 (lv' := [(7, .int y0), (0, .ref 92), (2, .int a1), (3, .int a2), (4, .int a3), (5, .int x5), (6, .int x6)]) rfl (by decide) rfl ?_
        refine V_aload_n 42 1 rfl rfl rfl ?_
        refine V_getR 43 36 rfl clX12 flX12_93 (by decide) (wsh hW rfl) (fun _ => rfl) (wrf hW 121 rfl) ?_
        refine V_bipush 44 (v := (8 : Int32)) rfl (by decide) ?_
        refine V_iload_n 45 2 rfl rfl rfl ?_
        refine V_imul 46 rfl ?_
        refine V_pc 80 rfl ?_
        refine V_iload 47 6 rfl rfl ?_
        refine V_iadd 48 rfl ?_
        refine V_aload_n 49 1 rfl rfl rfl ?_
        refine V_getR 50 36 rfl clX12 flX12_93 (by decide) (wsh hW rfl) (fun _ => rfl) (wrf hW 121 rfl) ?_
        refine V_bipush 51 (v := (8 : Int32)) rfl (by decide) ?_
        refine V_iload_n 52 2 rfl rfl rfl ?_
        refine V_pc 90 rfl ?_
        refine V_imul 53 rfl ?_
        refine V_iload 54 6 rfl rfl ?_
        refine V_iadd 55 rfl ?_
        obtain ⟨hin, h⟩ := h
        refine V_zald 56 rfl (wsh hW rfl) hin ?_
        refine V_if_ne 57 (tgt := 103) rfl (by decide) (fun hc => ?_) (fun hc => ?_)
        · replace h := h.1 hc
          refine V_sub [1, 2, 3, 4, 5, 6] (lv' := [(0, .ref 92), (2, .int a1), (3, .int a2), (4, .int a3), (5, .int x5), (6, .int x6)]) rfl ?_
          exact k_j103 x5 x6 (((8 : Int32) * a1) + x6) σ hW h
        · replace h := h.2 hc
          refine V_pc 98 rfl ?_
          refine V_iload 58 0 rfl rfl ?_
          refine V_if_eq 59 (tgt := 107) rfl (by decide) (fun hc => ?_) (fun hc => ?_)
          · replace h := h.1 hc
            refine V_iconst 62 (v := (0 : Int32)) rfl (by decide) ?_
            refine V_sub [1, 2, 3, 4, 5, 6] (lv' := [(0, .ref 92), (2, .int a1), (3, .int a2), (4, .int a3), (5, .int x5), (6, .int x6)]) rfl ?_
            exact k_j108 x5 x6 (0 : Int32) (((8 : Int32) * a1) + x6) σ hW h
          · replace h := h.2 hc
            refine V_pc 103 rfl ?_
            refine V_sub [1, 2, 3, 4, 5, 6] (lv' := [(0, .ref 92), (2, .int a1), (3, .int a2), (4, .int a3), (5, .int x5), (6, .int x6)]) rfl ?_
            exact k_j103 x5 x6 (((8 : Int32) * a1) + x6) σ hW h
      have k_j69 : ∀ (x5 : Int32) (x6 : Int32)  (σ : ab_S), Wire σ → wX12_comes_j69 a0 a1 a2 a3 Q E Bk x5 x6 σ → V l mdX12_comes B 1 22 0 0 (ab_End (fun v σ' => Wire σ' ∧ v = none ∧ Q σ') (fun X σ' => Wire σ' ∧ E X σ')) 69 [(0, .ref 92), (2, .int a1), (3, .int a2), (4, .int a3), (5, .int x5), (6, .int x6)] [] σ := by
        intro x5 x6  σ hW h
        refine V_iconst 40 (v := (0 : Int32)) rfl (by decide) ?_
        exact k_j70 x5 x6 (0 : Int32) σ hW h
      have k_j48 : ∀ (x5 : Int32) (x6 : Int32) (y0 : Int32)  (σ : ab_S), Wire σ → wX12_comes_j48 a0 a1 a2 a3 Q E Bk x5 x6 y0 σ → V l mdX12_comes B 1 22 0 0 (ab_End (fun v σ' => Wire σ' ∧ v = none ∧ Q σ') (fun X σ' => Wire σ' ∧ E X σ')) 48 [(0, .ref 92), (2, .int a1), (3, .int a2), (4, .int a3), (5, .int x5), (6, .int x6)] [.int y0] σ := by
        intro x5 x6 y0  σ hW h
        refine V_iload 30 3 rfl rfl ?_
        refine V_icmp_ne 31 (tgt := 69) rfl (by decide) (fun hc => ?_) (fun hc => ?_)
        · replace h := h.1 hc
          exact k_j69 x5 x6 σ hW h
        · replace h := h.2 hc
          refine V_pc 53 rfl ?_
          refine V_aload_n 32 0 rfl rfl rfl ?_
          refine V_iload 33 4 rfl rfl ?_
          refine V_iload 34 5 rfl rfl ?_
          refine V_callV 35 2 (as := [.int x5, .int x6]) (rest := []) rfl mlX12_432 yvX12_visitOf rfl rfl clX12 (wsh hW rfl) (by decide) (by decide) (Nat.le_of_ble_eq_true rfl) (by decide) (by decide) (fun B9 => ceX12_visitOf hl B9 hW h) (fun X9 τ9 h9 => VX_out rfl h9) ?_
          rintro v9 σ3 ⟨hW, u4, rfl, h⟩
          refine V_iload_n 36 2 rfl rfl rfl ?_
          refine V_icmp_ne 37 (tgt := 69) rfl (by decide) (fun hc => ?_) (fun hc => ?_)
          · replace h := h.1 hc
            exact k_j69 x5 x6 σ3 hW h
          · replace h := h.2 hc
            refine V_pc 65 rfl ?_
            refine V_iconst 38 (v := (1 : Int32)) rfl (by decide) ?_
            refine V_goto 39 (tgt := 70) rfl (by decide) ?_
            exact k_j70 x5 x6 (1 : Int32) σ3 hW h
      intro x5 x6  σ hW h
      refine V_iload 11 5 rfl rfl ?_
      refine V_aload_n 12 0 rfl rfl rfl ?_
      refine V_getR 13 12 rfl clX12 flX12_29 (by decide) (wsh hW rfl) (fun _ => rfl) (wrf hW 100 rfl) ?_
      refine V_iload 14 4 rfl rfl ?_
      obtain ⟨hin, h⟩ := h
      refine V_iald 15 rfl (wsh hW rfl) hin ?_
      refine V_icmp_ge 16 (tgt := 115) rfl (by decide) (fun hc => ?_) (fun hc => ?_)
      · replace h := h.1 hc
        exact V_vret 66 rfl rfl ⟨hW, rfl, h⟩
      · replace h := h.2 hc
        refine V_pc 27 rfl ?_
        refine V_aload_n 17 0 rfl rfl rfl ?_
        refine V_getR 18 13 rfl clX12 flX12_32 (by decide) (wsh hW rfl) (fun _ => rfl) (wrf hW 101 rfl) ?_
        refine V_iload 19 4 rfl rfl ?_
        obtain ⟨hin, h⟩ := h
        refine V_iald 20 rfl (wsh hW rfl) hin ?_
        refine V_iload 21 5 rfl rfl ?_
        refine V_ishr 22 rfl ?_
        refine V_pc 37 rfl ?_
        refine V_iconst 23 (v := (1 : Int32)) rfl (by decide) ?_
        refine V_iand 24 rfl ?_
        refine V_iconst 25 (v := (1 : Int32)) rfl (by decide) ?_
        refine V_icmp_ne 26 (tgt := 47) rfl (by decide) (fun hc => ?_) (fun hc => ?_)
        · replace h := h.1 hc
          refine V_iconst 29 (v := (0 : Int32)) rfl (by decide) ?_
          exact k_j48 x5 x6 (0 : Int32) σ hW h
        · replace h := h.2 hc
          refine V_pc 43 rfl ?_
          refine V_iconst 27 (v := (1 : Int32)) rfl (by decide) ?_
          refine V_goto 28 (tgt := 48) rfl (by decide) ?_
          exact k_j48 x5 x6 (1 : Int32) σ hW h
    intro n
    induction n with
    | zero => intro x5 x6  σ hW h; exact absurd h id
    | succ n ih => exact step  _ ih
  intro σ hW h
  refine V_aload_n 0 0 rfl rfl rfl ?_
  refine V_getR 1 18 rfl clX12 flX12_45 (by decide) (wsh hW rfl) (fun _ => rfl) (wrf hW 105 rfl) ?_
  refine V_iconst 2 (v := (4 : Int32)) rfl (by decide) ?_
  refine V_iload_n 3 1 rfl rfl rfl ?_
  refine V_imul 4 rfl ?_
  refine V_iload_n 5 2 rfl rfl rfl ?_
  refine V_pc 8 rfl ?_
  refine V_iadd 6 rfl ?_
  obtain ⟨hin, h⟩ := h
  refine V_iald 7 rfl (wsh hW rfl) hin ?_
  refine V_topi (fun v5 ev5 => ?_)
  replace h := h v5 ev5
  refine V_istore 8 (lv' := [(5, .int v5), (0, .ref 92), (1, .int a0), (2, .int a1), (3, .int a2), (4, .int a3)]) rfl (by decide) rfl ?_
  refine V_iconst 9 (v := (0 : Int32)) rfl (by decide) ?_
  refine V_istore 10 (lv' := [(6, .int (0 : Int32)), (5, .int v5), (0, .ref 92), (1, .int a0), (2, .int a1), (3, .int a2), (4, .int a3)]) rfl (by decide) rfl ?_
  refine V_sub [2, 4, 5, 6, 1, 0] (lv' := [(0, .ref 92), (2, .int a1), (3, .int a2), (4, .int a3), (5, .int v5), (6, .int (0 : Int32))]) rfl ?_
  obtain ⟨n, h⟩ := h
  exact k_l15 n v5 (0 : Int32) σ hW h

def wX12_canEvaluate_j103 (a0 : Int32) (a1 : Int32) (a2 : Int32) (Q : Int32 → ab_S → Prop) (E : String → ab_S → Prop) (Bk : Int32 → Int32 → Int32 → ab_S → Prop) (x4 : Int32) (x6 : Int32) (y0 : Int32) (σ : ab_S) : Prop := ∀ v1 : Int32, v1 = (x6 + 1) → Bk x4 y0 v1 σ
def wX12_canEvaluate_j98 (a0 : Int32) (a1 : Int32) (a2 : Int32) (Q : Int32 → ab_S → Prop) (E : String → ab_S → Prop) (Bk : Int32 → Int32 → Int32 → ab_S → Prop) (x4 : Int32) (x6 : Int32) (σ : ab_S) : Prop := wX12_canEvaluate_j103 a0 a1 a2 Q E Bk x4 x6 (1 : Int32) σ
def wX12_canEvaluate_j102 (a0 : Int32) (a1 : Int32) (a2 : Int32) (Q : Int32 → ab_S → Prop) (E : String → ab_S → Prop) (Bk : Int32 → Int32 → Int32 → ab_S → Prop) (x4 : Int32) (x6 : Int32) (σ : ab_S) : Prop := wX12_canEvaluate_j103 a0 a1 a2 Q E Bk x4 x6 (0 : Int32) σ
def wX12_canEvaluate_l49_b (a0 : Int32) (a1 : Int32) (a2 : Int32) (Q : Int32 → ab_S → Prop) (E : String → ab_S → Prop) (Bk : Int32 → Int32 → Int32 → ab_S → Prop) (x4 : Int32) (x5 : Int32) (x6 : Int32) (σ : ab_S) : Prop := ((x6 < 0) → (x5 = 0 ∨ x5 = 1) ∧ Q x5 σ) ∧ (¬ (x6 < 0) → vp_in x4 992 ∧ ((((σ.2.1 106 x4.toNatClampNeg) ≤ x6) → (x5 = 0 ∨ x5 = 1) ∧ Q x5 σ) ∧ (¬ ((σ.2.1 106 x4.toNatClampNeg) ≤ x6) → ((x5 = 0) → wX12_canEvaluate_j102 a0 a1 a2 Q E Bk x4 x6 σ) ∧ (¬ (x5 = 0) → vp_in x6 2500 ∧ (((¬ (σ.2.1 107 x6.toNatClampNeg) = (50 : Int32)) → wX12_canEvaluate_j98 a0 a1 a2 Q E Bk x4 x6 σ) ∧ (¬ (¬ (σ.2.1 107 x6.toNatClampNeg) = (50 : Int32)) → vp_in x6 2500 ∧ (vp_in (σ.2.1 108 x6.toNatClampNeg) 32 ∧ ((((σ.2.1 120 (σ.2.1 108 x6.toNatClampNeg).toNatClampNeg) = 0) → wX12_canEvaluate_j102 a0 a1 a2 Q E Bk x4 x6 σ) ∧ (¬ ((σ.2.1 120 (σ.2.1 108 x6.toNatClampNeg).toNatClampNeg) = 0) → wX12_canEvaluate_j98 a0 a1 a2 Q E Bk x4 x6 σ)))))))))
def wX12_canEvaluate_l49 (a0 : Int32) (a1 : Int32) (a2 : Int32) (Q : Int32 → ab_S → Prop) (E : String → ab_S → Prop) : Nat → Int32 → Int32 → Int32 → ab_S → Prop
  | 0, _, _, _, _ => False
  | n + 1, x4, x5, x6, σ => wX12_canEvaluate_l49_b a0 a1 a2 Q E (wX12_canEvaluate_l49 a0 a1 a2 Q E n) x4 x5 x6 σ
def wX12_canEvaluate_j38 (a0 : Int32) (a1 : Int32) (a2 : Int32) (Q : Int32 → ab_S → Prop) (E : String → ab_S → Prop) (x4 : Int32) (y0 : Int32) (σ : ab_S) : Prop := vp_in x4 992 ∧ (∀ v2 : Int32, v2 = (σ.2.1 105 x4.toNatClampNeg) → ∃ n, wX12_canEvaluate_l49 a0 a1 a2 Q E n x4 y0 v2 σ)
def wX12_canEvaluate_j37 (a0 : Int32) (a1 : Int32) (a2 : Int32) (Q : Int32 → ab_S → Prop) (E : String → ab_S → Prop) (x4 : Int32) (σ : ab_S) : Prop := wX12_canEvaluate_j38 a0 a1 a2 Q E x4 (0 : Int32) σ
def wX12_canEvaluate (a0 : Int32) (a1 : Int32) (a2 : Int32) (Q : Int32 → ab_S → Prop) (E : String → ab_S → Prop) (σ : ab_S) : Prop := ∀ v3 : Int32, v3 = ((((32 : Int32) * a0) + ((8 : Int32) * a1)) + a2) → wX12_isDefined a0 a1 a2 (fun u5 σ4 => ((u5 = 0) → wX12_canEvaluate_j37 a0 a1 a2 Q E v3 σ4) ∧ (¬ (u5 = 0) → vp_in v3 992 ∧ (((¬ (σ4.2.1 116 v3.toNatClampNeg) = 0) → wX12_canEvaluate_j37 a0 a1 a2 Q E v3 σ4) ∧ (¬ (¬ (σ4.2.1 116 v3.toNatClampNeg) = 0) → wX12_canEvaluate_j38 a0 a1 a2 Q E v3 (1 : Int32) σ4)))) E σ
set_option maxHeartbeats 4000000 in
set_option maxRecDepth 100000 in
theorem ceX12_canEvaluate {l : Launch} (hl : l.stackTraces = false) (B : Nat) {a0 : Int32} {a1 : Int32} {a2 : Int32}  {Q : Int32 → ab_S → Prop} {E : String → ab_S → Prop} {σ : ab_S} (hW : Wire σ) (h : wX12_canEvaluate a0 a1 a2 Q E σ) : ab_Mt l yX12_canEvaluate mdX12_canEvaluate B 1 24 0 0 [.ref 92, .int a0, .int a1, .int a2] σ (fun v σ' => Wire σ' ∧ ∃ r : Int32, v = some (.int r) ∧ Q r σ') (fun X σ' => Wire σ' ∧ E X σ') := by
  refine V_met hl ⟨rfl, rfl, by decide⟩ rfl dkX12_canEvaluate (Nat.le_of_ble_eq_true rfl) ?_
  show V l mdX12_canEvaluate B 1 24 0 0 (ab_End _ _) 0 [(0, .ref 92), (1, .int a0), (2, .int a1), (3, .int a2)] [] σ
  revert h hW
  revert σ
  have k_l49 : ∀ (n : Nat) (x4 : Int32) (x5 : Int32) (x6 : Int32)  (σ : ab_S), Wire σ → wX12_canEvaluate_l49 a0 a1 a2 Q E n x4 x5 x6 σ → V l mdX12_canEvaluate B 1 24 0 0 (ab_End (fun v σ' => Wire σ' ∧ ∃ r : Int32, v = some (.int r) ∧ Q r σ') (fun X σ' => Wire σ' ∧ E X σ')) 49 [(0, .ref 92), (4, .int x4), (5, .int x5), (6, .int x6)] [] σ := by
    have step : ∀ (Bk : Int32 → Int32 → Int32 → ab_S → Prop) (k_Bk : ∀ (x4 : Int32) (x5 : Int32) (x6 : Int32)  (σ : ab_S), Wire σ → Bk x4 x5 x6 σ → V l mdX12_canEvaluate B 1 24 0 0 (ab_End (fun v σ' => Wire σ' ∧ ∃ r : Int32, v = some (.int r) ∧ Q r σ') (fun X σ' => Wire σ' ∧ E X σ')) 49 [(0, .ref 92), (4, .int x4), (5, .int x5), (6, .int x6)] [] σ), ∀ (x4 : Int32) (x5 : Int32) (x6 : Int32)  (σ : ab_S), Wire σ → wX12_canEvaluate_l49_b a0 a1 a2 Q E Bk x4 x5 x6 σ → V l mdX12_canEvaluate B 1 24 0 0 (ab_End (fun v σ' => Wire σ' ∧ ∃ r : Int32, v = some (.int r) ∧ Q r σ') (fun X σ' => Wire σ' ∧ E X σ')) 49 [(0, .ref 92), (4, .int x4), (5, .int x5), (6, .int x6)] [] σ := by
      intro Bk k_Bk
      have k_j103 : ∀ (x4 : Int32) (x6 : Int32) (y0 : Int32)  (σ : ab_S), Wire σ → wX12_canEvaluate_j103 a0 a1 a2 Q E Bk x4 x6 y0 σ → V l mdX12_canEvaluate B 1 24 0 0 (ab_End (fun v σ' => Wire σ' ∧ ∃ r : Int32, v = some (.int r) ∧ Q r σ') (fun X σ' => Wire σ' ∧ E X σ')) 103 [(0, .ref 92), (4, .int x4), (6, .int x6)] [.int y0] σ := by
        intro x4 x6 y0  σ hW h
        refine V_istore 57 (lv' := [(5, .int y0), (0, .ref 92), (4, .int x4), (6, .int x6)]) rfl (by decide) rfl ?_
        obtain ⟨v1, ev1⟩ : ∃ z : Int32, z = (x6 + 1) := ⟨_, rfl⟩
        replace h := h v1 ev1
        refine V_iinc 58 3 (v := v1) (lv' := [(6, .int v1), (5, .int y0), (0, .ref 92), (4, .int x4)]) rfl rfl ((in_1 _).trans ev1.symm) (by decide) rfl ?_
        refine V_goto 59 (tgt := 49) rfl (by decide) ?_
        refine V_sub [2, 3, 1, 0] (lv' := [(0, .ref 92), (4, .int x4), (5, .int y0), (6, .int v1)]) rfl ?_
        exact k_Bk x4 y0 v1  σ hW h
      have k_j98 : ∀ (x4 : Int32) (x6 : Int32)  (σ : ab_S), Wire σ → wX12_canEvaluate_j98 a0 a1 a2 Q E Bk x4 x6 σ → V l mdX12_canEvaluate B 1 24 0 0 (ab_End (fun v σ' => Wire σ' ∧ ∃ r : Int32, v = some (.int r) ∧ Q r σ') (fun X σ' => Wire σ' ∧ E X σ')) 98 [(0, .ref 92), (4, .int x4), (6, .int x6)] [] σ := by
        intro x4 x6  σ hW h
        refine V_iconst 54 (v := (1 : Int32)) rfl (by decide) ?_
        refine V_goto 55 (tgt := 103) rfl (by decide) ?_
        exact k_j103 x4 x6 (1 : Int32) σ hW h
      have k_j102 : ∀ (x4 : Int32) (x6 : Int32)  (σ : ab_S), Wire σ → wX12_canEvaluate_j102 a0 a1 a2 Q E Bk x4 x6 σ → V l mdX12_canEvaluate B 1 24 0 0 (ab_End (fun v σ' => Wire σ' ∧ ∃ r : Int32, v = some (.int r) ∧ Q r σ') (fun X σ' => Wire σ' ∧ E X σ')) 102 [(0, .ref 92), (4, .int x4), (6, .int x6)] [] σ := by
        intro x4 x6  σ hW h
        refine V_iconst 56 (v := (0 : Int32)) rfl (by decide) ?_
        exact k_j103 x4 x6 (0 : Int32) σ hW h
      intro x4 x5 x6  σ hW h
      refine V_iload 30 3 rfl rfl ?_
      refine V_if_lt 31 (tgt := 111) rfl (by decide) (fun hc => ?_) (fun hc => ?_)
      · replace h := h.1 hc
        refine V_iload 60 2 rfl rfl ?_
        exact V_zret 61 rfl rfl (nb1 h.1) ⟨hW, _, rfl, h.2⟩
      · replace h := h.2 hc
        refine V_pc 54 rfl ?_
        refine V_iload 32 3 rfl rfl ?_
        refine V_aload_n 33 0 rfl rfl rfl ?_
        refine V_getR 34 20 rfl clX12 flX12_51 (by decide) (wsh hW rfl) (fun _ => rfl) (wrf hW 107 rfl) ?_
        refine V_iload 35 1 rfl rfl ?_
        obtain ⟨hin, h⟩ := h
        refine V_iald 36 rfl (wsh hW rfl) hin ?_
        refine V_icmp_ge 37 (tgt := 111) rfl (by decide) (fun hc => ?_) (fun hc => ?_)
        · replace h := h.1 hc
          refine V_iload 60 2 rfl rfl ?_
          exact V_zret 61 rfl rfl (nb1 h.1) ⟨hW, _, rfl, h.2⟩
        · replace h := h.2 hc
          refine V_pc 66 rfl ?_
          refine V_iload 38 2 rfl rfl ?_
          refine V_if_eq 39 (tgt := 102) rfl (by decide) (fun hc => ?_) (fun hc => ?_)
          · replace h := h.1 hc
            refine V_sub [0, 1, 3] (lv' := [(0, .ref 92), (4, .int x4), (6, .int x6)]) rfl ?_
            exact k_j102 x4 x6 σ hW h
          · replace h := h.2 hc
            refine V_pc 71 rfl ?_
            refine V_aload_n 40 0 rfl rfl rfl ?_
            refine V_getR 41 22 rfl clX12 flX12_54 (by decide) (wsh hW rfl) (fun _ => rfl) (wrf hW 108 rfl) ?_
            refine V_iload 42 3 rfl rfl ?_
            obtain ⟨hin, h⟩ := h
            refine V_iald 43 rfl (wsh hW rfl) hin ?_
            refine V_bipush 44 (v := (50 : Int32)) rfl (by decide) ?_
            refine V_icmp_ne 45 (tgt := 98) rfl (by decide) (fun hc => ?_) (fun hc => ?_)
            · replace h := h.1 hc
              refine V_sub [0, 1, 3] (lv' := [(0, .ref 92), (4, .int x4), (6, .int x6)]) rfl ?_
              exact k_j98 x4 x6 σ hW h
            · replace h := h.2 hc
              refine V_pc 83 rfl ?_
              refine V_aload_n 46 0 rfl rfl rfl ?_
              refine V_getR 47 36 rfl clX12 flX12_93 (by decide) (wsh hW rfl) (fun _ => rfl) (wrf hW 121 rfl) ?_
              refine V_aload_n 48 0 rfl rfl rfl ?_
              refine V_getR 49 23 rfl clX12 flX12_57 (by decide) (wsh hW rfl) (fun _ => rfl) (wrf hW 109 rfl) ?_
              refine V_iload 50 3 rfl rfl ?_
              obtain ⟨hin, h⟩ := h
              refine V_iald 51 rfl (wsh hW rfl) hin ?_
              refine V_pc 94 rfl ?_
              obtain ⟨hin, h⟩ := h
              refine V_zald 52 rfl (wsh hW rfl) hin ?_
              refine V_if_eq 53 (tgt := 102) rfl (by decide) (fun hc => ?_) (fun hc => ?_)
              · replace h := h.1 hc
                refine V_sub [0, 1, 3] (lv' := [(0, .ref 92), (4, .int x4), (6, .int x6)]) rfl ?_
                exact k_j102 x4 x6 σ hW h
              · replace h := h.2 hc
                refine V_pc 98 rfl ?_
                refine V_sub [0, 1, 3] (lv' := [(0, .ref 92), (4, .int x4), (6, .int x6)]) rfl ?_
                exact k_j98 x4 x6 σ hW h
    intro n
    induction n with
    | zero => intro x4 x5 x6  σ hW h; exact absurd h id
    | succ n ih => exact step  _ ih
  have k_j38 : ∀ (x4 : Int32) (y0 : Int32)  (σ : ab_S), Wire σ → wX12_canEvaluate_j38 a0 a1 a2 Q E x4 y0 σ → V l mdX12_canEvaluate B 1 24 0 0 (ab_End (fun v σ' => Wire σ' ∧ ∃ r : Int32, v = some (.int r) ∧ Q r σ') (fun X σ' => Wire σ' ∧ E X σ')) 38 [(0, .ref 92), (4, .int x4)] [.int y0] σ := by
    intro x4 y0  σ hW h
    refine V_istore 24 (lv' := [(5, .int y0), (0, .ref 92), (4, .int x4)]) rfl (by decide) rfl ?_
    refine V_aload_n 25 1 rfl rfl rfl ?_
    refine V_getR 26 19 rfl clX12 flX12_48 (by decide) (wsh hW rfl) (fun _ => rfl) (wrf hW 106 rfl) ?_
    refine V_iload 27 2 rfl rfl ?_
    obtain ⟨hin, h⟩ := h
    refine V_iald 28 rfl (wsh hW rfl) hin ?_
    refine V_topi (fun v2 ev2 => ?_)
    replace h := h v2 ev2
    refine V_istore 29 (lv' := [(6, .int v2), (5, .int y0), (0, .ref 92), (4, .int x4)]) rfl (by decide) rfl ?_
    refine V_sub [2, 3, 1, 0] (lv' := [(0, .ref 92), (4, .int x4), (5, .int y0), (6, .int v2)]) rfl ?_
    obtain ⟨n, h⟩ := h
    exact k_l49 n x4 y0 v2 σ hW h
  have k_j37 : ∀ (x4 : Int32)  (σ : ab_S), Wire σ → wX12_canEvaluate_j37 a0 a1 a2 Q E x4 σ → V l mdX12_canEvaluate B 1 24 0 0 (ab_End (fun v σ' => Wire σ' ∧ ∃ r : Int32, v = some (.int r) ∧ Q r σ') (fun X σ' => Wire σ' ∧ E X σ')) 37 [(0, .ref 92), (4, .int x4)] [] σ := by
    intro x4  σ hW h
    refine V_iconst 23 (v := (0 : Int32)) rfl (by decide) ?_
    exact k_j38 x4 (0 : Int32) σ hW h
  intro σ hW h
  refine V_bipush 0 (v := (32 : Int32)) rfl (by decide) ?_
  refine V_iload_n 1 1 rfl rfl rfl ?_
  refine V_imul 2 rfl ?_
  refine V_bipush 3 (v := (8 : Int32)) rfl (by decide) ?_
  refine V_iload_n 4 2 rfl rfl rfl ?_
  refine V_imul 5 rfl ?_
  refine V_pc 8 rfl ?_
  refine V_iadd 6 rfl ?_
  refine V_iload_n 7 3 rfl rfl rfl ?_
  refine V_iadd 8 rfl ?_
  refine V_topi (fun v3 ev3 => ?_)
  replace h := h v3 ev3
  refine V_istore 9 (lv' := [(4, .int v3), (0, .ref 92), (1, .int a0), (2, .int a1), (3, .int a2)]) rfl (by decide) rfl ?_
  refine V_aload_n 10 1 rfl rfl rfl ?_
  refine V_iload_n 11 2 rfl rfl rfl ?_
  refine V_pc 15 rfl ?_
  refine V_iload_n 12 3 rfl rfl rfl ?_
  refine V_iload_n 13 4 rfl rfl rfl ?_
  refine V_callV 14 3 (as := [.int a0, .int a1, .int a2]) (rest := []) rfl mlX12_328 yvX12_isDefined rfl rfl clX12 (wsh hW rfl) (by decide) (by decide) (Nat.le_of_ble_eq_true rfl) (by decide) (by decide) (fun B9 => ceX12_isDefined hl B9 hW h) (fun X9 τ9 h9 => VX_out rfl h9) ?_
  rintro v9 σ4 ⟨hW, u5, rfl, h⟩
  refine V_if_eq 15 (tgt := 37) rfl (by decide) (fun hc => ?_) (fun hc => ?_)
  · replace h := h.1 hc
    refine V_sub [1, 0] (lv' := [(0, .ref 92), (4, .int v3)]) rfl ?_
    exact k_j37 v3 σ4 hW h
  · replace h := h.2 hc
    refine V_pc 23 rfl ?_
    refine V_aload_n 16 1 rfl rfl rfl ?_
    refine V_getR 17 32 rfl clX12 flX12_81 (by decide) (wsh hW rfl) (fun _ => rfl) (wrf hW 117 rfl) ?_
    refine V_iload 18 0 rfl rfl ?_
    obtain ⟨hin, h⟩ := h
    refine V_iald 19 rfl (wsh hW rfl) hin ?_
    refine V_if_ne 20 (tgt := 37) rfl (by decide) (fun hc => ?_) (fun hc => ?_)
    · replace h := h.1 hc
      refine V_sub [1, 0] (lv' := [(0, .ref 92), (4, .int v3)]) rfl ?_
      exact k_j37 v3 σ4 hW h
    · replace h := h.2 hc
      refine V_pc 33 rfl ?_
      refine V_iconst 21 (v := (1 : Int32)) rfl (by decide) ?_
      refine V_goto 22 (tgt := 38) rfl (by decide) ?_
      refine V_sub [1, 0] (lv' := [(0, .ref 92), (4, .int v3)]) rfl ?_
      exact k_j38 v3 (1 : Int32) σ4 hW h

def wX12_canVisit_j97 (a0 : Int32) (a1 : Int32) (a2 : Int32) (Q : Int32 → ab_S → Prop) (E : String → ab_S → Prop) (Bk : Int32 → Int32 → Int32 → ab_S → Prop) (x4 : Int32) (x6 : Int32) (y0 : Int32) (σ : ab_S) : Prop := ∀ v1 : Int32, v1 = (x6 + 1) → Bk x4 y0 v1 σ
def wX12_canVisit_j92 (a0 : Int32) (a1 : Int32) (a2 : Int32) (Q : Int32 → ab_S → Prop) (E : String → ab_S → Prop) (Bk : Int32 → Int32 → Int32 → ab_S → Prop) (x4 : Int32) (x6 : Int32) (σ : ab_S) : Prop := wX12_canVisit_j97 a0 a1 a2 Q E Bk x4 x6 (1 : Int32) σ
def wX12_canVisit_j96 (a0 : Int32) (a1 : Int32) (a2 : Int32) (Q : Int32 → ab_S → Prop) (E : String → ab_S → Prop) (Bk : Int32 → Int32 → Int32 → ab_S → Prop) (x4 : Int32) (x6 : Int32) (σ : ab_S) : Prop := wX12_canVisit_j97 a0 a1 a2 Q E Bk x4 x6 (0 : Int32) σ
def wX12_canVisit_l33_b (a0 : Int32) (a1 : Int32) (a2 : Int32) (Q : Int32 → ab_S → Prop) (E : String → ab_S → Prop) (Bk : Int32 → Int32 → Int32 → ab_S → Prop) (x4 : Int32) (x5 : Int32) (x6 : Int32) (σ : ab_S) : Prop := vp_in x4 13 ∧ ((((σ.2.1 99 x4.toNatClampNeg) ≤ x6) → (x5 = 0 ∨ x5 = 1) ∧ Q x5 σ) ∧ (¬ ((σ.2.1 99 x4.toNatClampNeg) ≤ x6) → ((x5 = 0) → wX12_canVisit_j96 a0 a1 a2 Q E Bk x4 x6 σ) ∧ (¬ (x5 = 0) → vp_in x4 13 ∧ ((((((σ.2.1 100 x4.toNatClampNeg) >>> (x6 &&& 31)) &&& (1 : Int32)) = 0) → wX12_canVisit_j92 a0 a1 a2 Q E Bk x4 x6 σ) ∧ (¬ ((((σ.2.1 100 x4.toNatClampNeg) >>> (x6 &&& 31)) &&& (1 : Int32)) = 0) → wX12_visitOf x4 x6 (fun u3 σ2 => ((¬ u3 = a2) → wX12_canVisit_j92 a0 a1 a2 Q E Bk x4 x6 σ2) ∧ (¬ (¬ u3 = a2) → vp_in (((8 : Int32) * a1) + x6) 32 ∧ ((((σ2.2.1 120 (((8 : Int32) * a1) + x6).toNatClampNeg) = 0) → wX12_canVisit_j96 a0 a1 a2 Q E Bk x4 x6 σ2) ∧ (¬ ((σ2.2.1 120 (((8 : Int32) * a1) + x6).toNatClampNeg) = 0) → wX12_canVisit_j92 a0 a1 a2 Q E Bk x4 x6 σ2)))) E σ)))))
def wX12_canVisit_l33 (a0 : Int32) (a1 : Int32) (a2 : Int32) (Q : Int32 → ab_S → Prop) (E : String → ab_S → Prop) : Nat → Int32 → Int32 → Int32 → ab_S → Prop
  | 0, _, _, _, _ => False
  | n + 1, x4, x5, x6, σ => wX12_canVisit_l33_b a0 a1 a2 Q E (wX12_canVisit_l33 a0 a1 a2 Q E n) x4 x5 x6 σ
def wX12_canVisit_j28 (a0 : Int32) (a1 : Int32) (a2 : Int32) (Q : Int32 → ab_S → Prop) (E : String → ab_S → Prop) (x4 : Int32) (y0 : Int32) (σ : ab_S) : Prop := ∃ n, wX12_canVisit_l33 a0 a1 a2 Q E n x4 y0 (0 : Int32) σ
def wX12_canVisit (a0 : Int32) (a1 : Int32) (a2 : Int32) (Q : Int32 → ab_S → Prop) (E : String → ab_S → Prop) (σ : ab_S) : Prop := vp_in (((4 : Int32) * a0) + a1) 124 ∧ (∀ v4 : Int32, v4 = (σ.2.1 104 (((4 : Int32) * a0) + a1).toNatClampNeg) → vp_in v4 13 ∧ ((((σ.2.1 112 v4.toNatClampNeg) < a2) → wX12_canVisit_j28 a0 a1 a2 Q E v4 (0 : Int32) σ) ∧ (¬ ((σ.2.1 112 v4.toNatClampNeg) < a2) → wX12_canVisit_j28 a0 a1 a2 Q E v4 (1 : Int32) σ)))
set_option maxHeartbeats 4000000 in
set_option maxRecDepth 100000 in
theorem ceX12_canVisit {l : Launch} (hl : l.stackTraces = false) (B : Nat) {a0 : Int32} {a1 : Int32} {a2 : Int32}  {Q : Int32 → ab_S → Prop} {E : String → ab_S → Prop} {σ : ab_S} (hW : Wire σ) (h : wX12_canVisit a0 a1 a2 Q E σ) : ab_Mt l yX12_canVisit mdX12_canVisit B 1 22 0 0 [.ref 92, .int a0, .int a1, .int a2] σ (fun v σ' => Wire σ' ∧ ∃ r : Int32, v = some (.int r) ∧ Q r σ') (fun X σ' => Wire σ' ∧ E X σ') := by
  refine V_met hl ⟨rfl, rfl, by decide⟩ rfl dkX12_canVisit (Nat.le_of_ble_eq_true rfl) ?_
  show V l mdX12_canVisit B 1 22 0 0 (ab_End _ _) 0 [(0, .ref 92), (1, .int a0), (2, .int a1), (3, .int a2)] [] σ
  revert h hW
  revert σ
  have k_l33 : ∀ (n : Nat) (x4 : Int32) (x5 : Int32) (x6 : Int32)  (σ : ab_S), Wire σ → wX12_canVisit_l33 a0 a1 a2 Q E n x4 x5 x6 σ → V l mdX12_canVisit B 1 22 0 0 (ab_End (fun v σ' => Wire σ' ∧ ∃ r : Int32, v = some (.int r) ∧ Q r σ') (fun X σ' => Wire σ' ∧ E X σ')) 33 [(0, .ref 92), (2, .int a1), (3, .int a2), (4, .int x4), (5, .int x5), (6, .int x6)] [] σ := by
    have step : ∀ (Bk : Int32 → Int32 → Int32 → ab_S → Prop) (k_Bk : ∀ (x4 : Int32) (x5 : Int32) (x6 : Int32)  (σ : ab_S), Wire σ → Bk x4 x5 x6 σ → V l mdX12_canVisit B 1 22 0 0 (ab_End (fun v σ' => Wire σ' ∧ ∃ r : Int32, v = some (.int r) ∧ Q r σ') (fun X σ' => Wire σ' ∧ E X σ')) 33 [(0, .ref 92), (2, .int a1), (3, .int a2), (4, .int x4), (5, .int x5), (6, .int x6)] [] σ), ∀ (x4 : Int32) (x5 : Int32) (x6 : Int32)  (σ : ab_S), Wire σ → wX12_canVisit_l33_b a0 a1 a2 Q E Bk x4 x5 x6 σ → V l mdX12_canVisit B 1 22 0 0 (ab_End (fun v σ' => Wire σ' ∧ ∃ r : Int32, v = some (.int r) ∧ Q r σ') (fun X σ' => Wire σ' ∧ E X σ')) 33 [(0, .ref 92), (2, .int a1), (3, .int a2), (4, .int x4), (5, .int x5), (6, .int x6)] [] σ := by
      intro Bk k_Bk
      have k_j97 : ∀ (x4 : Int32) (x6 : Int32) (y0 : Int32)  (σ : ab_S), Wire σ → wX12_canVisit_j97 a0 a1 a2 Q E Bk x4 x6 y0 σ → V l mdX12_canVisit B 1 22 0 0 (ab_End (fun v σ' => Wire σ' ∧ ∃ r : Int32, v = some (.int r) ∧ Q r σ') (fun X σ' => Wire σ' ∧ E X σ')) 97 [(0, .ref 92), (2, .int a1), (3, .int a2), (4, .int x4), (6, .int x6)] [.int y0] σ := by
        intro x4 x6 y0  σ hW h
        refine V_istore 56 (lv' := [(5, .int y0), (0, .ref 92), (2, .int a1), (3, .int a2), (4, .int x4), (6, .int x6)]) rfl (by decide) rfl ?_
        obtain ⟨v1, ev1⟩ : ∃ z : Int32, z = (x6 + 1) := ⟨_, rfl⟩
        replace h := h v1 ev1
        refine V_iinc 57 5 (v := v1) (lv' := [(6, .int v1), (5, .int y0), (0, .ref 92), (2, .int a1), (3, .int a2), (4, .int x4)]) rfl rfl ((in_1 _).trans ev1.symm) (by decide) rfl ?_
        refine V_goto 58 (tgt := 33) rfl (by decide) ?_
        refine V_sub [2, 3, 4, 5, 1, 0] (lv' := [(0, .ref 92), (2, .int a1), (3, .int a2), (4, .int x4), (5, .int y0), (6, .int v1)]) rfl ?_
        exact k_Bk x4 y0 v1  σ hW h
      have k_j92 : ∀ (x4 : Int32) (x6 : Int32)  (σ : ab_S), Wire σ → wX12_canVisit_j92 a0 a1 a2 Q E Bk x4 x6 σ → V l mdX12_canVisit B 1 22 0 0 (ab_End (fun v σ' => Wire σ' ∧ ∃ r : Int32, v = some (.int r) ∧ Q r σ') (fun X σ' => Wire σ' ∧ E X σ')) 92 [(0, .ref 92), (2, .int a1), (3, .int a2), (4, .int x4), (6, .int x6)] [] σ := by
        intro x4 x6  σ hW h
        refine V_iconst 53 (v := (1 : Int32)) rfl (by decide) ?_
        refine V_goto 54 (tgt := 97) rfl (by decide) ?_
        exact k_j97 x4 x6 (1 : Int32) σ hW h
      have k_j96 : ∀ (x4 : Int32) (x6 : Int32)  (σ : ab_S), Wire σ → wX12_canVisit_j96 a0 a1 a2 Q E Bk x4 x6 σ → V l mdX12_canVisit B 1 22 0 0 (ab_End (fun v σ' => Wire σ' ∧ ∃ r : Int32, v = some (.int r) ∧ Q r σ') (fun X σ' => Wire σ' ∧ E X σ')) 96 [(0, .ref 92), (2, .int a1), (3, .int a2), (4, .int x4), (6, .int x6)] [] σ := by
        intro x4 x6  σ hW h
        refine V_iconst 55 (v := (0 : Int32)) rfl (by decide) ?_
        exact k_j97 x4 x6 (0 : Int32) σ hW h
      intro x4 x5 x6  σ hW h
      refine V_iload 21 5 rfl rfl ?_
      refine V_aload_n 22 0 rfl rfl rfl ?_
      refine V_getR 23 12 rfl clX12 flX12_29 (by decide) (wsh hW rfl) (fun _ => rfl) (wrf hW 100 rfl) ?_
      refine V_iload 24 3 rfl rfl ?_
      obtain ⟨hin, h⟩ := h
      refine V_iald 25 rfl (wsh hW rfl) hin ?_
      refine V_icmp_ge 26 (tgt := 105) rfl (by decide) (fun hc => ?_) (fun hc => ?_)
      · replace h := h.1 hc
        refine V_iload 59 4 rfl rfl ?_
        exact V_zret 60 rfl rfl (nb1 h.1) ⟨hW, _, rfl, h.2⟩
      · replace h := h.2 hc
        refine V_pc 45 rfl ?_
        refine V_iload 27 4 rfl rfl ?_
        refine V_if_eq 28 (tgt := 96) rfl (by decide) (fun hc => ?_) (fun hc => ?_)
        · replace h := h.1 hc
          refine V_sub [0, 1, 2, 3, 5] (lv' := [(0, .ref 92), (2, .int a1), (3, .int a2), (4, .int x4), (6, .int x6)]) rfl ?_
          exact k_j96 x4 x6 σ hW h
        · replace h := h.2 hc
          refine V_pc 50 rfl ?_
          refine V_aload_n 29 0 rfl rfl rfl ?_
          refine V_getR 30 13 rfl clX12 flX12_32 (by decide) (wsh hW rfl) (fun _ => rfl) (wrf hW 101 rfl) ?_
          refine V_iload 31 3 rfl rfl ?_
          obtain ⟨hin, h⟩ := h
          refine V_iald 32 rfl (wsh hW rfl) hin ?_
          refine V_iload 33 5 rfl rfl ?_
          refine V_ishr 34 rfl ?_
          refine V_pc 60 rfl ?_
          refine V_iconst 35 (v := (1 : Int32)) rfl (by decide) ?_
          refine V_iand 36 rfl ?_
          refine V_if_eq 37 (tgt := 92) rfl (by decide) (fun hc => ?_) (fun hc => ?_)
          · replace h := h.1 hc
            refine V_sub [0, 1, 2, 3, 5] (lv' := [(0, .ref 92), (2, .int a1), (3, .int a2), (4, .int x4), (6, .int x6)]) rfl ?_
            exact k_j92 x4 x6 σ hW h
          · replace h := h.2 hc
            refine V_pc 65 rfl ?_
            refine V_aload_n 38 0 rfl rfl rfl ?_
            refine V_iload 39 3 rfl rfl ?_
            refine V_iload 40 5 rfl rfl ?_
            refine V_callV 41 2 (as := [.int x4, .int x6]) (rest := []) rfl mlX12_432 yvX12_visitOf rfl rfl clX12 (wsh hW rfl) (by decide) (by decide) (Nat.le_of_ble_eq_true rfl) (by decide) (by decide) (fun B9 => ceX12_visitOf hl B9 hW h) (fun X9 τ9 h9 => VX_out rfl h9) ?_
            rintro v9 σ2 ⟨hW, u3, rfl, h⟩
            refine V_iload_n 42 2 rfl rfl rfl ?_
            refine V_icmp_ne 43 (tgt := 92) rfl (by decide) (fun hc => ?_) (fun hc => ?_)
            · replace h := h.1 hc
              refine V_sub [0, 1, 2, 3, 5] (lv' := [(0, .ref 92), (2, .int a1), (3, .int a2), (4, .int x4), (6, .int x6)]) rfl ?_
              exact k_j92 x4 x6 σ2 hW h
            · replace h := h.2 hc
              refine V_pc 77 rfl ?_
              refine V_aload_n 44 0 rfl rfl rfl ?_
              refine V_getR 45 36 rfl clX12 flX12_93 (by decide) (wsh hW rfl) (fun _ => rfl) (wrf hW 121 rfl) ?_
              refine V_bipush 46 (v := (8 : Int32)) rfl (by decide) ?_
              refine V_iload_n 47 1 rfl rfl rfl ?_
              refine V_imul 48 rfl ?_
              refine V_iload 49 5 rfl rfl ?_
              refine V_pc 87 rfl ?_
              refine V_iadd 50 rfl ?_
              obtain ⟨hin, h⟩ := h
              refine V_zald 51 rfl (wsh hW rfl) hin ?_
              refine V_if_eq 52 (tgt := 96) rfl (by decide) (fun hc => ?_) (fun hc => ?_)
              · replace h := h.1 hc
                refine V_sub [0, 1, 2, 3, 5] (lv' := [(0, .ref 92), (2, .int a1), (3, .int a2), (4, .int x4), (6, .int x6)]) rfl ?_
                exact k_j96 x4 x6 σ2 hW h
              · replace h := h.2 hc
                refine V_pc 92 rfl ?_
                refine V_sub [0, 1, 2, 3, 5] (lv' := [(0, .ref 92), (2, .int a1), (3, .int a2), (4, .int x4), (6, .int x6)]) rfl ?_
                exact k_j92 x4 x6 σ2 hW h
    intro n
    induction n with
    | zero => intro x4 x5 x6  σ hW h; exact absurd h id
    | succ n ih => exact step  _ ih
  have k_j28 : ∀ (x4 : Int32) (y0 : Int32)  (σ : ab_S), Wire σ → wX12_canVisit_j28 a0 a1 a2 Q E x4 y0 σ → V l mdX12_canVisit B 1 22 0 0 (ab_End (fun v σ' => Wire σ' ∧ ∃ r : Int32, v = some (.int r) ∧ Q r σ') (fun X σ' => Wire σ' ∧ E X σ')) 28 [(0, .ref 92), (2, .int a1), (3, .int a2), (4, .int x4)] [.int y0] σ := by
    intro x4 y0  σ hW h
    refine V_istore 18 (lv' := [(5, .int y0), (0, .ref 92), (2, .int a1), (3, .int a2), (4, .int x4)]) rfl (by decide) rfl ?_
    refine V_iconst 19 (v := (0 : Int32)) rfl (by decide) ?_
    refine V_istore 20 (lv' := [(6, .int (0 : Int32)), (5, .int y0), (0, .ref 92), (2, .int a1), (3, .int a2), (4, .int x4)]) rfl (by decide) rfl ?_
    refine V_sub [2, 3, 4, 5, 1, 0] (lv' := [(0, .ref 92), (2, .int a1), (3, .int a2), (4, .int x4), (5, .int y0), (6, .int (0 : Int32))]) rfl ?_
    obtain ⟨n, h⟩ := h
    exact k_l33 n x4 y0 (0 : Int32) σ hW h
  intro σ hW h
  refine V_aload_n 0 0 rfl rfl rfl ?_
  refine V_getR 1 18 rfl clX12 flX12_45 (by decide) (wsh hW rfl) (fun _ => rfl) (wrf hW 105 rfl) ?_
  refine V_iconst 2 (v := (4 : Int32)) rfl (by decide) ?_
  refine V_iload_n 3 1 rfl rfl rfl ?_
  refine V_imul 4 rfl ?_
  refine V_iload_n 5 2 rfl rfl rfl ?_
  refine V_pc 8 rfl ?_
  refine V_iadd 6 rfl ?_
  obtain ⟨hin, h⟩ := h
  refine V_iald 7 rfl (wsh hW rfl) hin ?_
  refine V_topi (fun v4 ev4 => ?_)
  replace h := h v4 ev4
  refine V_istore 8 (lv' := [(4, .int v4), (0, .ref 92), (1, .int a0), (2, .int a1), (3, .int a2)]) rfl (by decide) rfl ?_
  refine V_iload_n 9 4 rfl rfl rfl ?_
  refine V_aload_n 10 1 rfl rfl rfl ?_
  refine V_getR 11 27 rfl clX12 flX12_69 (by decide) (wsh hW rfl) (fun _ => rfl) (wrf hW 113 rfl) ?_
  refine V_pc 17 rfl ?_
  refine V_iload 12 0 rfl rfl ?_
  obtain ⟨hin, h⟩ := h
  refine V_iald 13 rfl (wsh hW rfl) hin ?_
  refine V_icmp_gt 14 (tgt := 27) rfl (by decide) (fun hc => ?_) (fun hc => ?_)
  · replace h := h.1 hc
    refine V_iconst 17 (v := (0 : Int32)) rfl (by decide) ?_
    refine V_sub [1, 3, 4, 0] (lv' := [(0, .ref 92), (2, .int a1), (3, .int a2), (4, .int v4)]) rfl ?_
    exact k_j28 v4 (0 : Int32) σ hW h
  · replace h := h.2 hc
    refine V_pc 23 rfl ?_
    refine V_iconst 15 (v := (1 : Int32)) rfl (by decide) ?_
    refine V_goto 16 (tgt := 28) rfl (by decide) ?_
    refine V_sub [1, 3, 4, 0] (lv' := [(0, .ref 92), (2, .int a1), (3, .int a2), (4, .int v4)]) rfl ?_
    exact k_j28 v4 (1 : Int32) σ hW h

def wX12_round_j271 (a0 : Int32) (a1 : Int32) (Q : Int32 → ab_S → Prop) (E : String → ab_S → Prop) (Bk : Int32 → Int32 → ab_S → Prop) (x3 : Int32) (x4 : Int32) (σ : ab_S) : Prop := ∀ v1 : Int32, v1 = (x4 + 1) → Bk x3 v1 σ
def wX12_round_l154_b (a0 : Int32) (a1 : Int32) (Q : Int32 → ab_S → Prop) (E : String → ab_S → Prop) (Bk : Int32 → Int32 → ab_S → Prop) (x3 : Int32) (x4 : Int32) (σ : ab_S) : Prop := vp_in a0 31 ∧ ((((σ.2.1 103 a0.toNatClampNeg) < x4) → (x3 = 0 ∨ x3 = 1) ∧ Q x3 σ) ∧ (¬ ((σ.2.1 103 a0.toNatClampNeg) < x4) → vp_in x4 4 ∧ (∀ v2 : Int32, v2 = ((σ.2.1 121 x4.toNatClampNeg) + (1 : Int32)) → wX12_canVisit a0 x4 v2 (fun u4 σ3 => ((u4 = 0) → wX12_round_j271 a0 a1 Q E Bk x3 x4 σ3) ∧ (¬ (u4 = 0) → vp_in x4 4 ∧ (∀ σ5 : ab_S, σ5 = ab_I σ3 121 x4.toNatClampNeg v2 → vp_in ((((24 : Int32) * a0) + ((6 : Int32) * x4)) + v2) 744 ∧ (∀ σ6 : ab_S, σ6 = ab_I σ5 118 ((((24 : Int32) * a0) + ((6 : Int32) * x4)) + v2).toNatClampNeg a1 → vp_in ((((24 : Int32) * a0) + ((6 : Int32) * x4)) + v2) 744 ∧ (∀ σ7 : ab_S, σ7 = ab_I σ6 119 ((((24 : Int32) * a0) + ((6 : Int32) * x4)) + v2).toNatClampNeg (σ6.2.1 92 28) → vp_in (σ7.2.1 92 28) 1600 ∧ (∀ σ8 : ab_S, σ8 = ab_I σ7 113 (σ7.2.1 92 28).toNatClampNeg x4 → (∀ σ9 : ab_S, σ9 = ab_I σ8 92 28 ((σ8.2.1 92 28) + (1 : Int32)) → wX12_comes a0 x4 v2 (0 : Int32) (fun σ10 => wX12_round_j271 a0 a1 Q E Bk (1 : Int32) x4 σ10) E σ9))))))) E σ)))
def wX12_round_l154 (a0 : Int32) (a1 : Int32) (Q : Int32 → ab_S → Prop) (E : String → ab_S → Prop) : Nat → Int32 → Int32 → ab_S → Prop
  | 0, _, _, _ => False
  | n + 1, x3, x4, σ => wX12_round_l154_b a0 a1 Q E (wX12_round_l154 a0 a1 Q E n) x3 x4 σ
def wX12_round_j151 (a0 : Int32) (a1 : Int32) (Q : Int32 → ab_S → Prop) (E : String → ab_S → Prop) (x3 : Int32) (σ : ab_S) : Prop := ∃ n, wX12_round_l154 a0 a1 Q E n x3 (1 : Int32) σ
def wX12_round_j145 (a0 : Int32) (a1 : Int32) (Q : Int32 → ab_S → Prop) (E : String → ab_S → Prop) (K151 : Int32 → ab_S → Prop) (Bk : Int32 → Int32 → ab_S → Prop) (x3 : Int32) (x4 : Int32) (σ : ab_S) : Prop := ∀ v11 : Int32, v11 = (x4 + 1) → Bk x3 v11 σ
def wX12_round_j139 (a0 : Int32) (a1 : Int32) (Q : Int32 → ab_S → Prop) (E : String → ab_S → Prop) (K145 : Int32 → Int32 → ab_S → Prop) (Bk : Int32 → Int32 → Int32 → ab_S → Prop) (x3 : Int32) (x4 : Int32) (x5 : Int32) (σ : ab_S) : Prop := ∀ v12 : Int32, v12 = (x5 + 1) → Bk x3 x4 v12 σ
def wX12_round_l19_b (a0 : Int32) (a1 : Int32) (Q : Int32 → ab_S → Prop) (E : String → ab_S → Prop) (K145 : Int32 → Int32 → ab_S → Prop) (Bk : Int32 → Int32 → Int32 → ab_S → Prop) (x3 : Int32) (x4 : Int32) (x5 : Int32) (σ : ab_S) : Prop := vp_in (((4 : Int32) * a0) + x4) 124 ∧ (vp_in (σ.2.1 104 (((4 : Int32) * a0) + x4).toNatClampNeg) 13 ∧ ((((σ.2.1 99 (σ.2.1 104 (((4 : Int32) * a0) + x4).toNatClampNeg).toNatClampNeg) ≤ x5) → K145 x3 x4 σ) ∧ (¬ ((σ.2.1 99 (σ.2.1 104 (((4 : Int32) * a0) + x4).toNatClampNeg).toNatClampNeg) ≤ x5) → wX12_canEvaluate a0 x4 x5 (fun u14 σ13 => ((u14 = 0) → wX12_round_j139 a0 a1 Q E K145 Bk x3 x4 x5 σ13) ∧ (¬ (u14 = 0) → vp_in (((8 : Int32) * x4) + x5) 32 ∧ (∀ σ15 : ab_S, σ15 = ab_I σ13 120 (((8 : Int32) * x4) + x5).toNatClampNeg (vp_nar .boolean (1 : Int32)) → vp_in ((((32 : Int32) * a0) + ((8 : Int32) * x4)) + x5) 992 ∧ (∀ σ16 : ab_S, σ16 = ab_I σ15 116 ((((32 : Int32) * a0) + ((8 : Int32) * x4)) + x5).toNatClampNeg a1 → vp_in ((((32 : Int32) * a0) + ((8 : Int32) * x4)) + x5) 992 ∧ (∀ σ17 : ab_S, σ17 = ab_I σ16 117 ((((32 : Int32) * a0) + ((8 : Int32) * x4)) + x5).toNatClampNeg (σ16.2.1 92 28) → vp_in (σ17.2.1 92 28) 1600 ∧ (∀ σ18 : ab_S, σ18 = ab_I σ17 113 (σ17.2.1 92 28).toNatClampNeg (((10 : Int32) + ((10 : Int32) * x4)) + x5) → (∀ σ19 : ab_S, σ19 = ab_I σ18 92 28 ((σ18.2.1 92 28) + (1 : Int32)) → wX12_round_j139 a0 a1 Q E K145 Bk (1 : Int32) x4 x5 σ19))))))) E σ)))
def wX12_round_l19 (a0 : Int32) (a1 : Int32) (Q : Int32 → ab_S → Prop) (E : String → ab_S → Prop) (K145 : Int32 → Int32 → ab_S → Prop) : Nat → Int32 → Int32 → Int32 → ab_S → Prop
  | 0, _, _, _, _ => False
  | n + 1, x3, x4, x5, σ => wX12_round_l19_b a0 a1 Q E K145 (wX12_round_l19 a0 a1 Q E K145 n) x3 x4 x5 σ
def wX12_round_l5_b (a0 : Int32) (a1 : Int32) (Q : Int32 → ab_S → Prop) (E : String → ab_S → Prop) (K151 : Int32 → ab_S → Prop) (Bk : Int32 → Int32 → ab_S → Prop) (x3 : Int32) (x4 : Int32) (σ : ab_S) : Prop := vp_in a0 31 ∧ ((((σ.2.1 103 a0.toNatClampNeg) < x4) → K151 x3 σ) ∧ (¬ ((σ.2.1 103 a0.toNatClampNeg) < x4) → ∃ n, wX12_round_l19 a0 a1 Q E (wX12_round_j145 a0 a1 Q E K151 Bk) n x3 x4 (0 : Int32) σ))
def wX12_round_l5 (a0 : Int32) (a1 : Int32) (Q : Int32 → ab_S → Prop) (E : String → ab_S → Prop) (K151 : Int32 → ab_S → Prop) : Nat → Int32 → Int32 → ab_S → Prop
  | 0, _, _, _ => False
  | n + 1, x3, x4, σ => wX12_round_l5_b a0 a1 Q E K151 (wX12_round_l5 a0 a1 Q E K151 n) x3 x4 σ
def wX12_round (a0 : Int32) (a1 : Int32) (Q : Int32 → ab_S → Prop) (E : String → ab_S → Prop) (σ : ab_S) : Prop := ∃ n, wX12_round_l5 a0 a1 Q E (wX12_round_j151 a0 a1 Q E) n (0 : Int32) (0 : Int32) σ
set_option maxHeartbeats 4000000 in
set_option maxRecDepth 100000 in
theorem ceX12_round {l : Launch} (hl : l.stackTraces = false) (B : Nat) {a0 : Int32} {a1 : Int32}  {Q : Int32 → ab_S → Prop} {E : String → ab_S → Prop} {σ : ab_S} (hW : Wire σ) (h : wX12_round a0 a1 Q E σ) : ab_Mt l yX12_round mdX12_round B 2 50 0 0 [.ref 92, .int a0, .int a1] σ (fun v σ' => Wire σ' ∧ ∃ r : Int32, v = some (.int r) ∧ Q r σ') (fun X σ' => Wire σ' ∧ E X σ') := by
  refine V_met hl ⟨rfl, rfl, by decide⟩ rfl dkX12_round (Nat.le_of_ble_eq_true rfl) ?_
  show V l mdX12_round B 2 50 0 0 (ab_End _ _) 0 [(0, .ref 92), (1, .int a0), (2, .int a1)] [] σ
  revert h hW
  revert σ
  have k_l154 : ∀ (n : Nat) (x3 : Int32) (x4 : Int32)  (σ : ab_S), Wire σ → wX12_round_l154 a0 a1 Q E n x3 x4 σ → V l mdX12_round B 2 50 0 0 (ab_End (fun v σ' => Wire σ' ∧ ∃ r : Int32, v = some (.int r) ∧ Q r σ') (fun X σ' => Wire σ' ∧ E X σ')) 154 [(0, .ref 92), (1, .int a0), (2, .int a1), (3, .int x3), (4, .int x4)] [] σ := by
    have step : ∀ (Bk : Int32 → Int32 → ab_S → Prop) (k_Bk : ∀ (x3 : Int32) (x4 : Int32)  (σ : ab_S), Wire σ → Bk x3 x4 σ → V l mdX12_round B 2 50 0 0 (ab_End (fun v σ' => Wire σ' ∧ ∃ r : Int32, v = some (.int r) ∧ Q r σ') (fun X σ' => Wire σ' ∧ E X σ')) 154 [(0, .ref 92), (1, .int a0), (2, .int a1), (3, .int x3), (4, .int x4)] [] σ), ∀ (x3 : Int32) (x4 : Int32)  (σ : ab_S), Wire σ → wX12_round_l154_b a0 a1 Q E Bk x3 x4 σ → V l mdX12_round B 2 50 0 0 (ab_End (fun v σ' => Wire σ' ∧ ∃ r : Int32, v = some (.int r) ∧ Q r σ') (fun X σ' => Wire σ' ∧ E X σ')) 154 [(0, .ref 92), (1, .int a0), (2, .int a1), (3, .int x3), (4, .int x4)] [] σ := by
      intro Bk k_Bk
      have k_j271 : ∀ (x3 : Int32) (x4 : Int32)  (σ : ab_S), Wire σ → wX12_round_j271 a0 a1 Q E Bk x3 x4 σ → V l mdX12_round B 2 50 0 0 (ab_End (fun v σ' => Wire σ' ∧ ∃ r : Int32, v = some (.int r) ∧ Q r σ') (fun X σ' => Wire σ' ∧ E X σ')) 271 [(0, .ref 92), (1, .int a0), (2, .int a1), (3, .int x3), (4, .int x4)] [] σ := by
        intro x3 x4  σ hW h
        obtain ⟨v1, ev1⟩ : ∃ z : Int32, z = (x4 + 1) := ⟨_, rfl⟩
        replace h := h v1 ev1
        refine V_iinc 164 4 (v := v1) (lv' := [(4, .int v1), (0, .ref 92), (1, .int a0), (2, .int a1), (3, .int x3)]) rfl rfl ((in_1 _).trans ev1.symm) (by decide) rfl ?_
        refine V_goto 165 (tgt := 154) rfl (by decide) ?_
        refine V_sub [1, 2, 3, 4, 0] (lv' := [(0, .ref 92), (1, .int a0), (2, .int a1), (3, .int x3), (4, .int v1)]) rfl ?_
        exact k_Bk x3 v1  σ hW h
      intro x3 x4  σ hW h
      refine V_iload 93 4 rfl rfl ?_
      refine V_aload_n 94 0 rfl rfl rfl ?_
      refine V_getR 95 17 rfl clX12 flX12_42 (by decide) (wsh hW rfl) (fun _ => rfl) (wrf hW 104 rfl) ?_
      refine V_iload_n 96 1 rfl rfl rfl ?_
      obtain ⟨hin, h⟩ := h
      refine V_iald 97 rfl (wsh hW rfl) hin ?_
      refine V_icmp_gt 98 (tgt := 277) rfl (by decide) (fun hc => ?_) (fun hc => ?_)
      · replace h := h.1 hc
        refine V_iload_n 166 3 rfl rfl rfl ?_
        exact V_zret 167 rfl rfl (nb1 h.1) ⟨hW, _, rfl, h.2⟩
      · replace h := h.2 hc
        refine V_pc 165 rfl ?_
        refine V_aload_n 99 0 rfl rfl rfl ?_
        refine V_getR 100 37 rfl clX12 flX12_96 (by decide) (wsh hW rfl) (fun _ => rfl) (wrf hW 122 rfl) ?_
        refine V_iload 101 4 rfl rfl ?_
        obtain ⟨hin, h⟩ := h
        refine V_iald 102 rfl (wsh hW rfl) hin ?_
        refine V_iconst 103 (v := (1 : Int32)) rfl (by decide) ?_
        refine V_iadd 104 rfl ?_
        refine V_pc 174 rfl ?_
        refine V_topi (fun v2 ev2 => ?_)
        replace h := h v2 ev2
        refine V_istore 105 (lv' := [(5, .int v2), (0, .ref 92), (1, .int a0), (2, .int a1), (3, .int x3), (4, .int x4)]) rfl (by decide) rfl ?_
        refine V_aload_n 106 1 rfl rfl rfl ?_
        refine V_iload_n 107 2 rfl rfl rfl ?_
        refine V_iload 108 5 rfl rfl ?_
        refine V_iload 109 0 rfl rfl ?_
        refine V_callV 110 3 (as := [.int a0, .int x4, .int v2]) (rest := []) rfl mlX12_442 yvX12_canVisit rfl rfl clX12 (wsh hW rfl) (by decide) (by decide) (Nat.le_of_ble_eq_true rfl) (by decide) (by decide) (fun B9 => ceX12_canVisit hl B9 hW h) (fun X9 τ9 h9 => VX_out rfl h9) ?_
        rintro v9 σ3 ⟨hW, u4, rfl, h⟩
        refine V_if_eq 111 (tgt := 271) rfl (by decide) (fun hc => ?_) (fun hc => ?_)
        · replace h := h.1 hc
          refine V_sub [1, 2, 3, 4, 5] (lv' := [(0, .ref 92), (1, .int a0), (2, .int a1), (3, .int x3), (4, .int x4)]) rfl ?_
          exact k_j271 x3 x4 σ3 hW h
        · replace h := h.2 hc
          refine V_pc 188 rfl ?_
          refine V_aload_n 112 1 rfl rfl rfl ?_
          refine V_getR 113 37 rfl clX12 flX12_96 (by decide) (wsh hW rfl) (fun _ => rfl) (wrf hW 122 rfl) ?_
          refine V_iload 114 5 rfl rfl ?_
          refine V_iload 115 0 rfl rfl ?_
          obtain ⟨hin, h⟩ := h
          refine V_iast 116 rfl (wsh hW rfl) hin ?_
          refine V_nm (fun σ5 eσ5 => ?_)
          replace h := h σ5 eσ5
          have hW := wire_I eσ5 hW
          refine V_aload_n 117 1 rfl rfl rfl ?_
          refine V_pc 198 rfl ?_
          refine V_getR 118 34 rfl clX12 flX12_87 (by decide) (wsh hW rfl) (fun _ => rfl) (wrf hW 119 rfl) ?_
          refine V_bipush 119 (v := (24 : Int32)) rfl (by decide) ?_
          refine V_iload_n 120 2 rfl rfl rfl ?_
          refine V_imul 121 rfl ?_
          refine V_bipush 122 (v := (6 : Int32)) rfl (by decide) ?_
          refine V_iload 123 5 rfl rfl ?_
          refine V_pc 209 rfl ?_
          refine V_imul 124 rfl ?_
          refine V_iadd 125 rfl ?_
          refine V_iload 126 0 rfl rfl ?_
          refine V_iadd 127 rfl ?_
          refine V_iload_n 128 3 rfl rfl rfl ?_
          obtain ⟨hin, h⟩ := h
          refine V_iast 129 rfl (wsh hW rfl) hin ?_
          refine V_nm (fun σ6 eσ6 => ?_)
          replace h := h σ6 eσ6
          have hW := wire_I eσ6 hW
          refine V_pc 216 rfl ?_
          refine V_aload_n 130 1 rfl rfl rfl ?_
          refine V_getR 131 35 rfl clX12 flX12_90 (by decide) (wsh hW rfl) (fun _ => rfl) (wrf hW 120 rfl) ?_
          refine V_bipush 132 (v := (24 : Int32)) rfl (by decide) ?_
          refine V_iload_n 133 2 rfl rfl rfl ?_
          refine V_imul 134 rfl ?_
          refine V_bipush 135 (v := (6 : Int32)) rfl (by decide) ?_
          refine V_pc 226 rfl ?_
          refine V_iload 136 5 rfl rfl ?_
          refine V_imul 137 rfl ?_
          refine V_iadd 138 rfl ?_
          refine V_iload 139 0 rfl rfl ?_
          refine V_iadd 140 rfl ?_
          refine V_aload_n 141 1 rfl rfl rfl ?_
          refine V_pc 234 rfl ?_
          refine V_get (v := .int (σ6.2.1 92 28)) 142 28 rfl clX12 flX12_439 (by decide) (wsh hW rfl) (fun _ => rfl) ?_
          obtain ⟨hin, h⟩ := h
          refine V_iast 143 rfl (wsh hW rfl) hin ?_
          refine V_nm (fun σ7 eσ7 => ?_)
          replace h := h σ7 eσ7
          have hW := wire_I eσ7 hW
          refine V_aload_n 144 1 rfl rfl rfl ?_
          refine V_getR 145 29 rfl clX12 flX12_72 (by decide) (wsh hW rfl) (fun _ => rfl) (wrf hW 114 rfl) ?_
          refine V_aload_n 146 1 rfl rfl rfl ?_
          refine V_get (v := .int (σ7.2.1 92 28)) 147 28 rfl clX12 flX12_439 (by decide) (wsh hW rfl) (fun _ => rfl) ?_
          refine V_pc 246 rfl ?_
          refine V_iload 148 5 rfl rfl ?_
          obtain ⟨hin, h⟩ := h
          refine V_iast 149 rfl (wsh hW rfl) hin ?_
          refine V_nm (fun σ8 eσ8 => ?_)
          replace h := h σ8 eσ8
          have hW := wire_I eσ8 hW
          refine V_aload_n 150 1 rfl rfl rfl ?_
          refine V_dup 151 rfl rfl ?_
          refine V_get (v := .int (σ8.2.1 92 28)) 152 28 rfl clX12 flX12_439 (by decide) (wsh hW rfl) (fun _ => rfl) ?_
          refine V_iconst 153 (v := (1 : Int32)) rfl (by decide) ?_
          refine V_pc 255 rfl ?_
          refine V_iadd 154 rfl ?_
          refine V_putI 155 28 rfl clX12 flX12_439 (by decide) (wsh hW rfl) rfl (fun _ _ => rfl) rfl rfl ?_
          refine V_nm (fun σ9 eσ9 => ?_)
          replace h := h σ9 eσ9
          have hW := wire_I eσ9 hW
          refine V_aload_n 156 1 rfl rfl rfl ?_
          refine V_iload_n 157 2 rfl rfl rfl ?_
          refine V_iload 158 5 rfl rfl ?_
          refine V_iload 159 0 rfl rfl ?_
          refine V_iconst 160 (v := (0 : Int32)) rfl (by decide) ?_
          refine V_pc 266 rfl ?_
          refine V_callV 161 4 (as := [.int a0, .int x4, .int v2, .int (0 : Int32)]) (rest := []) rfl mlX12_445 yvX12_comes rfl rfl clX12 (wsh hW rfl) (by decide) (by decide) (Nat.le_of_ble_eq_true rfl) (by decide) (by decide) (fun B9 => ceX12_comes hl B9 hW h) (fun X9 τ9 h9 => VX_out rfl h9) ?_
          rintro v9 σ10 ⟨hW, rfl, h⟩
          refine V_iconst 162 (v := (1 : Int32)) rfl (by decide) ?_
          refine V_istore_n 163 (lv' := [(3, .int (1 : Int32)), (5, .int v2), (0, .ref 92), (1, .int a0), (2, .int a1), (4, .int x4)]) rfl rfl (by decide) rfl ?_
          refine V_sub [2, 3, 4, 0, 5] (lv' := [(0, .ref 92), (1, .int a0), (2, .int a1), (3, .int (1 : Int32)), (4, .int x4)]) rfl ?_
          exact k_j271 (1 : Int32) x4 σ10 hW h
    intro n
    induction n with
    | zero => intro x3 x4  σ hW h; exact absurd h id
    | succ n ih => exact step  _ ih
  have k_j151 : ∀ (x3 : Int32)  (σ : ab_S), Wire σ → wX12_round_j151 a0 a1 Q E x3 σ → V l mdX12_round B 2 50 0 0 (ab_End (fun v σ' => Wire σ' ∧ ∃ r : Int32, v = some (.int r) ∧ Q r σ') (fun X σ' => Wire σ' ∧ E X σ')) 151 [(0, .ref 92), (1, .int a0), (2, .int a1), (3, .int x3)] [] σ := by
    intro x3  σ hW h
    refine V_iconst 91 (v := (1 : Int32)) rfl (by decide) ?_
    refine V_istore 92 (lv' := [(4, .int (1 : Int32)), (0, .ref 92), (1, .int a0), (2, .int a1), (3, .int x3)]) rfl (by decide) rfl ?_
    refine V_sub [1, 2, 3, 4, 0] (lv' := [(0, .ref 92), (1, .int a0), (2, .int a1), (3, .int x3), (4, .int (1 : Int32))]) rfl ?_
    obtain ⟨n, h⟩ := h
    exact k_l154 n x3 (1 : Int32) σ hW h
  have k_l5 : ∀ (n : Nat) (x3 : Int32) (x4 : Int32)  (σ : ab_S), Wire σ → wX12_round_l5 a0 a1 Q E (wX12_round_j151 a0 a1 Q E) n x3 x4 σ → V l mdX12_round B 2 50 0 0 (ab_End (fun v σ' => Wire σ' ∧ ∃ r : Int32, v = some (.int r) ∧ Q r σ') (fun X σ' => Wire σ' ∧ E X σ')) 5 [(0, .ref 92), (1, .int a0), (2, .int a1), (3, .int x3), (4, .int x4)] [] σ := by
    have step : ∀ (K151 : Int32 → ab_S → Prop) (k_K151 : ∀ (x3 : Int32)  (σ : ab_S), Wire σ → K151 x3 σ → V l mdX12_round B 2 50 0 0 (ab_End (fun v σ' => Wire σ' ∧ ∃ r : Int32, v = some (.int r) ∧ Q r σ') (fun X σ' => Wire σ' ∧ E X σ')) 151 [(0, .ref 92), (1, .int a0), (2, .int a1), (3, .int x3)] [] σ), ∀ (Bk : Int32 → Int32 → ab_S → Prop) (k_Bk : ∀ (x3 : Int32) (x4 : Int32)  (σ : ab_S), Wire σ → Bk x3 x4 σ → V l mdX12_round B 2 50 0 0 (ab_End (fun v σ' => Wire σ' ∧ ∃ r : Int32, v = some (.int r) ∧ Q r σ') (fun X σ' => Wire σ' ∧ E X σ')) 5 [(0, .ref 92), (1, .int a0), (2, .int a1), (3, .int x3), (4, .int x4)] [] σ), ∀ (x3 : Int32) (x4 : Int32)  (σ : ab_S), Wire σ → wX12_round_l5_b a0 a1 Q E K151 Bk x3 x4 σ → V l mdX12_round B 2 50 0 0 (ab_End (fun v σ' => Wire σ' ∧ ∃ r : Int32, v = some (.int r) ∧ Q r σ') (fun X σ' => Wire σ' ∧ E X σ')) 5 [(0, .ref 92), (1, .int a0), (2, .int a1), (3, .int x3), (4, .int x4)] [] σ := by
      intro K151 k_K151 Bk k_Bk
      have k_j145 : ∀ (x3 : Int32) (x4 : Int32)  (σ : ab_S), Wire σ → wX12_round_j145 a0 a1 Q E K151 Bk x3 x4 σ → V l mdX12_round B 2 50 0 0 (ab_End (fun v σ' => Wire σ' ∧ ∃ r : Int32, v = some (.int r) ∧ Q r σ') (fun X σ' => Wire σ' ∧ E X σ')) 145 [(0, .ref 92), (1, .int a0), (2, .int a1), (3, .int x3), (4, .int x4)] [] σ := by
        intro x3 x4  σ hW h
        obtain ⟨v11, ev11⟩ : ∃ z : Int32, z = (x4 + 1) := ⟨_, rfl⟩
        replace h := h v11 ev11
        refine V_iinc 89 4 (v := v11) (lv' := [(4, .int v11), (0, .ref 92), (1, .int a0), (2, .int a1), (3, .int x3)]) rfl rfl ((in_1 _).trans ev11.symm) (by decide) rfl ?_
        refine V_goto 90 (tgt := 5) rfl (by decide) ?_
        refine V_sub [1, 2, 3, 4, 0] (lv' := [(0, .ref 92), (1, .int a0), (2, .int a1), (3, .int x3), (4, .int v11)]) rfl ?_
        exact k_Bk x3 v11  σ hW h
      have k_l19 : ∀ (n : Nat) (x3 : Int32) (x4 : Int32) (x5 : Int32)  (σ : ab_S), Wire σ → wX12_round_l19 a0 a1 Q E (wX12_round_j145 a0 a1 Q E K151 Bk) n x3 x4 x5 σ → V l mdX12_round B 2 50 0 0 (ab_End (fun v σ' => Wire σ' ∧ ∃ r : Int32, v = some (.int r) ∧ Q r σ') (fun X σ' => Wire σ' ∧ E X σ')) 19 [(0, .ref 92), (1, .int a0), (2, .int a1), (3, .int x3), (4, .int x4), (5, .int x5)] [] σ := by
        have step : ∀ (K145 : Int32 → Int32 → ab_S → Prop) (k_K145 : ∀ (x3 : Int32) (x4 : Int32)  (σ : ab_S), Wire σ → K145 x3 x4 σ → V l mdX12_round B 2 50 0 0 (ab_End (fun v σ' => Wire σ' ∧ ∃ r : Int32, v = some (.int r) ∧ Q r σ') (fun X σ' => Wire σ' ∧ E X σ')) 145 [(0, .ref 92), (1, .int a0), (2, .int a1), (3, .int x3), (4, .int x4)] [] σ), ∀ (Bk : Int32 → Int32 → Int32 → ab_S → Prop) (k_Bk : ∀ (x3 : Int32) (x4 : Int32) (x5 : Int32)  (σ : ab_S), Wire σ → Bk x3 x4 x5 σ → V l mdX12_round B 2 50 0 0 (ab_End (fun v σ' => Wire σ' ∧ ∃ r : Int32, v = some (.int r) ∧ Q r σ') (fun X σ' => Wire σ' ∧ E X σ')) 19 [(0, .ref 92), (1, .int a0), (2, .int a1), (3, .int x3), (4, .int x4), (5, .int x5)] [] σ), ∀ (x3 : Int32) (x4 : Int32) (x5 : Int32)  (σ : ab_S), Wire σ → wX12_round_l19_b a0 a1 Q E K145 Bk x3 x4 x5 σ → V l mdX12_round B 2 50 0 0 (ab_End (fun v σ' => Wire σ' ∧ ∃ r : Int32, v = some (.int r) ∧ Q r σ') (fun X σ' => Wire σ' ∧ E X σ')) 19 [(0, .ref 92), (1, .int a0), (2, .int a1), (3, .int x3), (4, .int x4), (5, .int x5)] [] σ := by
          intro K145 k_K145 Bk k_Bk
          have k_j139 : ∀ (x3 : Int32) (x4 : Int32) (x5 : Int32)  (σ : ab_S), Wire σ → wX12_round_j139 a0 a1 Q E K145 Bk x3 x4 x5 σ → V l mdX12_round B 2 50 0 0 (ab_End (fun v σ' => Wire σ' ∧ ∃ r : Int32, v = some (.int r) ∧ Q r σ') (fun X σ' => Wire σ' ∧ E X σ')) 139 [(0, .ref 92), (1, .int a0), (2, .int a1), (3, .int x3), (4, .int x4), (5, .int x5)] [] σ := by
            intro x3 x4 x5  σ hW h
            obtain ⟨v12, ev12⟩ : ∃ z : Int32, z = (x5 + 1) := ⟨_, rfl⟩
            replace h := h v12 ev12
            refine V_iinc 87 5 (v := v12) (lv' := [(5, .int v12), (0, .ref 92), (1, .int a0), (2, .int a1), (3, .int x3), (4, .int x4)]) rfl rfl ((in_1 _).trans ev12.symm) (by decide) rfl ?_
            refine V_goto 88 (tgt := 19) rfl (by decide) ?_
            refine V_sub [1, 2, 3, 4, 5, 0] (lv' := [(0, .ref 92), (1, .int a0), (2, .int a1), (3, .int x3), (4, .int x4), (5, .int v12)]) rfl ?_
            exact k_Bk x3 x4 v12  σ hW h
          intro x3 x4 x5  σ hW h
          refine V_iload 12 5 rfl rfl ?_
          refine V_aload_n 13 0 rfl rfl rfl ?_
          refine V_getR 14 12 rfl clX12 flX12_29 (by decide) (wsh hW rfl) (fun _ => rfl) (wrf hW 100 rfl) ?_
          refine V_aload_n 15 0 rfl rfl rfl ?_
          refine V_getR 16 18 rfl clX12 flX12_45 (by decide) (wsh hW rfl) (fun _ => rfl) (wrf hW 105 rfl) ?_
          refine V_iconst 17 (v := (4 : Int32)) rfl (by decide) ?_
          refine V_pc 30 rfl ?_
          refine V_iload_n 18 1 rfl rfl rfl ?_
          refine V_imul 19 rfl ?_
          refine V_iload 20 4 rfl rfl ?_
          refine V_iadd 21 rfl ?_
          obtain ⟨hin, h⟩ := h
          refine V_iald 22 rfl (wsh hW rfl) hin ?_
          obtain ⟨hin, h⟩ := h
          refine V_iald 23 rfl (wsh hW rfl) hin ?_
          refine V_pc 37 rfl ?_
          refine V_icmp_ge 24 (tgt := 145) rfl (by decide) (fun hc => ?_) (fun hc => ?_)
          · replace h := h.1 hc
            refine V_sub [0, 1, 2, 3, 4] (lv' := [(0, .ref 92), (1, .int a0), (2, .int a1), (3, .int x3), (4, .int x4)]) rfl ?_
            exact k_K145 x3 x4  σ hW h
          · replace h := h.2 hc
            refine V_pc 40 rfl ?_
            refine V_aload_n 25 0 rfl rfl rfl ?_
            refine V_iload_n 26 1 rfl rfl rfl ?_
            refine V_iload 27 4 rfl rfl ?_
            refine V_iload 28 5 rfl rfl ?_
            refine V_callV 29 3 (as := [.int a0, .int x4, .int x5]) (rest := []) rfl mlX12_436 yvX12_canEvaluate rfl rfl clX12 (wsh hW rfl) (by decide) (by decide) (Nat.le_of_ble_eq_true rfl) (by decide) (by decide) (fun B9 => ceX12_canEvaluate hl B9 hW h) (fun X9 τ9 h9 => VX_out rfl h9) ?_
            rintro v9 σ13 ⟨hW, u14, rfl, h⟩
            refine V_if_eq 30 (tgt := 139) rfl (by decide) (fun hc => ?_) (fun hc => ?_)
            · replace h := h.1 hc
              exact k_j139 x3 x4 x5 σ13 hW h
            · replace h := h.2 hc
              refine V_pc 52 rfl ?_
              refine V_aload_n 31 0 rfl rfl rfl ?_
              refine V_getR 32 36 rfl clX12 flX12_93 (by decide) (wsh hW rfl) (fun _ => rfl) (wrf hW 121 rfl) ?_
              refine V_bipush 33 (v := (8 : Int32)) rfl (by decide) ?_
              refine V_iload 34 4 rfl rfl ?_
              refine V_imul 35 rfl ?_
              refine V_iload 36 5 rfl rfl ?_
              refine V_pc 63 rfl ?_
              refine V_iadd 37 rfl ?_
              refine V_iconst 38 (v := (1 : Int32)) rfl (by decide) ?_
              obtain ⟨hin, h⟩ := h
              refine V_zast 39 rfl (wsh hW rfl) hin ?_
              refine V_nm (fun σ15 eσ15 => ?_)
              replace h := h σ15 eσ15
              have hW := wire_I eσ15 hW
              refine V_aload_n 40 0 rfl rfl rfl ?_
              refine V_getR 41 32 rfl clX12 flX12_81 (by decide) (wsh hW rfl) (fun _ => rfl) (wrf hW 117 rfl) ?_
              refine V_bipush 42 (v := (32 : Int32)) rfl (by decide) ?_
              refine V_pc 72 rfl ?_
              refine V_iload_n 43 1 rfl rfl rfl ?_
              refine V_imul 44 rfl ?_
              refine V_bipush 45 (v := (8 : Int32)) rfl (by decide) ?_
              refine V_iload 46 4 rfl rfl ?_
              refine V_imul 47 rfl ?_
              refine V_iadd 48 rfl ?_
              refine V_pc 80 rfl ?_
              refine V_iload 49 5 rfl rfl ?_
              refine V_iadd 50 rfl ?_
              refine V_iload_n 51 2 rfl rfl rfl ?_
              obtain ⟨hin, h⟩ := h
              refine V_iast 52 rfl (wsh hW rfl) hin ?_
              refine V_nm (fun σ16 eσ16 => ?_)
              replace h := h σ16 eσ16
              have hW := wire_I eσ16 hW
              refine V_aload_n 53 0 rfl rfl rfl ?_
              refine V_getR 54 33 rfl clX12 flX12_84 (by decide) (wsh hW rfl) (fun _ => rfl) (wrf hW 118 rfl) ?_
              refine V_pc 89 rfl ?_
              refine V_bipush 55 (v := (32 : Int32)) rfl (by decide) ?_
              refine V_iload_n 56 1 rfl rfl rfl ?_
              refine V_imul 57 rfl ?_
              refine V_bipush 58 (v := (8 : Int32)) rfl (by decide) ?_
              refine V_iload 59 4 rfl rfl ?_
              refine V_imul 60 rfl ?_
              refine V_pc 98 rfl ?_
              refine V_iadd 61 rfl ?_
              refine V_iload 62 5 rfl rfl ?_
              refine V_iadd 63 rfl ?_
              refine V_aload_n 64 0 rfl rfl rfl ?_
              refine V_get (v := .int (σ16.2.1 92 28)) 65 28 rfl clX12 flX12_439 (by decide) (wsh hW rfl) (fun _ => rfl) ?_
              obtain ⟨hin, h⟩ := h
              refine V_iast 66 rfl (wsh hW rfl) hin ?_
              refine V_nm (fun σ17 eσ17 => ?_)
              replace h := h σ17 eσ17
              have hW := wire_I eσ17 hW
              refine V_pc 107 rfl ?_
              refine V_aload_n 67 0 rfl rfl rfl ?_
              refine V_getR 68 29 rfl clX12 flX12_72 (by decide) (wsh hW rfl) (fun _ => rfl) (wrf hW 114 rfl) ?_
              refine V_aload_n 69 0 rfl rfl rfl ?_
              refine V_get (v := .int (σ17.2.1 92 28)) 70 28 rfl clX12 flX12_439 (by decide) (wsh hW rfl) (fun _ => rfl) ?_
              refine V_bipush 71 (v := (10 : Int32)) rfl (by decide) ?_
              refine V_bipush 72 (v := (10 : Int32)) rfl (by decide) ?_
              refine V_pc 119 rfl ?_
              refine V_iload 73 4 rfl rfl ?_
              refine V_imul 74 rfl ?_
              refine V_iadd 75 rfl ?_
              refine V_iload 76 5 rfl rfl ?_
              refine V_iadd 77 rfl ?_
              obtain ⟨hin, h⟩ := h
              refine V_iast 78 rfl (wsh hW rfl) hin ?_
              refine V_nm (fun σ18 eσ18 => ?_)
              replace h := h σ18 eσ18
              have hW := wire_I eσ18 hW
              refine V_pc 127 rfl ?_
              refine V_aload_n 79 0 rfl rfl rfl ?_
              refine V_dup 80 rfl rfl ?_
              refine V_get (v := .int (σ18.2.1 92 28)) 81 28 rfl clX12 flX12_439 (by decide) (wsh hW rfl) (fun _ => rfl) ?_
              refine V_iconst 82 (v := (1 : Int32)) rfl (by decide) ?_
              refine V_iadd 83 rfl ?_
              refine V_putI 84 28 rfl clX12 flX12_439 (by decide) (wsh hW rfl) rfl (fun _ _ => rfl) rfl rfl ?_
              refine V_nm (fun σ19 eσ19 => ?_)
              replace h := h σ19 eσ19
              have hW := wire_I eσ19 hW
              refine V_iconst 85 (v := (1 : Int32)) rfl (by decide) ?_
              refine V_istore_n 86 (lv' := [(3, .int (1 : Int32)), (0, .ref 92), (1, .int a0), (2, .int a1), (4, .int x4), (5, .int x5)]) rfl rfl (by decide) rfl ?_
              refine V_sub [1, 2, 3, 0, 4, 5] (lv' := [(0, .ref 92), (1, .int a0), (2, .int a1), (3, .int (1 : Int32)), (4, .int x4), (5, .int x5)]) rfl ?_
              exact k_j139 (1 : Int32) x4 x5 σ19 hW h
        intro n
        induction n with
        | zero => intro x3 x4 x5  σ hW h; exact absurd h id
        | succ n ih => exact step _ k_j145 _ ih
      intro x3 x4  σ hW h
      refine V_iload 4 4 rfl rfl ?_
      refine V_aload_n 5 0 rfl rfl rfl ?_
      refine V_getR 6 17 rfl clX12 flX12_42 (by decide) (wsh hW rfl) (fun _ => rfl) (wrf hW 104 rfl) ?_
      refine V_iload_n 7 1 rfl rfl rfl ?_
      obtain ⟨hin, h⟩ := h
      refine V_iald 8 rfl (wsh hW rfl) hin ?_
      refine V_icmp_gt 9 (tgt := 151) rfl (by decide) (fun hc => ?_) (fun hc => ?_)
      · replace h := h.1 hc
        refine V_sub [0, 1, 2, 3] (lv' := [(0, .ref 92), (1, .int a0), (2, .int a1), (3, .int x3)]) rfl ?_
        exact k_K151 x3  σ hW h
      · replace h := h.2 hc
        refine V_pc 16 rfl ?_
        refine V_iconst 10 (v := (0 : Int32)) rfl (by decide) ?_
        refine V_istore 11 (lv' := [(5, .int (0 : Int32)), (0, .ref 92), (1, .int a0), (2, .int a1), (3, .int x3), (4, .int x4)]) rfl (by decide) rfl ?_
        refine V_sub [1, 2, 3, 4, 5, 0] (lv' := [(0, .ref 92), (1, .int a0), (2, .int a1), (3, .int x3), (4, .int x4), (5, .int (0 : Int32))]) rfl ?_
        obtain ⟨n, h⟩ := h
        exact k_l19 n x3 x4 (0 : Int32) σ hW h
    intro n
    induction n with
    | zero => intro x3 x4  σ hW h; exact absurd h id
    | succ n ih => exact step _ k_j151 _ ih
  intro σ hW h
  refine V_iconst 0 (v := (0 : Int32)) rfl (by decide) ?_
  refine V_istore_n 1 (lv' := [(3, .int (0 : Int32)), (0, .ref 92), (1, .int a0), (2, .int a1)]) rfl rfl (by decide) rfl ?_
  refine V_iconst 2 (v := (0 : Int32)) rfl (by decide) ?_
  refine V_istore 3 (lv' := [(4, .int (0 : Int32)), (3, .int (0 : Int32)), (0, .ref 92), (1, .int a0), (2, .int a1)]) rfl (by decide) rfl ?_
  refine V_sub [2, 3, 4, 1, 0] (lv' := [(0, .ref 92), (1, .int a0), (2, .int a1), (3, .int (0 : Int32)), (4, .int (0 : Int32))]) rfl ?_
  obtain ⟨n, h⟩ := h
  exact k_l5 n (0 : Int32) (0 : Int32) σ hW h

def wX12_makePlans_j173 (Q : ab_S → Prop) (E : String → ab_S → Prop) (Bk : Int32 → ab_S → Prop) (x1 : Int32) (σ : ab_S) : Prop := ∀ v1 : Int32, v1 = (x1 + 1) → Bk v1 σ
def wX12_makePlans_j152 (Q : ab_S → Prop) (E : String → ab_S → Prop) (K173 : Int32 → ab_S → Prop) (Bk : Int32 → Int32 → ab_S → Prop) (x1 : Int32) (x2 : Int32) (σ : ab_S) : Prop := vp_in (((6 : Int32) * x1) + x2) 187 ∧ (∀ σ2 : ab_S, σ2 = ab_I σ 115 (((6 : Int32) * x1) + x2).toNatClampNeg (σ.2.1 92 28) → ∀ v3 : Int32, v3 = (x2 + 1) → Bk x1 v3 σ2)
def wX12_makePlans_l138_b (Q : ab_S → Prop) (E : String → ab_S → Prop) (K152 : Int32 → Int32 → ab_S → Prop) (Bk : Int32 → Int32 → Int32 → ab_S → Prop) (x1 : Int32) (x2 : Int32) (x3 : Int32) (σ : ab_S) : Prop := ((x3 = 0) → K152 x1 x2 σ) ∧ (¬ (x3 = 0) → wX12_round x1 x2 (fun u5 σ4 => Bk x1 x2 u5 σ4) E σ)
def wX12_makePlans_l138 (Q : ab_S → Prop) (E : String → ab_S → Prop) (K152 : Int32 → Int32 → ab_S → Prop) : Nat → Int32 → Int32 → Int32 → ab_S → Prop
  | 0, _, _, _, _ => False
  | n + 1, x1, x2, x3, σ => wX12_makePlans_l138_b Q E K152 (wX12_makePlans_l138 Q E K152 n) x1 x2 x3 σ
def wX12_makePlans_l96_b (Q : ab_S → Prop) (E : String → ab_S → Prop) (K173 : Int32 → ab_S → Prop) (Bk : Int32 → Int32 → ab_S → Prop) (x1 : Int32) (x2 : Int32) (σ : ab_S) : Prop := vp_in ((4 : Int32) * x1) 124 ∧ (vp_in (σ.2.1 104 ((4 : Int32) * x1).toNatClampNeg) 13 ∧ ((((σ.2.1 112 (σ.2.1 104 ((4 : Int32) * x1).toNatClampNeg).toNatClampNeg) < x2) → K173 x1 σ) ∧ (¬ ((σ.2.1 112 (σ.2.1 104 ((4 : Int32) * x1).toNatClampNeg).toNatClampNeg) < x2) → vp_in (((6 : Int32) * x1) + x2) 187 ∧ (∀ σ6 : ab_S, σ6 = ab_I σ 114 (((6 : Int32) * x1) + x2).toNatClampNeg (σ.2.1 92 28) → wX12_comes x1 (0 : Int32) x2 (1 : Int32) (fun σ7 => ∃ n, wX12_makePlans_l138 Q E (wX12_makePlans_j152 Q E K173 Bk) n x1 x2 (1 : Int32) σ7) E σ6))))
def wX12_makePlans_l96 (Q : ab_S → Prop) (E : String → ab_S → Prop) (K173 : Int32 → ab_S → Prop) : Nat → Int32 → Int32 → ab_S → Prop
  | 0, _, _, _ => False
  | n + 1, x1, x2, σ => wX12_makePlans_l96_b Q E K173 (wX12_makePlans_l96 Q E K173 n) x1 x2 σ
def wX12_makePlans_j94 (Q : ab_S → Prop) (E : String → ab_S → Prop) (Bk : Int32 → ab_S → Prop) (x1 : Int32) (σ : ab_S) : Prop := ∃ n, wX12_makePlans_l96 Q E (wX12_makePlans_j173 Q E Bk) n x1 (1 : Int32) σ
def wX12_makePlans_l70_b (Q : ab_S → Prop) (E : String → ab_S → Prop) (K94 : Int32 → ab_S → Prop) (Bk : Int32 → Int32 → ab_S → Prop) (x1 : Int32) (x2 : Int32) (σ : ab_S) : Prop := (((24 : Int32) ≤ x2) → K94 x1 σ) ∧ (¬ ((24 : Int32) ≤ x2) → vp_in (((24 : Int32) * x1) + x2) 744 ∧ (∀ σ8 : ab_S, σ8 = ab_I σ 118 (((24 : Int32) * x1) + x2).toNatClampNeg (0 : Int32) → ∀ v9 : Int32, v9 = (x2 + 1) → Bk x1 v9 σ8))
def wX12_makePlans_l70 (Q : ab_S → Prop) (E : String → ab_S → Prop) (K94 : Int32 → ab_S → Prop) : Nat → Int32 → Int32 → ab_S → Prop
  | 0, _, _, _ => False
  | n + 1, x1, x2, σ => wX12_makePlans_l70_b Q E K94 (wX12_makePlans_l70 Q E K94 n) x1 x2 σ
def wX12_makePlans_j68 (Q : ab_S → Prop) (E : String → ab_S → Prop) (Bk : Int32 → ab_S → Prop) (x1 : Int32) (σ : ab_S) : Prop := ∃ n, wX12_makePlans_l70 Q E (wX12_makePlans_j94 Q E Bk) n x1 (0 : Int32) σ
def wX12_makePlans_l50_b (Q : ab_S → Prop) (E : String → ab_S → Prop) (K68 : Int32 → ab_S → Prop) (Bk : Int32 → Int32 → ab_S → Prop) (x1 : Int32) (x2 : Int32) (σ : ab_S) : Prop := (((4 : Int32) ≤ x2) → K68 x1 σ) ∧ (¬ ((4 : Int32) ≤ x2) → vp_in x2 4 ∧ (∀ σ10 : ab_S, σ10 = ab_I σ 121 x2.toNatClampNeg (0 : Int32) → ∀ v11 : Int32, v11 = (x2 + 1) → Bk x1 v11 σ10))
def wX12_makePlans_l50 (Q : ab_S → Prop) (E : String → ab_S → Prop) (K68 : Int32 → ab_S → Prop) : Nat → Int32 → Int32 → ab_S → Prop
  | 0, _, _, _ => False
  | n + 1, x1, x2, σ => wX12_makePlans_l50_b Q E K68 (wX12_makePlans_l50 Q E K68 n) x1 x2 σ
def wX12_makePlans_j48 (Q : ab_S → Prop) (E : String → ab_S → Prop) (Bk : Int32 → ab_S → Prop) (x1 : Int32) (σ : ab_S) : Prop := ∃ n, wX12_makePlans_l50 Q E (wX12_makePlans_j68 Q E Bk) n x1 (0 : Int32) σ
def wX12_makePlans_l17_b (Q : ab_S → Prop) (E : String → ab_S → Prop) (K48 : Int32 → ab_S → Prop) (Bk : Int32 → Int32 → ab_S → Prop) (x1 : Int32) (x2 : Int32) (σ : ab_S) : Prop := (((32 : Int32) ≤ x2) → K48 x1 σ) ∧ (¬ ((32 : Int32) ≤ x2) → vp_in x2 32 ∧ (∀ σ12 : ab_S, σ12 = ab_I σ 120 x2.toNatClampNeg (vp_nar .boolean (0 : Int32)) → vp_in (((32 : Int32) * x1) + x2) 992 ∧ (∀ σ13 : ab_S, σ13 = ab_I σ12 116 (((32 : Int32) * x1) + x2).toNatClampNeg (0 : Int32) → ∀ v14 : Int32, v14 = (x2 + 1) → Bk x1 v14 σ13)))
def wX12_makePlans_l17 (Q : ab_S → Prop) (E : String → ab_S → Prop) (K48 : Int32 → ab_S → Prop) : Nat → Int32 → Int32 → ab_S → Prop
  | 0, _, _, _ => False
  | n + 1, x1, x2, σ => wX12_makePlans_l17_b Q E K48 (wX12_makePlans_l17 Q E K48 n) x1 x2 σ
def wX12_makePlans_l7_b (Q : ab_S → Prop) (E : String → ab_S → Prop) (Bk : Int32 → ab_S → Prop) (x1 : Int32) (σ : ab_S) : Prop := (((σ.2.1 92 14) ≤ x1) → Q σ) ∧ (¬ ((σ.2.1 92 14) ≤ x1) → ∃ n, wX12_makePlans_l17 Q E (wX12_makePlans_j48 Q E Bk) n x1 (0 : Int32) σ)
def wX12_makePlans_l7 (Q : ab_S → Prop) (E : String → ab_S → Prop) : Nat → Int32 → ab_S → Prop
  | 0, _, _ => False
  | n + 1, x1, σ => wX12_makePlans_l7_b Q E (wX12_makePlans_l7 Q E n) x1 σ
def wX12_makePlans  (Q : ab_S → Prop) (E : String → ab_S → Prop) (σ : ab_S) : Prop := (∀ σ15 : ab_S, σ15 = ab_I σ 92 28 (0 : Int32) → ∃ n, wX12_makePlans_l7 Q E n (0 : Int32) σ15)
set_option maxHeartbeats 4000000 in
set_option maxRecDepth 100000 in
theorem ceX12_makePlans {l : Launch} (hl : l.stackTraces = false) (B : Nat)   {Q : ab_S → Prop} {E : String → ab_S → Prop} {σ : ab_S} (hW : Wire σ) (h : wX12_makePlans  Q E σ) : ab_Mt l yX12_makePlans mdX12_makePlans B 3 75 0 0 [.ref 92] σ (fun v σ' => Wire σ' ∧ v = none ∧ Q σ') (fun X σ' => Wire σ' ∧ E X σ') := by
  refine V_met hl ⟨rfl, rfl, by decide⟩ rfl dkX12_makePlans (Nat.le_of_ble_eq_true rfl) ?_
  show V l mdX12_makePlans B 3 75 0 0 (ab_End _ _) 0 [(0, .ref 92)] [] σ
  revert h hW
  revert σ
  have k_l7 : ∀ (n : Nat) (x1 : Int32)  (σ : ab_S), Wire σ → wX12_makePlans_l7 Q E n x1 σ → V l mdX12_makePlans B 3 75 0 0 (ab_End (fun v σ' => Wire σ' ∧ v = none ∧ Q σ') (fun X σ' => Wire σ' ∧ E X σ')) 7 [(0, .ref 92), (1, .int x1)] [] σ := by
    have step : ∀ (Bk : Int32 → ab_S → Prop) (k_Bk : ∀ (x1 : Int32)  (σ : ab_S), Wire σ → Bk x1 σ → V l mdX12_makePlans B 3 75 0 0 (ab_End (fun v σ' => Wire σ' ∧ v = none ∧ Q σ') (fun X σ' => Wire σ' ∧ E X σ')) 7 [(0, .ref 92), (1, .int x1)] [] σ), ∀ (x1 : Int32)  (σ : ab_S), Wire σ → wX12_makePlans_l7_b Q E Bk x1 σ → V l mdX12_makePlans B 3 75 0 0 (ab_End (fun v σ' => Wire σ' ∧ v = none ∧ Q σ') (fun X σ' => Wire σ' ∧ E X σ')) 7 [(0, .ref 92), (1, .int x1)] [] σ := by
      intro Bk k_Bk
      have k_j173 : ∀ (x1 : Int32)  (σ : ab_S), Wire σ → wX12_makePlans_j173 Q E Bk x1 σ → V l mdX12_makePlans B 3 75 0 0 (ab_End (fun v σ' => Wire σ' ∧ v = none ∧ Q σ') (fun X σ' => Wire σ' ∧ E X σ')) 173 [(0, .ref 92), (1, .int x1)] [] σ := by
        intro x1  σ hW h
        obtain ⟨v1, ev1⟩ : ∃ z : Int32, z = (x1 + 1) := ⟨_, rfl⟩
        replace h := h v1 ev1
        refine V_iinc 109 1 (v := v1) (lv' := [(1, .int v1), (0, .ref 92)]) rfl rfl ((in_1 _).trans ev1.symm) (by decide) rfl ?_
        refine V_goto 110 (tgt := 7) rfl (by decide) ?_
        refine V_sub [1, 0] (lv' := [(0, .ref 92), (1, .int v1)]) rfl ?_
        exact k_Bk v1  σ hW h
      have k_l96 : ∀ (n : Nat) (x1 : Int32) (x2 : Int32)  (σ : ab_S), Wire σ → wX12_makePlans_l96 Q E (wX12_makePlans_j173 Q E Bk) n x1 x2 σ → V l mdX12_makePlans B 3 75 0 0 (ab_End (fun v σ' => Wire σ' ∧ v = none ∧ Q σ') (fun X σ' => Wire σ' ∧ E X σ')) 96 [(0, .ref 92), (1, .int x1), (2, .int x2)] [] σ := by
        have step : ∀ (K173 : Int32 → ab_S → Prop) (k_K173 : ∀ (x1 : Int32)  (σ : ab_S), Wire σ → K173 x1 σ → V l mdX12_makePlans B 3 75 0 0 (ab_End (fun v σ' => Wire σ' ∧ v = none ∧ Q σ') (fun X σ' => Wire σ' ∧ E X σ')) 173 [(0, .ref 92), (1, .int x1)] [] σ), ∀ (Bk : Int32 → Int32 → ab_S → Prop) (k_Bk : ∀ (x1 : Int32) (x2 : Int32)  (σ : ab_S), Wire σ → Bk x1 x2 σ → V l mdX12_makePlans B 3 75 0 0 (ab_End (fun v σ' => Wire σ' ∧ v = none ∧ Q σ') (fun X σ' => Wire σ' ∧ E X σ')) 96 [(0, .ref 92), (1, .int x1), (2, .int x2)] [] σ), ∀ (x1 : Int32) (x2 : Int32)  (σ : ab_S), Wire σ → wX12_makePlans_l96_b Q E K173 Bk x1 x2 σ → V l mdX12_makePlans B 3 75 0 0 (ab_End (fun v σ' => Wire σ' ∧ v = none ∧ Q σ') (fun X σ' => Wire σ' ∧ E X σ')) 96 [(0, .ref 92), (1, .int x1), (2, .int x2)] [] σ := by
          intro K173 k_K173 Bk k_Bk
          have k_j152 : ∀ (x1 : Int32) (x2 : Int32)  (σ : ab_S), Wire σ → wX12_makePlans_j152 Q E K173 Bk x1 x2 σ → V l mdX12_makePlans B 3 75 0 0 (ab_End (fun v σ' => Wire σ' ∧ v = none ∧ Q σ') (fun X σ' => Wire σ' ∧ E X σ')) 152 [(0, .ref 92), (1, .int x1), (2, .int x2)] [] σ := by
            intro x1 x2  σ hW h
            refine V_aload_n 97 0 rfl rfl rfl ?_
            refine V_getR 98 31 rfl clX12 flX12_78 (by decide) (wsh hW rfl) (fun _ => rfl) (wrf hW 116 rfl) ?_
            refine V_bipush 99 (v := (6 : Int32)) rfl (by decide) ?_
            refine V_iload_n 100 1 rfl rfl rfl ?_
            refine V_imul 101 rfl ?_
            refine V_iload_n 102 2 rfl rfl rfl ?_
            refine V_pc 161 rfl ?_
            refine V_iadd 103 rfl ?_
            refine V_aload_n 104 0 rfl rfl rfl ?_
            refine V_get (v := .int (σ.2.1 92 28)) 105 28 rfl clX12 flX12_439 (by decide) (wsh hW rfl) (fun _ => rfl) ?_
            obtain ⟨hin, h⟩ := h
            refine V_iast 106 rfl (wsh hW rfl) hin ?_
            refine V_nm (fun σ2 eσ2 => ?_)
            replace h := h σ2 eσ2
            have hW := wire_I eσ2 hW
            obtain ⟨v3, ev3⟩ : ∃ z : Int32, z = (x2 + 1) := ⟨_, rfl⟩
            replace h := h v3 ev3
            refine V_iinc 107 2 (v := v3) (lv' := [(2, .int v3), (0, .ref 92), (1, .int x1)]) rfl rfl ((in_1 _).trans ev3.symm) (by decide) rfl ?_
            refine V_goto 108 (tgt := 96) rfl (by decide) ?_
            refine V_sub [1, 2, 0] (lv' := [(0, .ref 92), (1, .int x1), (2, .int v3)]) rfl ?_
            exact k_Bk x1 v3  σ2 hW h
          have k_l138 : ∀ (n : Nat) (x1 : Int32) (x2 : Int32) (x3 : Int32)  (σ : ab_S), Wire σ → wX12_makePlans_l138 Q E (wX12_makePlans_j152 Q E K173 Bk) n x1 x2 x3 σ → V l mdX12_makePlans B 3 75 0 0 (ab_End (fun v σ' => Wire σ' ∧ v = none ∧ Q σ') (fun X σ' => Wire σ' ∧ E X σ')) 138 [(0, .ref 92), (1, .int x1), (2, .int x2), (3, .int x3)] [] σ := by
            have step : ∀ (K152 : Int32 → Int32 → ab_S → Prop) (k_K152 : ∀ (x1 : Int32) (x2 : Int32)  (σ : ab_S), Wire σ → K152 x1 x2 σ → V l mdX12_makePlans B 3 75 0 0 (ab_End (fun v σ' => Wire σ' ∧ v = none ∧ Q σ') (fun X σ' => Wire σ' ∧ E X σ')) 152 [(0, .ref 92), (1, .int x1), (2, .int x2)] [] σ), ∀ (Bk : Int32 → Int32 → Int32 → ab_S → Prop) (k_Bk : ∀ (x1 : Int32) (x2 : Int32) (x3 : Int32)  (σ : ab_S), Wire σ → Bk x1 x2 x3 σ → V l mdX12_makePlans B 3 75 0 0 (ab_End (fun v σ' => Wire σ' ∧ v = none ∧ Q σ') (fun X σ' => Wire σ' ∧ E X σ')) 138 [(0, .ref 92), (1, .int x1), (2, .int x2), (3, .int x3)] [] σ), ∀ (x1 : Int32) (x2 : Int32) (x3 : Int32)  (σ : ab_S), Wire σ → wX12_makePlans_l138_b Q E K152 Bk x1 x2 x3 σ → V l mdX12_makePlans B 3 75 0 0 (ab_End (fun v σ' => Wire σ' ∧ v = none ∧ Q σ') (fun X σ' => Wire σ' ∧ E X σ')) 138 [(0, .ref 92), (1, .int x1), (2, .int x2), (3, .int x3)] [] σ := by
              intro K152 k_K152 Bk k_Bk
              intro x1 x2 x3  σ hW h
              refine V_iload_n 89 3 rfl rfl rfl ?_
              refine V_if_eq 90 (tgt := 152) rfl (by decide) (fun hc => ?_) (fun hc => ?_)
              · replace h := h.1 hc
                refine V_sub [0, 1, 2] (lv' := [(0, .ref 92), (1, .int x1), (2, .int x2)]) rfl ?_
                exact k_K152 x1 x2  σ hW h
              · replace h := h.2 hc
                refine V_pc 142 rfl ?_
                refine V_aload_n 91 0 rfl rfl rfl ?_
                refine V_iload_n 92 1 rfl rfl rfl ?_
                refine V_iload_n 93 2 rfl rfl rfl ?_
                refine V_callV 94 2 (as := [.int x1, .int x2]) (rest := []) rfl mlX12_449 yvX12_round rfl rfl clX12 (wsh hW rfl) (by decide) (by decide) (Nat.le_of_ble_eq_true rfl) (by decide) (by decide) (fun B9 => ceX12_round hl B9 hW h) (fun X9 τ9 h9 => VX_out rfl h9) ?_
                rintro v9 σ4 ⟨hW, u5, rfl, h⟩
                refine V_istore_n 95 (lv' := [(3, .int u5), (0, .ref 92), (1, .int x1), (2, .int x2)]) rfl rfl (by decide) rfl ?_
                refine V_goto 96 (tgt := 138) rfl (by decide) ?_
                refine V_sub [1, 2, 3, 0] (lv' := [(0, .ref 92), (1, .int x1), (2, .int x2), (3, .int u5)]) rfl ?_
                exact k_Bk x1 x2 u5  σ4 hW h
            intro n
            induction n with
            | zero => intro x1 x2 x3  σ hW h; exact absurd h id
            | succ n ih => exact step _ k_j152 _ ih
          intro x1 x2  σ hW h
          refine V_iload_n 60 2 rfl rfl rfl ?_
          refine V_aload_n 61 0 rfl rfl rfl ?_
          refine V_getR 62 27 rfl clX12 flX12_69 (by decide) (wsh hW rfl) (fun _ => rfl) (wrf hW 113 rfl) ?_
          refine V_aload_n 63 0 rfl rfl rfl ?_
          refine V_getR 64 18 rfl clX12 flX12_45 (by decide) (wsh hW rfl) (fun _ => rfl) (wrf hW 105 rfl) ?_
          refine V_iconst 65 (v := (4 : Int32)) rfl (by decide) ?_
          refine V_pc 106 rfl ?_
          refine V_iload_n 66 1 rfl rfl rfl ?_
          refine V_imul 67 rfl ?_
          obtain ⟨hin, h⟩ := h
          refine V_iald 68 rfl (wsh hW rfl) hin ?_
          obtain ⟨hin, h⟩ := h
          refine V_iald 69 rfl (wsh hW rfl) hin ?_
          refine V_icmp_gt 70 (tgt := 173) rfl (by decide) (fun hc => ?_) (fun hc => ?_)
          · replace h := h.1 hc
            refine V_sub [0, 1] (lv' := [(0, .ref 92), (1, .int x1)]) rfl ?_
            exact k_K173 x1  σ hW h
          · replace h := h.2 hc
            refine V_pc 113 rfl ?_
            refine V_aload_n 71 0 rfl rfl rfl ?_
            refine V_getR 72 30 rfl clX12 flX12_75 (by decide) (wsh hW rfl) (fun _ => rfl) (wrf hW 115 rfl) ?_
            refine V_bipush 73 (v := (6 : Int32)) rfl (by decide) ?_
            refine V_iload_n 74 1 rfl rfl rfl ?_
            refine V_imul 75 rfl ?_
            refine V_iload_n 76 2 rfl rfl rfl ?_
            refine V_pc 122 rfl ?_
            refine V_iadd 77 rfl ?_
            refine V_aload_n 78 0 rfl rfl rfl ?_
            refine V_get (v := .int (σ.2.1 92 28)) 79 28 rfl clX12 flX12_439 (by decide) (wsh hW rfl) (fun _ => rfl) ?_
            obtain ⟨hin, h⟩ := h
            refine V_iast 80 rfl (wsh hW rfl) hin ?_
            refine V_nm (fun σ6 eσ6 => ?_)
            replace h := h σ6 eσ6
            have hW := wire_I eσ6 hW
            refine V_aload_n 81 0 rfl rfl rfl ?_
            refine V_iload_n 82 1 rfl rfl rfl ?_
            refine V_pc 130 rfl ?_
            refine V_iconst 83 (v := (0 : Int32)) rfl (by decide) ?_
            refine V_iload_n 84 2 rfl rfl rfl ?_
            refine V_iconst 85 (v := (1 : Int32)) rfl (by decide) ?_
            refine V_callV 86 4 (as := [.int x1, .int (0 : Int32), .int x2, .int (1 : Int32)]) (rest := []) rfl mlX12_445 yvX12_comes rfl rfl clX12 (wsh hW rfl) (by decide) (by decide) (Nat.le_of_ble_eq_true rfl) (by decide) (by decide) (fun B9 => ceX12_comes hl B9 hW h) (fun X9 τ9 h9 => VX_out rfl h9) ?_
            rintro v9 σ7 ⟨hW, rfl, h⟩
            refine V_iconst 87 (v := (1 : Int32)) rfl (by decide) ?_
            refine V_istore_n 88 (lv' := [(3, .int (1 : Int32)), (0, .ref 92), (1, .int x1), (2, .int x2)]) rfl rfl (by decide) rfl ?_
            refine V_sub [1, 2, 3, 0] (lv' := [(0, .ref 92), (1, .int x1), (2, .int x2), (3, .int (1 : Int32))]) rfl ?_
            obtain ⟨n, h⟩ := h
            exact k_l138 n x1 x2 (1 : Int32) σ7 hW h
        intro n
        induction n with
        | zero => intro x1 x2  σ hW h; exact absurd h id
        | succ n ih => exact step _ k_j173 _ ih
      have k_j94 : ∀ (x1 : Int32)  (σ : ab_S), Wire σ → wX12_makePlans_j94 Q E Bk x1 σ → V l mdX12_makePlans B 3 75 0 0 (ab_End (fun v σ' => Wire σ' ∧ v = none ∧ Q σ') (fun X σ' => Wire σ' ∧ E X σ')) 94 [(0, .ref 92), (1, .int x1)] [] σ := by
        intro x1  σ hW h
        refine V_iconst 58 (v := (1 : Int32)) rfl (by decide) ?_
        refine V_istore_n 59 (lv' := [(2, .int (1 : Int32)), (0, .ref 92), (1, .int x1)]) rfl rfl (by decide) rfl ?_
        refine V_sub [1, 2, 0] (lv' := [(0, .ref 92), (1, .int x1), (2, .int (1 : Int32))]) rfl ?_
        obtain ⟨n, h⟩ := h
        exact k_l96 n x1 (1 : Int32) σ hW h
      have k_l70 : ∀ (n : Nat) (x1 : Int32) (x2 : Int32)  (σ : ab_S), Wire σ → wX12_makePlans_l70 Q E (wX12_makePlans_j94 Q E Bk) n x1 x2 σ → V l mdX12_makePlans B 3 75 0 0 (ab_End (fun v σ' => Wire σ' ∧ v = none ∧ Q σ') (fun X σ' => Wire σ' ∧ E X σ')) 70 [(0, .ref 92), (1, .int x1), (2, .int x2)] [] σ := by
        have step : ∀ (K94 : Int32 → ab_S → Prop) (k_K94 : ∀ (x1 : Int32)  (σ : ab_S), Wire σ → K94 x1 σ → V l mdX12_makePlans B 3 75 0 0 (ab_End (fun v σ' => Wire σ' ∧ v = none ∧ Q σ') (fun X σ' => Wire σ' ∧ E X σ')) 94 [(0, .ref 92), (1, .int x1)] [] σ), ∀ (Bk : Int32 → Int32 → ab_S → Prop) (k_Bk : ∀ (x1 : Int32) (x2 : Int32)  (σ : ab_S), Wire σ → Bk x1 x2 σ → V l mdX12_makePlans B 3 75 0 0 (ab_End (fun v σ' => Wire σ' ∧ v = none ∧ Q σ') (fun X σ' => Wire σ' ∧ E X σ')) 70 [(0, .ref 92), (1, .int x1), (2, .int x2)] [] σ), ∀ (x1 : Int32) (x2 : Int32)  (σ : ab_S), Wire σ → wX12_makePlans_l70_b Q E K94 Bk x1 x2 σ → V l mdX12_makePlans B 3 75 0 0 (ab_End (fun v σ' => Wire σ' ∧ v = none ∧ Q σ') (fun X σ' => Wire σ' ∧ E X σ')) 70 [(0, .ref 92), (1, .int x1), (2, .int x2)] [] σ := by
          intro K94 k_K94 Bk k_Bk
          intro x1 x2  σ hW h
          refine V_iload_n 44 2 rfl rfl rfl ?_
          refine V_bipush 45 (v := (24 : Int32)) rfl (by decide) ?_
          refine V_icmp_ge 46 (tgt := 94) rfl (by decide) (fun hc => ?_) (fun hc => ?_)
          · replace h := h.1 hc
            refine V_sub [0, 1] (lv' := [(0, .ref 92), (1, .int x1)]) rfl ?_
            exact k_K94 x1  σ hW h
          · replace h := h.2 hc
            refine V_pc 76 rfl ?_
            refine V_aload_n 47 0 rfl rfl rfl ?_
            refine V_getR 48 34 rfl clX12 flX12_87 (by decide) (wsh hW rfl) (fun _ => rfl) (wrf hW 119 rfl) ?_
            refine V_bipush 49 (v := (24 : Int32)) rfl (by decide) ?_
            refine V_iload_n 50 1 rfl rfl rfl ?_
            refine V_imul 51 rfl ?_
            refine V_iload_n 52 2 rfl rfl rfl ?_
            refine V_pc 85 rfl ?_
            refine V_iadd 53 rfl ?_
            refine V_iconst 54 (v := (0 : Int32)) rfl (by decide) ?_
            obtain ⟨hin, h⟩ := h
            refine V_iast 55 rfl (wsh hW rfl) hin ?_
            refine V_nm (fun σ8 eσ8 => ?_)
            replace h := h σ8 eσ8
            have hW := wire_I eσ8 hW
            obtain ⟨v9, ev9⟩ : ∃ z : Int32, z = (x2 + 1) := ⟨_, rfl⟩
            replace h := h v9 ev9
            refine V_iinc 56 2 (v := v9) (lv' := [(2, .int v9), (0, .ref 92), (1, .int x1)]) rfl rfl ((in_1 _).trans ev9.symm) (by decide) rfl ?_
            refine V_goto 57 (tgt := 70) rfl (by decide) ?_
            refine V_sub [1, 2, 0] (lv' := [(0, .ref 92), (1, .int x1), (2, .int v9)]) rfl ?_
            exact k_Bk x1 v9  σ8 hW h
        intro n
        induction n with
        | zero => intro x1 x2  σ hW h; exact absurd h id
        | succ n ih => exact step _ k_j94 _ ih
      have k_j68 : ∀ (x1 : Int32)  (σ : ab_S), Wire σ → wX12_makePlans_j68 Q E Bk x1 σ → V l mdX12_makePlans B 3 75 0 0 (ab_End (fun v σ' => Wire σ' ∧ v = none ∧ Q σ') (fun X σ' => Wire σ' ∧ E X σ')) 68 [(0, .ref 92), (1, .int x1)] [] σ := by
        intro x1  σ hW h
        refine V_iconst 42 (v := (0 : Int32)) rfl (by decide) ?_
        refine V_istore_n 43 (lv' := [(2, .int (0 : Int32)), (0, .ref 92), (1, .int x1)]) rfl rfl (by decide) rfl ?_
        refine V_sub [1, 2, 0] (lv' := [(0, .ref 92), (1, .int x1), (2, .int (0 : Int32))]) rfl ?_
        obtain ⟨n, h⟩ := h
        exact k_l70 n x1 (0 : Int32) σ hW h
      have k_l50 : ∀ (n : Nat) (x1 : Int32) (x2 : Int32)  (σ : ab_S), Wire σ → wX12_makePlans_l50 Q E (wX12_makePlans_j68 Q E Bk) n x1 x2 σ → V l mdX12_makePlans B 3 75 0 0 (ab_End (fun v σ' => Wire σ' ∧ v = none ∧ Q σ') (fun X σ' => Wire σ' ∧ E X σ')) 50 [(0, .ref 92), (1, .int x1), (2, .int x2)] [] σ := by
        have step : ∀ (K68 : Int32 → ab_S → Prop) (k_K68 : ∀ (x1 : Int32)  (σ : ab_S), Wire σ → K68 x1 σ → V l mdX12_makePlans B 3 75 0 0 (ab_End (fun v σ' => Wire σ' ∧ v = none ∧ Q σ') (fun X σ' => Wire σ' ∧ E X σ')) 68 [(0, .ref 92), (1, .int x1)] [] σ), ∀ (Bk : Int32 → Int32 → ab_S → Prop) (k_Bk : ∀ (x1 : Int32) (x2 : Int32)  (σ : ab_S), Wire σ → Bk x1 x2 σ → V l mdX12_makePlans B 3 75 0 0 (ab_End (fun v σ' => Wire σ' ∧ v = none ∧ Q σ') (fun X σ' => Wire σ' ∧ E X σ')) 50 [(0, .ref 92), (1, .int x1), (2, .int x2)] [] σ), ∀ (x1 : Int32) (x2 : Int32)  (σ : ab_S), Wire σ → wX12_makePlans_l50_b Q E K68 Bk x1 x2 σ → V l mdX12_makePlans B 3 75 0 0 (ab_End (fun v σ' => Wire σ' ∧ v = none ∧ Q σ') (fun X σ' => Wire σ' ∧ E X σ')) 50 [(0, .ref 92), (1, .int x1), (2, .int x2)] [] σ := by
          intro K68 k_K68 Bk k_Bk
          intro x1 x2  σ hW h
          refine V_iload_n 32 2 rfl rfl rfl ?_
          refine V_iconst 33 (v := (4 : Int32)) rfl (by decide) ?_
          refine V_icmp_ge 34 (tgt := 68) rfl (by decide) (fun hc => ?_) (fun hc => ?_)
          · replace h := h.1 hc
            refine V_sub [0, 1] (lv' := [(0, .ref 92), (1, .int x1)]) rfl ?_
            exact k_K68 x1  σ hW h
          · replace h := h.2 hc
            refine V_pc 55 rfl ?_
            refine V_aload_n 35 0 rfl rfl rfl ?_
            refine V_getR 36 37 rfl clX12 flX12_96 (by decide) (wsh hW rfl) (fun _ => rfl) (wrf hW 122 rfl) ?_
            refine V_iload_n 37 2 rfl rfl rfl ?_
            refine V_iconst 38 (v := (0 : Int32)) rfl (by decide) ?_
            obtain ⟨hin, h⟩ := h
            refine V_iast 39 rfl (wsh hW rfl) hin ?_
            refine V_nm (fun σ10 eσ10 => ?_)
            replace h := h σ10 eσ10
            have hW := wire_I eσ10 hW
            obtain ⟨v11, ev11⟩ : ∃ z : Int32, z = (x2 + 1) := ⟨_, rfl⟩
            replace h := h v11 ev11
            refine V_iinc 40 2 (v := v11) (lv' := [(2, .int v11), (0, .ref 92), (1, .int x1)]) rfl rfl ((in_1 _).trans ev11.symm) (by decide) rfl ?_
            refine V_pc 65 rfl ?_
            refine V_goto 41 (tgt := 50) rfl (by decide) ?_
            refine V_sub [1, 2, 0] (lv' := [(0, .ref 92), (1, .int x1), (2, .int v11)]) rfl ?_
            exact k_Bk x1 v11  σ10 hW h
        intro n
        induction n with
        | zero => intro x1 x2  σ hW h; exact absurd h id
        | succ n ih => exact step _ k_j68 _ ih
      have k_j48 : ∀ (x1 : Int32)  (σ : ab_S), Wire σ → wX12_makePlans_j48 Q E Bk x1 σ → V l mdX12_makePlans B 3 75 0 0 (ab_End (fun v σ' => Wire σ' ∧ v = none ∧ Q σ') (fun X σ' => Wire σ' ∧ E X σ')) 48 [(0, .ref 92), (1, .int x1)] [] σ := by
        intro x1  σ hW h
        refine V_iconst 30 (v := (0 : Int32)) rfl (by decide) ?_
        refine V_istore_n 31 (lv' := [(2, .int (0 : Int32)), (0, .ref 92), (1, .int x1)]) rfl rfl (by decide) rfl ?_
        refine V_sub [1, 2, 0] (lv' := [(0, .ref 92), (1, .int x1), (2, .int (0 : Int32))]) rfl ?_
        obtain ⟨n, h⟩ := h
        exact k_l50 n x1 (0 : Int32) σ hW h
      have k_l17 : ∀ (n : Nat) (x1 : Int32) (x2 : Int32)  (σ : ab_S), Wire σ → wX12_makePlans_l17 Q E (wX12_makePlans_j48 Q E Bk) n x1 x2 σ → V l mdX12_makePlans B 3 75 0 0 (ab_End (fun v σ' => Wire σ' ∧ v = none ∧ Q σ') (fun X σ' => Wire σ' ∧ E X σ')) 17 [(0, .ref 92), (1, .int x1), (2, .int x2)] [] σ := by
        have step : ∀ (K48 : Int32 → ab_S → Prop) (k_K48 : ∀ (x1 : Int32)  (σ : ab_S), Wire σ → K48 x1 σ → V l mdX12_makePlans B 3 75 0 0 (ab_End (fun v σ' => Wire σ' ∧ v = none ∧ Q σ') (fun X σ' => Wire σ' ∧ E X σ')) 48 [(0, .ref 92), (1, .int x1)] [] σ), ∀ (Bk : Int32 → Int32 → ab_S → Prop) (k_Bk : ∀ (x1 : Int32) (x2 : Int32)  (σ : ab_S), Wire σ → Bk x1 x2 σ → V l mdX12_makePlans B 3 75 0 0 (ab_End (fun v σ' => Wire σ' ∧ v = none ∧ Q σ') (fun X σ' => Wire σ' ∧ E X σ')) 17 [(0, .ref 92), (1, .int x1), (2, .int x2)] [] σ), ∀ (x1 : Int32) (x2 : Int32)  (σ : ab_S), Wire σ → wX12_makePlans_l17_b Q E K48 Bk x1 x2 σ → V l mdX12_makePlans B 3 75 0 0 (ab_End (fun v σ' => Wire σ' ∧ v = none ∧ Q σ') (fun X σ' => Wire σ' ∧ E X σ')) 17 [(0, .ref 92), (1, .int x1), (2, .int x2)] [] σ := by
          intro K48 k_K48 Bk k_Bk
          intro x1 x2  σ hW h
          refine V_iload_n 11 2 rfl rfl rfl ?_
          refine V_bipush 12 (v := (32 : Int32)) rfl (by decide) ?_
          refine V_icmp_ge 13 (tgt := 48) rfl (by decide) (fun hc => ?_) (fun hc => ?_)
          · replace h := h.1 hc
            refine V_sub [0, 1] (lv' := [(0, .ref 92), (1, .int x1)]) rfl ?_
            exact k_K48 x1  σ hW h
          · replace h := h.2 hc
            refine V_pc 23 rfl ?_
            refine V_aload_n 14 0 rfl rfl rfl ?_
            refine V_getR 15 36 rfl clX12 flX12_93 (by decide) (wsh hW rfl) (fun _ => rfl) (wrf hW 121 rfl) ?_
            refine V_iload_n 16 2 rfl rfl rfl ?_
            refine V_iconst 17 (v := (0 : Int32)) rfl (by decide) ?_
            obtain ⟨hin, h⟩ := h
            refine V_zast 18 rfl (wsh hW rfl) hin ?_
            refine V_nm (fun σ12 eσ12 => ?_)
            replace h := h σ12 eσ12
            have hW := wire_I eσ12 hW
            refine V_aload_n 19 0 rfl rfl rfl ?_
            refine V_pc 31 rfl ?_
            refine V_getR 20 32 rfl clX12 flX12_81 (by decide) (wsh hW rfl) (fun _ => rfl) (wrf hW 117 rfl) ?_
            refine V_bipush 21 (v := (32 : Int32)) rfl (by decide) ?_
            refine V_iload_n 22 1 rfl rfl rfl ?_
            refine V_imul 23 rfl ?_
            refine V_iload_n 24 2 rfl rfl rfl ?_
            refine V_iadd 25 rfl ?_
            refine V_pc 40 rfl ?_
            refine V_iconst 26 (v := (0 : Int32)) rfl (by decide) ?_
            obtain ⟨hin, h⟩ := h
            refine V_iast 27 rfl (wsh hW rfl) hin ?_
            refine V_nm (fun σ13 eσ13 => ?_)
            replace h := h σ13 eσ13
            have hW := wire_I eσ13 hW
            obtain ⟨v14, ev14⟩ : ∃ z : Int32, z = (x2 + 1) := ⟨_, rfl⟩
            replace h := h v14 ev14
            refine V_iinc 28 2 (v := v14) (lv' := [(2, .int v14), (0, .ref 92), (1, .int x1)]) rfl rfl ((in_1 _).trans ev14.symm) (by decide) rfl ?_
            refine V_goto 29 (tgt := 17) rfl (by decide) ?_
            refine V_sub [1, 2, 0] (lv' := [(0, .ref 92), (1, .int x1), (2, .int v14)]) rfl ?_
            exact k_Bk x1 v14  σ13 hW h
        intro n
        induction n with
        | zero => intro x1 x2  σ hW h; exact absurd h id
        | succ n ih => exact step _ k_j48 _ ih
      intro x1  σ hW h
      refine V_iload_n 5 1 rfl rfl rfl ?_
      refine V_aload_n 6 0 rfl rfl rfl ?_
      refine V_get (v := .int (σ.2.1 92 14)) 7 14 rfl clX12 flX12_316 (by decide) (wsh hW rfl) (fun _ => rfl) ?_
      refine V_icmp_ge 8 (tgt := 179) rfl (by decide) (fun hc => ?_) (fun hc => ?_)
      · replace h := h.1 hc
        exact V_vret 111 rfl rfl ⟨hW, rfl, h⟩
      · replace h := h.2 hc
        refine V_pc 15 rfl ?_
        refine V_iconst 9 (v := (0 : Int32)) rfl (by decide) ?_
        refine V_istore_n 10 (lv' := [(2, .int (0 : Int32)), (0, .ref 92), (1, .int x1)]) rfl rfl (by decide) rfl ?_
        refine V_sub [1, 2, 0] (lv' := [(0, .ref 92), (1, .int x1), (2, .int (0 : Int32))]) rfl ?_
        obtain ⟨n, h⟩ := h
        exact k_l17 n x1 (0 : Int32) σ hW h
    intro n
    induction n with
    | zero => intro x1  σ hW h; exact absurd h id
    | succ n ih => exact step  _ ih
  intro σ hW h
  refine V_aload_n 0 0 rfl rfl rfl ?_
  refine V_iconst 1 (v := (0 : Int32)) rfl (by decide) ?_
  refine V_putI 2 28 rfl clX12 flX12_439 (by decide) (wsh hW rfl) rfl (fun _ _ => rfl) rfl rfl ?_
  refine V_nm (fun σ15 eσ15 => ?_)
  replace h := h σ15 eσ15
  have hW := wire_I eσ15 hW
  refine V_iconst 3 (v := (0 : Int32)) rfl (by decide) ?_
  refine V_istore_n 4 (lv' := [(1, .int (0 : Int32)), (0, .ref 92)]) rfl rfl (by decide) rfl ?_
  refine V_sub [1, 0] (lv' := [(0, .ref 92), (1, .int (0 : Int32))]) rfl ?_
  obtain ⟨n, h⟩ := h
  exact k_l7 n (0 : Int32) σ15 hW h

def wX12_callOf_j58 (a0 : Int32) (a1 : Int32) (Q : Int32 → ab_S → Prop) (E : String → ab_S → Prop) (Bk : Int32 → Int32 → ab_S → Prop) (x4 : Int32) (y0 : Int32) (σ : ab_S) : Prop := ∀ v1 : Int32, v1 = (x4 + 1) → Bk y0 v1 σ
def wX12_callOf_j57 (a0 : Int32) (a1 : Int32) (Q : Int32 → ab_S → Prop) (E : String → ab_S → Prop) (Bk : Int32 → Int32 → ab_S → Prop) (x3 : Int32) (x4 : Int32) (σ : ab_S) : Prop := wX12_callOf_j58 a0 a1 Q E Bk x4 x3 σ
def wX12_callOf_l5_b (a0 : Int32) (a1 : Int32) (Q : Int32 → ab_S → Prop) (E : String → ab_S → Prop) (Bk : Int32 → Int32 → ab_S → Prop) (x3 : Int32) (x4 : Int32) (σ : ab_S) : Prop := (((6 : Int32) ≤ x4) → Q x3 σ) ∧ (¬ ((6 : Int32) ≤ x4) → vp_in a1 1600 ∧ (∀ v2 : Int32, v2 = ((((24 : Int32) * a0) + ((6 : Int32) * (σ.2.1 113 a1.toNatClampNeg))) + x4) → vp_in v2 744 ∧ ((((σ.2.1 118 v2.toNatClampNeg) ≤ 0) → wX12_callOf_j57 a0 a1 Q E Bk x3 x4 σ) ∧ (¬ ((σ.2.1 118 v2.toNatClampNeg) ≤ 0) → vp_in v2 744 ∧ (((¬ (σ.2.1 119 v2.toNatClampNeg) = a1) → wX12_callOf_j57 a0 a1 Q E Bk x3 x4 σ) ∧ (¬ (¬ (σ.2.1 119 v2.toNatClampNeg) = a1) → wX12_callOf_j58 a0 a1 Q E Bk x4 x4 σ))))))
def wX12_callOf_l5 (a0 : Int32) (a1 : Int32) (Q : Int32 → ab_S → Prop) (E : String → ab_S → Prop) : Nat → Int32 → Int32 → ab_S → Prop
  | 0, _, _, _ => False
  | n + 1, x3, x4, σ => wX12_callOf_l5_b a0 a1 Q E (wX12_callOf_l5 a0 a1 Q E n) x3 x4 σ
def wX12_callOf (a0 : Int32) (a1 : Int32) (Q : Int32 → ab_S → Prop) (E : String → ab_S → Prop) (σ : ab_S) : Prop := ∃ n, wX12_callOf_l5 a0 a1 Q E n (0 : Int32) (1 : Int32) σ
set_option maxHeartbeats 4000000 in
set_option maxRecDepth 100000 in
theorem ceX12_callOf {l : Launch} (hl : l.stackTraces = false) (B : Nat) {a0 : Int32} {a1 : Int32}  {Q : Int32 → ab_S → Prop} {E : String → ab_S → Prop} {σ : ab_S} (hW : Wire σ) (h : wX12_callOf a0 a1 Q E σ) : ab_Mt l yX12_callOf mdX12_callOf B 0 0 0 0 [.ref 92, .int a0, .int a1] σ (fun v σ' => Wire σ' ∧ ∃ r : Int32, v = some (.int r) ∧ Q r σ') (fun X σ' => Wire σ' ∧ E X σ') := by
  refine V_met hl ⟨rfl, rfl, by decide⟩ rfl dkX12_callOf (Nat.le_of_ble_eq_true rfl) ?_
  show V l mdX12_callOf B 0 0 0 0 (ab_End _ _) 0 [(0, .ref 92), (1, .int a0), (2, .int a1)] [] σ
  revert h hW
  revert σ
  have k_l5 : ∀ (n : Nat) (x3 : Int32) (x4 : Int32)  (σ : ab_S), Wire σ → wX12_callOf_l5 a0 a1 Q E n x3 x4 σ → V l mdX12_callOf B 0 0 0 0 (ab_End (fun v σ' => Wire σ' ∧ ∃ r : Int32, v = some (.int r) ∧ Q r σ') (fun X σ' => Wire σ' ∧ E X σ')) 5 [(0, .ref 92), (1, .int a0), (2, .int a1), (3, .int x3), (4, .int x4)] [] σ := by
    have step : ∀ (Bk : Int32 → Int32 → ab_S → Prop) (k_Bk : ∀ (x3 : Int32) (x4 : Int32)  (σ : ab_S), Wire σ → Bk x3 x4 σ → V l mdX12_callOf B 0 0 0 0 (ab_End (fun v σ' => Wire σ' ∧ ∃ r : Int32, v = some (.int r) ∧ Q r σ') (fun X σ' => Wire σ' ∧ E X σ')) 5 [(0, .ref 92), (1, .int a0), (2, .int a1), (3, .int x3), (4, .int x4)] [] σ), ∀ (x3 : Int32) (x4 : Int32)  (σ : ab_S), Wire σ → wX12_callOf_l5_b a0 a1 Q E Bk x3 x4 σ → V l mdX12_callOf B 0 0 0 0 (ab_End (fun v σ' => Wire σ' ∧ ∃ r : Int32, v = some (.int r) ∧ Q r σ') (fun X σ' => Wire σ' ∧ E X σ')) 5 [(0, .ref 92), (1, .int a0), (2, .int a1), (3, .int x3), (4, .int x4)] [] σ := by
      intro Bk k_Bk
      have k_j58 : ∀ (x4 : Int32) (y0 : Int32)  (σ : ab_S), Wire σ → wX12_callOf_j58 a0 a1 Q E Bk x4 y0 σ → V l mdX12_callOf B 0 0 0 0 (ab_End (fun v σ' => Wire σ' ∧ ∃ r : Int32, v = some (.int r) ∧ Q r σ') (fun X σ' => Wire σ' ∧ E X σ')) 58 [(0, .ref 92), (1, .int a0), (2, .int a1), (4, .int x4)] [.int y0] σ := by
        intro x4 y0  σ hW h
        refine V_istore_n 34 (lv' := [(3, .int y0), (0, .ref 92), (1, .int a0), (2, .int a1), (4, .int x4)]) rfl rfl (by decide) rfl ?_
        obtain ⟨v1, ev1⟩ : ∃ z : Int32, z = (x4 + 1) := ⟨_, rfl⟩
        replace h := h v1 ev1
        refine V_iinc 35 4 (v := v1) (lv' := [(4, .int v1), (3, .int y0), (0, .ref 92), (1, .int a0), (2, .int a1)]) rfl rfl ((in_1 _).trans ev1.symm) (by decide) rfl ?_
        refine V_goto 36 (tgt := 5) rfl (by decide) ?_
        refine V_sub [2, 3, 4, 1, 0] (lv' := [(0, .ref 92), (1, .int a0), (2, .int a1), (3, .int y0), (4, .int v1)]) rfl ?_
        exact k_Bk y0 v1  σ hW h
      have k_j57 : ∀ (x3 : Int32) (x4 : Int32)  (σ : ab_S), Wire σ → wX12_callOf_j57 a0 a1 Q E Bk x3 x4 σ → V l mdX12_callOf B 0 0 0 0 (ab_End (fun v σ' => Wire σ' ∧ ∃ r : Int32, v = some (.int r) ∧ Q r σ') (fun X σ' => Wire σ' ∧ E X σ')) 57 [(0, .ref 92), (1, .int a0), (2, .int a1), (3, .int x3), (4, .int x4)] [] σ := by
        intro x3 x4  σ hW h
        refine V_iload_n 33 3 rfl rfl rfl ?_
        refine V_sub [0, 1, 2, 4] (lv' := [(0, .ref 92), (1, .int a0), (2, .int a1), (4, .int x4)]) rfl ?_
        exact k_j58 x4 x3 σ hW h
      intro x3 x4  σ hW h
      refine V_iload 4 4 rfl rfl ?_
      refine V_bipush 5 (v := (6 : Int32)) rfl (by decide) ?_
      refine V_icmp_ge 6 (tgt := 65) rfl (by decide) (fun hc => ?_) (fun hc => ?_)
      · replace h := h.1 hc
        refine V_iload_n 37 3 rfl rfl rfl ?_
        exact V_iret 38 rfl rfl ⟨hW, _, rfl, h⟩
      · replace h := h.2 hc
        refine V_pc 12 rfl ?_
        refine V_bipush 7 (v := (24 : Int32)) rfl (by decide) ?_
        refine V_iload_n 8 1 rfl rfl rfl ?_
        refine V_imul 9 rfl ?_
        refine V_bipush 10 (v := (6 : Int32)) rfl (by decide) ?_
        refine V_aload_n 11 0 rfl rfl rfl ?_
        refine V_getR 12 29 rfl clX12 flX12_72 (by decide) (wsh hW rfl) (fun _ => rfl) (wrf hW 114 rfl) ?_
        refine V_pc 22 rfl ?_
        refine V_iload_n 13 2 rfl rfl rfl ?_
        obtain ⟨hin, h⟩ := h
        refine V_iald 14 rfl (wsh hW rfl) hin ?_
        refine V_imul 15 rfl ?_
        refine V_iadd 16 rfl ?_
        refine V_iload 17 4 rfl rfl ?_
        refine V_iadd 18 rfl ?_
        refine V_pc 29 rfl ?_
        refine V_topi (fun v2 ev2 => ?_)
        replace h := h v2 ev2
        refine V_istore 19 (lv' := [(5, .int v2), (0, .ref 92), (1, .int a0), (2, .int a1), (3, .int x3), (4, .int x4)]) rfl (by decide) rfl ?_
        refine V_aload_n 20 1 rfl rfl rfl ?_
        refine V_getR 21 34 rfl clX12 flX12_87 (by decide) (wsh hW rfl) (fun _ => rfl) (wrf hW 119 rfl) ?_
        refine V_iload 22 0 rfl rfl ?_
        obtain ⟨hin, h⟩ := h
        refine V_iald 23 rfl (wsh hW rfl) hin ?_
        refine V_if_le 24 (tgt := 57) rfl (by decide) (fun hc => ?_) (fun hc => ?_)
        · replace h := h.1 hc
          refine V_sub [1, 2, 3, 4, 5] (lv' := [(0, .ref 92), (1, .int a0), (2, .int a1), (3, .int x3), (4, .int x4)]) rfl ?_
          exact k_j57 x3 x4 σ hW h
        · replace h := h.2 hc
          refine V_pc 41 rfl ?_
          refine V_aload_n 25 1 rfl rfl rfl ?_
          refine V_getR 26 35 rfl clX12 flX12_90 (by decide) (wsh hW rfl) (fun _ => rfl) (wrf hW 120 rfl) ?_
          refine V_iload 27 0 rfl rfl ?_
          obtain ⟨hin, h⟩ := h
          refine V_iald 28 rfl (wsh hW rfl) hin ?_
          refine V_iload_n 29 3 rfl rfl rfl ?_
          refine V_icmp_ne 30 (tgt := 57) rfl (by decide) (fun hc => ?_) (fun hc => ?_)
          · replace h := h.1 hc
            refine V_sub [1, 2, 3, 4, 5] (lv' := [(0, .ref 92), (1, .int a0), (2, .int a1), (3, .int x3), (4, .int x4)]) rfl ?_
            exact k_j57 x3 x4 σ hW h
          · replace h := h.2 hc
            refine V_pc 52 rfl ?_
            refine V_iload 31 5 rfl rfl ?_
            refine V_goto 32 (tgt := 58) rfl (by decide) ?_
            refine V_sub [1, 2, 3, 5] (lv' := [(0, .ref 92), (1, .int a0), (2, .int a1), (4, .int x4)]) rfl ?_
            exact k_j58 x4 x4 σ hW h
    intro n
    induction n with
    | zero => intro x3 x4  σ hW h; exact absurd h id
    | succ n ih => exact step  _ ih
  intro σ hW h
  refine V_iconst 0 (v := (0 : Int32)) rfl (by decide) ?_
  refine V_istore_n 1 (lv' := [(3, .int (0 : Int32)), (0, .ref 92), (1, .int a0), (2, .int a1)]) rfl rfl (by decide) rfl ?_
  refine V_iconst 2 (v := (1 : Int32)) rfl (by decide) ?_
  refine V_istore 3 (lv' := [(4, .int (1 : Int32)), (3, .int (0 : Int32)), (0, .ref 92), (1, .int a0), (2, .int a1)]) rfl (by decide) rfl ?_
  refine V_sub [2, 3, 4, 1, 0] (lv' := [(0, .ref 92), (1, .int a0), (2, .int a1), (3, .int (0 : Int32)), (4, .int (1 : Int32))]) rfl ?_
  obtain ⟨n, h⟩ := h
  exact k_l5 n (0 : Int32) (1 : Int32) σ hW h

def wX12_isDefining (a0 : Int32) (a1 : Int32) (a2 : Int32) (a3 : Int32) (Q : Int32 → ab_S → Prop) (E : String → ab_S → Prop) (σ : ab_S) : Prop := vp_in a1 1600 ∧ ((((σ.2.1 113 a1.toNatClampNeg) < (10 : Int32)) → vp_in a1 1600 ∧ (vp_in (((4 : Int32) * a0) + (σ.2.1 113 a1.toNatClampNeg)) 124 ∧ (wX12_callOf a0 a1 (fun u2 σ1 => vp_in ((((104 : Int32) * (((6 : Int32) * (σ.2.1 104 (((4 : Int32) * a0) + (σ.2.1 113 a1.toNatClampNeg)).toNatClampNeg)) + u2)) + ((8 : Int32) * a2)) + a3) 8112 ∧ (((σ1.2.1 122 ((((104 : Int32) * (((6 : Int32) * (σ.2.1 104 (((4 : Int32) * a0) + (σ.2.1 113 a1.toNatClampNeg)).toNatClampNeg)) + u2)) + ((8 : Int32) * a2)) + a3).toNatClampNeg) = 0 ∨ (σ1.2.1 122 ((((104 : Int32) * (((6 : Int32) * (σ.2.1 104 (((4 : Int32) * a0) + (σ.2.1 113 a1.toNatClampNeg)).toNatClampNeg)) + u2)) + ((8 : Int32) * a2)) + a3).toNatClampNeg) = 1) ∧ Q (σ1.2.1 122 ((((104 : Int32) * (((6 : Int32) * (σ.2.1 104 (((4 : Int32) * a0) + (σ.2.1 113 a1.toNatClampNeg)).toNatClampNeg)) + u2)) + ((8 : Int32) * a2)) + a3).toNatClampNeg) σ1)) E σ))) ∧ (¬ ((σ.2.1 113 a1.toNatClampNeg) < (10 : Int32)) → vp_in a1 1600 ∧ (vp_in ((((4 : Int32) * a0) + ((σ.2.1 113 a1.toNatClampNeg) / (10 : Int32))) - (1 : Int32)) 124 ∧ (((¬ (σ.2.1 104 ((((4 : Int32) * a0) + ((σ.2.1 113 a1.toNatClampNeg) / (10 : Int32))) - (1 : Int32)).toNatClampNeg) = a2) → Q (0 : Int32) σ) ∧ (¬ (¬ (σ.2.1 104 ((((4 : Int32) * a0) + ((σ.2.1 113 a1.toNatClampNeg) / (10 : Int32))) - (1 : Int32)).toNatClampNeg) = a2) → vp_in a1 1600 ∧ (((¬ ((σ.2.1 113 a1.toNatClampNeg) - (σ.2.1 113 a1.toNatClampNeg) / (10 : Int32) * (10 : Int32)) = a3) → Q (0 : Int32) σ) ∧ (¬ (¬ ((σ.2.1 113 a1.toNatClampNeg) - (σ.2.1 113 a1.toNatClampNeg) / (10 : Int32) * (10 : Int32)) = a3) → Q (1 : Int32) σ)))))))
set_option maxHeartbeats 4000000 in
set_option maxRecDepth 100000 in
theorem ceX12_isDefining {l : Launch} (hl : l.stackTraces = false) (B : Nat) {a0 : Int32} {a1 : Int32} {a2 : Int32} {a3 : Int32}  {Q : Int32 → ab_S → Prop} {E : String → ab_S → Prop} {σ : ab_S} (hW : Wire σ) (h : wX12_isDefining a0 a1 a2 a3 Q E σ) : ab_Mt l yX12_isDefining mdX12_isDefining B 1 25 0 0 [.ref 92, .int a0, .int a1, .int a2, .int a3] σ (fun v σ' => Wire σ' ∧ ∃ r : Int32, v = some (.int r) ∧ Q r σ') (fun X σ' => Wire σ' ∧ E X σ') := by
  refine V_met hl ⟨rfl, rfl, by decide⟩ rfl dkX12_isDefining (Nat.le_of_ble_eq_true rfl) ?_
  show V l mdX12_isDefining B 1 25 0 0 (ab_End _ _) 0 [(0, .ref 92), (1, .int a0), (2, .int a1), (3, .int a2), (4, .int a3)] [] σ
  refine V_aload_n 0 0 rfl rfl rfl ?_
  refine V_getR 1 29 rfl clX12 flX12_72 (by decide) (wsh hW rfl) (fun _ => rfl) (wrf hW 114 rfl) ?_
  refine V_iload_n 2 2 rfl rfl rfl ?_
  obtain ⟨hin, h⟩ := h
  refine V_iald 3 rfl (wsh hW rfl) hin ?_
  refine V_bipush 4 (v := (10 : Int32)) rfl (by decide) ?_
  refine V_icmp_lt 5 (tgt := 55) rfl (by decide) (fun hc => ?_) (fun hc => ?_)
  · replace h := h.1 hc
    refine V_aload_n 35 0 rfl rfl rfl ?_
    refine V_getR 36 38 rfl clX12 flX12_99 (by decide) (wsh hW rfl) (fun _ => rfl) (wrf hW 123 rfl) ?_
    refine V_bipush 37 (v := (104 : Int32)) rfl (by decide) ?_
    refine V_bipush 38 (v := (6 : Int32)) rfl (by decide) ?_
    refine V_aload_n 39 0 rfl rfl rfl ?_
    refine V_getR 40 18 rfl clX12 flX12_45 (by decide) (wsh hW rfl) (fun _ => rfl) (wrf hW 105 rfl) ?_
    refine V_pc 67 rfl ?_
    refine V_iconst 41 (v := (4 : Int32)) rfl (by decide) ?_
    refine V_iload_n 42 1 rfl rfl rfl ?_
    refine V_imul 43 rfl ?_
    refine V_aload_n 44 0 rfl rfl rfl ?_
    refine V_getR 45 29 rfl clX12 flX12_72 (by decide) (wsh hW rfl) (fun _ => rfl) (wrf hW 114 rfl) ?_
    refine V_iload_n 46 2 rfl rfl rfl ?_
    refine V_pc 75 rfl ?_
    obtain ⟨hin, h⟩ := h
    refine V_iald 47 rfl (wsh hW rfl) hin ?_
    refine V_iadd 48 rfl ?_
    obtain ⟨hin, h⟩ := h
    refine V_iald 49 rfl (wsh hW rfl) hin ?_
    refine V_imul 50 rfl ?_
    refine V_aload_n 51 0 rfl rfl rfl ?_
    refine V_iload_n 52 1 rfl rfl rfl ?_
    refine V_pc 81 rfl ?_
    refine V_iload_n 53 2 rfl rfl rfl ?_
    refine V_callV 54 2 (as := [.int a0, .int a1]) (rest := [.int ((6 : Int32) * (σ.2.1 104 (((4 : Int32) * a0) + (σ.2.1 113 a1.toNatClampNeg)).toNatClampNeg)), .int (104 : Int32), .ref 122]) rfl mlX12_456 yvX12_callOf rfl rfl clX12 (wsh hW rfl) (by decide) (by decide) (Nat.le_of_ble_eq_true rfl) (by decide) (by decide) (fun B9 => ceX12_callOf hl B9 hW h) (fun X9 τ9 h9 => VX_out rfl h9) ?_
    rintro v9 σ1 ⟨hW, u2, rfl, h⟩
    refine V_iadd 55 rfl ?_
    refine V_imul 56 rfl ?_
    refine V_bipush 57 (v := (8 : Int32)) rfl (by decide) ?_
    refine V_iload_n 58 3 rfl rfl rfl ?_
    refine V_imul 59 rfl ?_
    refine V_pc 91 rfl ?_
    refine V_iadd 60 rfl ?_
    refine V_iload 61 4 rfl rfl ?_
    refine V_iadd 62 rfl ?_
    obtain ⟨hin, h⟩ := h
    refine V_zald 63 rfl (wsh hW rfl) hin ?_
    exact V_zret 64 rfl rfl (nb1 h.1) ⟨hW, _, rfl, h.2⟩
  · replace h := h.2 hc
    refine V_pc 11 rfl ?_
    refine V_aload_n 6 0 rfl rfl rfl ?_
    refine V_getR 7 18 rfl clX12 flX12_45 (by decide) (wsh hW rfl) (fun _ => rfl) (wrf hW 105 rfl) ?_
    refine V_iconst 8 (v := (4 : Int32)) rfl (by decide) ?_
    refine V_iload_n 9 1 rfl rfl rfl ?_
    refine V_imul 10 rfl ?_
    refine V_aload_n 11 0 rfl rfl rfl ?_
    refine V_pc 19 rfl ?_
    refine V_getR 12 29 rfl clX12 flX12_72 (by decide) (wsh hW rfl) (fun _ => rfl) (wrf hW 114 rfl) ?_
    refine V_iload_n 13 2 rfl rfl rfl ?_
    obtain ⟨hin, h⟩ := h
    refine V_iald 14 rfl (wsh hW rfl) hin ?_
    refine V_bipush 15 (v := (10 : Int32)) rfl (by decide) ?_
    refine V_idiv 16 rfl (by decide) ?_
    refine V_iadd 17 rfl ?_
    refine V_pc 28 rfl ?_
    refine V_iconst 18 (v := (1 : Int32)) rfl (by decide) ?_
    refine V_isub 19 rfl ?_
    obtain ⟨hin, h⟩ := h
    refine V_iald 20 rfl (wsh hW rfl) hin ?_
    refine V_iload_n 21 3 rfl rfl rfl ?_
    refine V_icmp_ne 22 (tgt := 53) rfl (by decide) (fun hc => ?_) (fun hc => ?_)
    · replace h := h.1 hc
      refine V_iconst 33 (v := (0 : Int32)) rfl (by decide) ?_
      exact V_zret 34 rfl rfl rfl ⟨hW, _, rfl, h⟩
    · replace h := h.2 hc
      refine V_pc 35 rfl ?_
      refine V_aload_n 23 0 rfl rfl rfl ?_
      refine V_getR 24 29 rfl clX12 flX12_72 (by decide) (wsh hW rfl) (fun _ => rfl) (wrf hW 114 rfl) ?_
      refine V_iload_n 25 2 rfl rfl rfl ?_
      obtain ⟨hin, h⟩ := h
      refine V_iald 26 rfl (wsh hW rfl) hin ?_
      refine V_bipush 27 (v := (10 : Int32)) rfl (by decide) ?_
      refine V_irem 28 rfl (by decide) ?_
      refine V_pc 44 rfl ?_
      refine V_iload 29 4 rfl rfl ?_
      refine V_icmp_ne 30 (tgt := 53) rfl (by decide) (fun hc => ?_) (fun hc => ?_)
      · replace h := h.1 hc
        refine V_iconst 33 (v := (0 : Int32)) rfl (by decide) ?_
        exact V_zret 34 rfl rfl rfl ⟨hW, _, rfl, h⟩
      · replace h := h.2 hc
        refine V_pc 49 rfl ?_
        refine V_iconst 31 (v := (1 : Int32)) rfl (by decide) ?_
        refine V_goto 32 (tgt := 54) rfl (by decide) ?_
        exact V_zret 34 rfl rfl rfl ⟨hW, _, rfl, h⟩

def wX12_anyDefining_j36 (a0 : Int32) (a1 : Int32) (a2 : Int32) (a3 : Int32) (a4 : Int32) (Q : Int32 → ab_S → Prop) (E : String → ab_S → Prop) (Bk : Int32 → Int32 → ab_S → Prop) (x7 : Int32) (y0 : Int32) (σ : ab_S) : Prop := ∀ v1 : Int32, v1 = (x7 + 1) → Bk y0 v1 σ
def wX12_anyDefining_j31 (a0 : Int32) (a1 : Int32) (a2 : Int32) (a3 : Int32) (a4 : Int32) (Q : Int32 → ab_S → Prop) (E : String → ab_S → Prop) (Bk : Int32 → Int32 → ab_S → Prop) (x7 : Int32) (σ : ab_S) : Prop := wX12_anyDefining_j36 a0 a1 a2 a3 a4 Q E Bk x7 (1 : Int32) σ
def wX12_anyDefining_l6_b (a0 : Int32) (a1 : Int32) (a2 : Int32) (a3 : Int32) (a4 : Int32) (Q : Int32 → ab_S → Prop) (E : String → ab_S → Prop) (Bk : Int32 → Int32 → ab_S → Prop) (x6 : Int32) (x7 : Int32) (σ : ab_S) : Prop := ((a2 ≤ x7) → (x6 = 0 ∨ x6 = 1) ∧ Q x6 σ) ∧ (¬ (a2 ≤ x7) → ((¬ x6 = 0) → wX12_anyDefining_j31 a0 a1 a2 a3 a4 Q E Bk x7 σ) ∧ (¬ (¬ x6 = 0) → wX12_isDefining a0 x7 a3 a4 (fun u3 σ2 => ((u3 = 0) → wX12_anyDefining_j36 a0 a1 a2 a3 a4 Q E Bk x7 (0 : Int32) σ2) ∧ (¬ (u3 = 0) → wX12_anyDefining_j31 a0 a1 a2 a3 a4 Q E Bk x7 σ2)) E σ))
def wX12_anyDefining_l6 (a0 : Int32) (a1 : Int32) (a2 : Int32) (a3 : Int32) (a4 : Int32) (Q : Int32 → ab_S → Prop) (E : String → ab_S → Prop) : Nat → Int32 → Int32 → ab_S → Prop
  | 0, _, _, _ => False
  | n + 1, x6, x7, σ => wX12_anyDefining_l6_b a0 a1 a2 a3 a4 Q E (wX12_anyDefining_l6 a0 a1 a2 a3 a4 Q E n) x6 x7 σ
def wX12_anyDefining (a0 : Int32) (a1 : Int32) (a2 : Int32) (a3 : Int32) (a4 : Int32) (Q : Int32 → ab_S → Prop) (E : String → ab_S → Prop) (σ : ab_S) : Prop := ∃ n, wX12_anyDefining_l6 a0 a1 a2 a3 a4 Q E n (0 : Int32) a1 σ
set_option maxHeartbeats 4000000 in
set_option maxRecDepth 100000 in
theorem ceX12_anyDefining {l : Launch} (hl : l.stackTraces = false) (B : Nat) {a0 : Int32} {a1 : Int32} {a2 : Int32} {a3 : Int32} {a4 : Int32}  {Q : Int32 → ab_S → Prop} {E : String → ab_S → Prop} {σ : ab_S} (hW : Wire σ) (h : wX12_anyDefining a0 a1 a2 a3 a4 Q E σ) : ab_Mt l yX12_anyDefining mdX12_anyDefining B 2 49 0 0 [.ref 92, .int a0, .int a1, .int a2, .int a3, .int a4] σ (fun v σ' => Wire σ' ∧ ∃ r : Int32, v = some (.int r) ∧ Q r σ') (fun X σ' => Wire σ' ∧ E X σ') := by
  refine V_met hl ⟨rfl, rfl, by decide⟩ rfl dkX12_anyDefining (Nat.le_of_ble_eq_true rfl) ?_
  show V l mdX12_anyDefining B 2 49 0 0 (ab_End _ _) 0 [(0, .ref 92), (1, .int a0), (2, .int a1), (3, .int a2), (4, .int a3), (5, .int a4)] [] σ
  revert h hW
  revert σ
  have k_l6 : ∀ (n : Nat) (x6 : Int32) (x7 : Int32)  (σ : ab_S), Wire σ → wX12_anyDefining_l6 a0 a1 a2 a3 a4 Q E n x6 x7 σ → V l mdX12_anyDefining B 2 49 0 0 (ab_End (fun v σ' => Wire σ' ∧ ∃ r : Int32, v = some (.int r) ∧ Q r σ') (fun X σ' => Wire σ' ∧ E X σ')) 6 [(0, .ref 92), (1, .int a0), (3, .int a2), (4, .int a3), (5, .int a4), (6, .int x6), (7, .int x7)] [] σ := by
    have step : ∀ (Bk : Int32 → Int32 → ab_S → Prop) (k_Bk : ∀ (x6 : Int32) (x7 : Int32)  (σ : ab_S), Wire σ → Bk x6 x7 σ → V l mdX12_anyDefining B 2 49 0 0 (ab_End (fun v σ' => Wire σ' ∧ ∃ r : Int32, v = some (.int r) ∧ Q r σ') (fun X σ' => Wire σ' ∧ E X σ')) 6 [(0, .ref 92), (1, .int a0), (3, .int a2), (4, .int a3), (5, .int a4), (6, .int x6), (7, .int x7)] [] σ), ∀ (x6 : Int32) (x7 : Int32)  (σ : ab_S), Wire σ → wX12_anyDefining_l6_b a0 a1 a2 a3 a4 Q E Bk x6 x7 σ → V l mdX12_anyDefining B 2 49 0 0 (ab_End (fun v σ' => Wire σ' ∧ ∃ r : Int32, v = some (.int r) ∧ Q r σ') (fun X σ' => Wire σ' ∧ E X σ')) 6 [(0, .ref 92), (1, .int a0), (3, .int a2), (4, .int a3), (5, .int a4), (6, .int x6), (7, .int x7)] [] σ := by
      intro Bk k_Bk
      have k_j36 : ∀ (x7 : Int32) (y0 : Int32)  (σ : ab_S), Wire σ → wX12_anyDefining_j36 a0 a1 a2 a3 a4 Q E Bk x7 y0 σ → V l mdX12_anyDefining B 2 49 0 0 (ab_End (fun v σ' => Wire σ' ∧ ∃ r : Int32, v = some (.int r) ∧ Q r σ') (fun X σ' => Wire σ' ∧ E X σ')) 36 [(0, .ref 92), (1, .int a0), (3, .int a2), (4, .int a3), (5, .int a4), (7, .int x7)] [.int y0] σ := by
        intro x7 y0  σ hW h
        refine V_istore 19 (lv' := [(6, .int y0), (0, .ref 92), (1, .int a0), (3, .int a2), (4, .int a3), (5, .int a4), (7, .int x7)]) rfl (by decide) rfl ?_
        obtain ⟨v1, ev1⟩ : ∃ z : Int32, z = (x7 + 1) := ⟨_, rfl⟩
        replace h := h v1 ev1
        refine V_iinc 20 6 (v := v1) (lv' := [(7, .int v1), (6, .int y0), (0, .ref 92), (1, .int a0), (3, .int a2), (4, .int a3), (5, .int a4)]) rfl rfl ((in_1 _).trans ev1.symm) (by decide) rfl ?_
        refine V_goto 21 (tgt := 6) rfl (by decide) ?_
        refine V_sub [2, 3, 4, 5, 6, 1, 0] (lv' := [(0, .ref 92), (1, .int a0), (3, .int a2), (4, .int a3), (5, .int a4), (6, .int y0), (7, .int v1)]) rfl ?_
        exact k_Bk y0 v1  σ hW h
      have k_j31 : ∀ (x7 : Int32)  (σ : ab_S), Wire σ → wX12_anyDefining_j31 a0 a1 a2 a3 a4 Q E Bk x7 σ → V l mdX12_anyDefining B 2 49 0 0 (ab_End (fun v σ' => Wire σ' ∧ ∃ r : Int32, v = some (.int r) ∧ Q r σ') (fun X σ' => Wire σ' ∧ E X σ')) 31 [(0, .ref 92), (1, .int a0), (3, .int a2), (4, .int a3), (5, .int a4), (7, .int x7)] [] σ := by
        intro x7  σ hW h
        refine V_iconst 16 (v := (1 : Int32)) rfl (by decide) ?_
        refine V_goto 17 (tgt := 36) rfl (by decide) ?_
        exact k_j36 x7 (1 : Int32) σ hW h
      intro x6 x7  σ hW h
      refine V_iload 4 6 rfl rfl ?_
      refine V_iload_n 5 2 rfl rfl rfl ?_
      refine V_icmp_ge 6 (tgt := 44) rfl (by decide) (fun hc => ?_) (fun hc => ?_)
      · replace h := h.1 hc
        refine V_iload 22 5 rfl rfl ?_
        exact V_zret 23 rfl rfl (nb1 h.1) ⟨hW, _, rfl, h.2⟩
      · replace h := h.2 hc
        refine V_pc 12 rfl ?_
        refine V_iload 7 5 rfl rfl ?_
        refine V_if_ne 8 (tgt := 31) rfl (by decide) (fun hc => ?_) (fun hc => ?_)
        · replace h := h.1 hc
          refine V_sub [0, 1, 2, 3, 4, 6] (lv' := [(0, .ref 92), (1, .int a0), (3, .int a2), (4, .int a3), (5, .int a4), (7, .int x7)]) rfl ?_
          exact k_j31 x7 σ hW h
        · replace h := h.2 hc
          refine V_pc 17 rfl ?_
          refine V_aload_n 9 0 rfl rfl rfl ?_
          refine V_iload_n 10 1 rfl rfl rfl ?_
          refine V_iload 11 6 rfl rfl ?_
          refine V_iload 12 3 rfl rfl ?_
          refine V_iload 13 4 rfl rfl ?_
          refine V_callV 14 4 (as := [.int a0, .int x7, .int a3, .int a4]) (rest := []) rfl mlX12_459 yvX12_isDefining rfl rfl clX12 (wsh hW rfl) (by decide) (by decide) (Nat.le_of_ble_eq_true rfl) (by decide) (by decide) (fun B9 => ceX12_isDefining hl B9 hW h) (fun X9 τ9 h9 => VX_out rfl h9) ?_
          rintro v9 σ2 ⟨hW, u3, rfl, h⟩
          refine V_if_eq 15 (tgt := 35) rfl (by decide) (fun hc => ?_) (fun hc => ?_)
          · replace h := h.1 hc
            refine V_iconst 18 (v := (0 : Int32)) rfl (by decide) ?_
            refine V_sub [0, 1, 2, 3, 4, 6] (lv' := [(0, .ref 92), (1, .int a0), (3, .int a2), (4, .int a3), (5, .int a4), (7, .int x7)]) rfl ?_
            exact k_j36 x7 (0 : Int32) σ2 hW h
          · replace h := h.2 hc
            refine V_pc 31 rfl ?_
            refine V_sub [0, 1, 2, 3, 4, 6] (lv' := [(0, .ref 92), (1, .int a0), (3, .int a2), (4, .int a3), (5, .int a4), (7, .int x7)]) rfl ?_
            exact k_j31 x7 σ2 hW h
    intro n
    induction n with
    | zero => intro x6 x7  σ hW h; exact absurd h id
    | succ n ih => exact step  _ ih
  intro σ hW h
  refine V_iconst 0 (v := (0 : Int32)) rfl (by decide) ?_
  refine V_istore 1 (lv' := [(6, .int (0 : Int32)), (0, .ref 92), (1, .int a0), (2, .int a1), (3, .int a2), (4, .int a3), (5, .int a4)]) rfl (by decide) rfl ?_
  refine V_iload_n 2 3 rfl rfl rfl ?_
  refine V_istore 3 (lv' := [(7, .int a1), (6, .int (0 : Int32)), (0, .ref 92), (1, .int a0), (2, .int a1), (3, .int a2), (4, .int a3), (5, .int a4)]) rfl (by decide) rfl ?_
  refine V_sub [2, 3, 5, 6, 7, 1, 0] (lv' := [(0, .ref 92), (1, .int a0), (3, .int a2), (4, .int a3), (5, .int a4), (6, .int (0 : Int32)), (7, .int a1)]) rfl ?_
  obtain ⟨n, h⟩ := h
  exact k_l6 n (0 : Int32) a1 σ hW h

def wX12_findDefines_j173 (Q : ab_S → Prop) (E : String → ab_S → Prop) (Bk : Int32 → ab_S → Prop) (x1 : Int32) (σ : ab_S) : Prop := Bk x1 σ
def wX12_findDefines_j167 (Q : ab_S → Prop) (E : String → ab_S → Prop) (K173 : Int32 → ab_S → Prop) (Bk : Int32 → Int32 → ab_S → Prop) (x1 : Int32) (x2 : Int32) (σ : ab_S) : Prop := ∀ v1 : Int32, v1 = (x2 + 1) → Bk x1 v1 σ
def wX12_findDefines_j161 (Q : ab_S → Prop) (E : String → ab_S → Prop) (K167 : Int32 → Int32 → ab_S → Prop) (Bk : Int32 → Int32 → Int32 → Int32 → ab_S → Prop) (x1 : Int32) (x2 : Int32) (x3 : Int32) (x4 : Int32) (σ : ab_S) : Prop := ∀ v2 : Int32, v2 = (x4 + 1) → Bk x1 x2 x3 v2 σ
def wX12_findDefines_j155 (Q : ab_S → Prop) (E : String → ab_S → Prop) (K161 : Int32 → Int32 → Int32 → Int32 → ab_S → Prop) (Bk : Int32 → Int32 → Int32 → Int32 → Int32 → ab_S → Prop) (x1 : Int32) (x2 : Int32) (x3 : Int32) (x4 : Int32) (x5 : Int32) (σ : ab_S) : Prop := ∀ v3 : Int32, v3 = (x5 + 1) → Bk x1 x2 x3 x4 v3 σ
def wX12_findDefines_l66_b (Q : ab_S → Prop) (E : String → ab_S → Prop) (K161 : Int32 → Int32 → Int32 → Int32 → ab_S → Prop) (Bk : Int32 → Int32 → Int32 → Int32 → Int32 → ab_S → Prop) (x1 : Int32) (x2 : Int32) (x3 : Int32) (x4 : Int32) (x5 : Int32) (σ : ab_S) : Prop := ((((8 : Int32) * (σ.2.1 92 9)) ≤ x5) → K161 x1 x2 x3 x4 σ) ∧ (¬ (((8 : Int32) * (σ.2.1 92 9)) ≤ x5) → ∀ v4 : Int32, v4 = (((104 : Int32) * (((6 : Int32) * x3) + x4)) + x5) → vp_in v4 8112 ∧ (((¬ (σ.2.1 122 v4.toNatClampNeg) = 0) → wX12_findDefines_j155 Q E K161 Bk x1 x2 x3 x4 x5 σ) ∧ (¬ (¬ (σ.2.1 122 v4.toNatClampNeg) = 0) → vp_in (((6 : Int32) * x2) + x4) 187 ∧ (vp_in (((6 : Int32) * x2) + x4) 187 ∧ (wX12_anyDefining x2 (σ.2.1 114 (((6 : Int32) * x2) + x4).toNatClampNeg) (σ.2.1 115 (((6 : Int32) * x2) + x4).toNatClampNeg) (x5 / (8 : Int32)) (x5 - x5 / (8 : Int32) * (8 : Int32)) (fun u6 σ5 => ((u6 = 0) → wX12_findDefines_j155 Q E K161 Bk x1 x2 x3 x4 x5 σ5) ∧ (¬ (u6 = 0) → vp_in v4 8112 ∧ (∀ σ7 : ab_S, σ7 = ab_I σ5 122 v4.toNatClampNeg (vp_nar .boolean (1 : Int32)) → wX12_findDefines_j155 Q E K161 Bk (1 : Int32) x2 x3 x4 x5 σ7))) E σ)))))
def wX12_findDefines_l66 (Q : ab_S → Prop) (E : String → ab_S → Prop) (K161 : Int32 → Int32 → Int32 → Int32 → ab_S → Prop) : Nat → Int32 → Int32 → Int32 → Int32 → Int32 → ab_S → Prop
  | 0, _, _, _, _, _, _ => False
  | n + 1, x1, x2, x3, x4, x5, σ => wX12_findDefines_l66_b Q E K161 (wX12_findDefines_l66 Q E K161 n) x1 x2 x3 x4 x5 σ
def wX12_findDefines_l52_b (Q : ab_S → Prop) (E : String → ab_S → Prop) (K167 : Int32 → Int32 → ab_S → Prop) (Bk : Int32 → Int32 → Int32 → Int32 → ab_S → Prop) (x1 : Int32) (x2 : Int32) (x3 : Int32) (x4 : Int32) (σ : ab_S) : Prop := vp_in x3 13 ∧ ((((σ.2.1 112 x3.toNatClampNeg) < x4) → K167 x1 x2 σ) ∧ (¬ ((σ.2.1 112 x3.toNatClampNeg) < x4) → ∃ n, wX12_findDefines_l66 Q E (wX12_findDefines_j161 Q E K167 Bk) n x1 x2 x3 x4 (0 : Int32) σ))
def wX12_findDefines_l52 (Q : ab_S → Prop) (E : String → ab_S → Prop) (K167 : Int32 → Int32 → ab_S → Prop) : Nat → Int32 → Int32 → Int32 → Int32 → ab_S → Prop
  | 0, _, _, _, _, _ => False
  | n + 1, x1, x2, x3, x4, σ => wX12_findDefines_l52_b Q E K167 (wX12_findDefines_l52 Q E K167 n) x1 x2 x3 x4 σ
def wX12_findDefines_l32_b (Q : ab_S → Prop) (E : String → ab_S → Prop) (K173 : Int32 → ab_S → Prop) (Bk : Int32 → Int32 → ab_S → Prop) (x1 : Int32) (x2 : Int32) (σ : ab_S) : Prop := (((σ.2.1 92 14) ≤ x2) → K173 x1 σ) ∧ (¬ ((σ.2.1 92 14) ≤ x2) → vp_in ((4 : Int32) * x2) 124 ∧ (∀ v8 : Int32, v8 = (σ.2.1 104 ((4 : Int32) * x2).toNatClampNeg) → ∃ n, wX12_findDefines_l52 Q E (wX12_findDefines_j167 Q E K173 Bk) n x1 x2 v8 (1 : Int32) σ))
def wX12_findDefines_l32 (Q : ab_S → Prop) (E : String → ab_S → Prop) (K173 : Int32 → ab_S → Prop) : Nat → Int32 → Int32 → ab_S → Prop
  | 0, _, _, _ => False
  | n + 1, x1, x2, σ => wX12_findDefines_l32_b Q E K173 (wX12_findDefines_l32 Q E K173 n) x1 x2 σ
def wX12_findDefines_l24_b (Q : ab_S → Prop) (E : String → ab_S → Prop) (Bk : Int32 → ab_S → Prop) (x1 : Int32) (σ : ab_S) : Prop := ((x1 = 0) → Q σ) ∧ (¬ (x1 = 0) → ∃ n, wX12_findDefines_l32 Q E (wX12_findDefines_j173 Q E Bk) n (0 : Int32) (0 : Int32) σ)
def wX12_findDefines_l24 (Q : ab_S → Prop) (E : String → ab_S → Prop) : Nat → Int32 → ab_S → Prop
  | 0, _, _ => False
  | n + 1, x1, σ => wX12_findDefines_l24_b Q E (wX12_findDefines_l24 Q E n) x1 σ
def wX12_findDefines_j22 (Q : ab_S → Prop) (E : String → ab_S → Prop)  (σ : ab_S) : Prop := ∃ n, wX12_findDefines_l24 Q E n (1 : Int32) σ
def wX12_findDefines_l2_b (Q : ab_S → Prop) (E : String → ab_S → Prop) (K22 : ab_S → Prop) (Bk : Int32 → ab_S → Prop) (x1 : Int32) (σ : ab_S) : Prop := (((8112 : Int32) ≤ x1) → K22 σ) ∧ (¬ ((8112 : Int32) ≤ x1) → vp_in x1 8112 ∧ (∀ σ9 : ab_S, σ9 = ab_I σ 122 x1.toNatClampNeg (vp_nar .boolean (0 : Int32)) → ∀ v10 : Int32, v10 = (x1 + 1) → Bk v10 σ9))
def wX12_findDefines_l2 (Q : ab_S → Prop) (E : String → ab_S → Prop) (K22 : ab_S → Prop) : Nat → Int32 → ab_S → Prop
  | 0, _, _ => False
  | n + 1, x1, σ => wX12_findDefines_l2_b Q E K22 (wX12_findDefines_l2 Q E K22 n) x1 σ
def wX12_findDefines  (Q : ab_S → Prop) (E : String → ab_S → Prop) (σ : ab_S) : Prop := ∃ n, wX12_findDefines_l2 Q E (wX12_findDefines_j22 Q E) n (0 : Int32) σ
set_option maxHeartbeats 4000000 in
set_option maxRecDepth 100000 in
theorem ceX12_findDefines {l : Launch} (hl : l.stackTraces = false) (B : Nat)   {Q : ab_S → Prop} {E : String → ab_S → Prop} {σ : ab_S} (hW : Wire σ) (h : wX12_findDefines  Q E σ) : ab_Mt l yX12_findDefines mdX12_findDefines B 3 76 0 0 [.ref 92] σ (fun v σ' => Wire σ' ∧ v = none ∧ Q σ') (fun X σ' => Wire σ' ∧ E X σ') := by
  refine V_met hl ⟨rfl, rfl, by decide⟩ rfl dkX12_findDefines (Nat.le_of_ble_eq_true rfl) ?_
  show V l mdX12_findDefines B 3 76 0 0 (ab_End _ _) 0 [(0, .ref 92)] [] σ
  revert h hW
  revert σ
  have k_l24 : ∀ (n : Nat) (x1 : Int32)  (σ : ab_S), Wire σ → wX12_findDefines_l24 Q E n x1 σ → V l mdX12_findDefines B 3 76 0 0 (ab_End (fun v σ' => Wire σ' ∧ v = none ∧ Q σ') (fun X σ' => Wire σ' ∧ E X σ')) 24 [(0, .ref 92), (1, .int x1)] [] σ := by
    have step : ∀ (Bk : Int32 → ab_S → Prop) (k_Bk : ∀ (x1 : Int32)  (σ : ab_S), Wire σ → Bk x1 σ → V l mdX12_findDefines B 3 76 0 0 (ab_End (fun v σ' => Wire σ' ∧ v = none ∧ Q σ') (fun X σ' => Wire σ' ∧ E X σ')) 24 [(0, .ref 92), (1, .int x1)] [] σ), ∀ (x1 : Int32)  (σ : ab_S), Wire σ → wX12_findDefines_l24_b Q E Bk x1 σ → V l mdX12_findDefines B 3 76 0 0 (ab_End (fun v σ' => Wire σ' ∧ v = none ∧ Q σ') (fun X σ' => Wire σ' ∧ E X σ')) 24 [(0, .ref 92), (1, .int x1)] [] σ := by
      intro Bk k_Bk
      have k_j173 : ∀ (x1 : Int32)  (σ : ab_S), Wire σ → wX12_findDefines_j173 Q E Bk x1 σ → V l mdX12_findDefines B 3 76 0 0 (ab_End (fun v σ' => Wire σ' ∧ v = none ∧ Q σ') (fun X σ' => Wire σ' ∧ E X σ')) 173 [(0, .ref 92), (1, .int x1)] [] σ := by
        intro x1  σ hW h
        refine V_goto 101 (tgt := 24) rfl (by decide) ?_
        exact k_Bk x1  σ hW h
      have k_l32 : ∀ (n : Nat) (x1 : Int32) (x2 : Int32)  (σ : ab_S), Wire σ → wX12_findDefines_l32 Q E (wX12_findDefines_j173 Q E Bk) n x1 x2 σ → V l mdX12_findDefines B 3 76 0 0 (ab_End (fun v σ' => Wire σ' ∧ v = none ∧ Q σ') (fun X σ' => Wire σ' ∧ E X σ')) 32 [(0, .ref 92), (1, .int x1), (2, .int x2)] [] σ := by
        have step : ∀ (K173 : Int32 → ab_S → Prop) (k_K173 : ∀ (x1 : Int32)  (σ : ab_S), Wire σ → K173 x1 σ → V l mdX12_findDefines B 3 76 0 0 (ab_End (fun v σ' => Wire σ' ∧ v = none ∧ Q σ') (fun X σ' => Wire σ' ∧ E X σ')) 173 [(0, .ref 92), (1, .int x1)] [] σ), ∀ (Bk : Int32 → Int32 → ab_S → Prop) (k_Bk : ∀ (x1 : Int32) (x2 : Int32)  (σ : ab_S), Wire σ → Bk x1 x2 σ → V l mdX12_findDefines B 3 76 0 0 (ab_End (fun v σ' => Wire σ' ∧ v = none ∧ Q σ') (fun X σ' => Wire σ' ∧ E X σ')) 32 [(0, .ref 92), (1, .int x1), (2, .int x2)] [] σ), ∀ (x1 : Int32) (x2 : Int32)  (σ : ab_S), Wire σ → wX12_findDefines_l32_b Q E K173 Bk x1 x2 σ → V l mdX12_findDefines B 3 76 0 0 (ab_End (fun v σ' => Wire σ' ∧ v = none ∧ Q σ') (fun X σ' => Wire σ' ∧ E X σ')) 32 [(0, .ref 92), (1, .int x1), (2, .int x2)] [] σ := by
          intro K173 k_K173 Bk k_Bk
          have k_j167 : ∀ (x1 : Int32) (x2 : Int32)  (σ : ab_S), Wire σ → wX12_findDefines_j167 Q E K173 Bk x1 x2 σ → V l mdX12_findDefines B 3 76 0 0 (ab_End (fun v σ' => Wire σ' ∧ v = none ∧ Q σ') (fun X σ' => Wire σ' ∧ E X σ')) 167 [(0, .ref 92), (1, .int x1), (2, .int x2)] [] σ := by
            intro x1 x2  σ hW h
            obtain ⟨v1, ev1⟩ : ∃ z : Int32, z = (x2 + 1) := ⟨_, rfl⟩
            replace h := h v1 ev1
            refine V_iinc 99 2 (v := v1) (lv' := [(2, .int v1), (0, .ref 92), (1, .int x1)]) rfl rfl ((in_1 _).trans ev1.symm) (by decide) rfl ?_
            refine V_goto 100 (tgt := 32) rfl (by decide) ?_
            refine V_sub [1, 2, 0] (lv' := [(0, .ref 92), (1, .int x1), (2, .int v1)]) rfl ?_
            exact k_Bk x1 v1  σ hW h
          have k_l52 : ∀ (n : Nat) (x1 : Int32) (x2 : Int32) (x3 : Int32) (x4 : Int32)  (σ : ab_S), Wire σ → wX12_findDefines_l52 Q E (wX12_findDefines_j167 Q E K173 Bk) n x1 x2 x3 x4 σ → V l mdX12_findDefines B 3 76 0 0 (ab_End (fun v σ' => Wire σ' ∧ v = none ∧ Q σ') (fun X σ' => Wire σ' ∧ E X σ')) 52 [(0, .ref 92), (1, .int x1), (2, .int x2), (3, .int x3), (4, .int x4)] [] σ := by
            have step : ∀ (K167 : Int32 → Int32 → ab_S → Prop) (k_K167 : ∀ (x1 : Int32) (x2 : Int32)  (σ : ab_S), Wire σ → K167 x1 x2 σ → V l mdX12_findDefines B 3 76 0 0 (ab_End (fun v σ' => Wire σ' ∧ v = none ∧ Q σ') (fun X σ' => Wire σ' ∧ E X σ')) 167 [(0, .ref 92), (1, .int x1), (2, .int x2)] [] σ), ∀ (Bk : Int32 → Int32 → Int32 → Int32 → ab_S → Prop) (k_Bk : ∀ (x1 : Int32) (x2 : Int32) (x3 : Int32) (x4 : Int32)  (σ : ab_S), Wire σ → Bk x1 x2 x3 x4 σ → V l mdX12_findDefines B 3 76 0 0 (ab_End (fun v σ' => Wire σ' ∧ v = none ∧ Q σ') (fun X σ' => Wire σ' ∧ E X σ')) 52 [(0, .ref 92), (1, .int x1), (2, .int x2), (3, .int x3), (4, .int x4)] [] σ), ∀ (x1 : Int32) (x2 : Int32) (x3 : Int32) (x4 : Int32)  (σ : ab_S), Wire σ → wX12_findDefines_l52_b Q E K167 Bk x1 x2 x3 x4 σ → V l mdX12_findDefines B 3 76 0 0 (ab_End (fun v σ' => Wire σ' ∧ v = none ∧ Q σ') (fun X σ' => Wire σ' ∧ E X σ')) 52 [(0, .ref 92), (1, .int x1), (2, .int x2), (3, .int x3), (4, .int x4)] [] σ := by
              intro K167 k_K167 Bk k_Bk
              have k_j161 : ∀ (x1 : Int32) (x2 : Int32) (x3 : Int32) (x4 : Int32)  (σ : ab_S), Wire σ → wX12_findDefines_j161 Q E K167 Bk x1 x2 x3 x4 σ → V l mdX12_findDefines B 3 76 0 0 (ab_End (fun v σ' => Wire σ' ∧ v = none ∧ Q σ') (fun X σ' => Wire σ' ∧ E X σ')) 161 [(0, .ref 92), (1, .int x1), (2, .int x2), (3, .int x3), (4, .int x4)] [] σ := by
                intro x1 x2 x3 x4  σ hW h
                obtain ⟨v2, ev2⟩ : ∃ z : Int32, z = (x4 + 1) := ⟨_, rfl⟩
                replace h := h v2 ev2
                refine V_iinc 97 4 (v := v2) (lv' := [(4, .int v2), (0, .ref 92), (1, .int x1), (2, .int x2), (3, .int x3)]) rfl rfl ((in_1 _).trans ev2.symm) (by decide) rfl ?_
                refine V_goto 98 (tgt := 52) rfl (by decide) ?_
                refine V_sub [1, 2, 3, 4, 0] (lv' := [(0, .ref 92), (1, .int x1), (2, .int x2), (3, .int x3), (4, .int v2)]) rfl ?_
                exact k_Bk x1 x2 x3 v2  σ hW h
              have k_l66 : ∀ (n : Nat) (x1 : Int32) (x2 : Int32) (x3 : Int32) (x4 : Int32) (x5 : Int32)  (σ : ab_S), Wire σ → wX12_findDefines_l66 Q E (wX12_findDefines_j161 Q E K167 Bk) n x1 x2 x3 x4 x5 σ → V l mdX12_findDefines B 3 76 0 0 (ab_End (fun v σ' => Wire σ' ∧ v = none ∧ Q σ') (fun X σ' => Wire σ' ∧ E X σ')) 66 [(0, .ref 92), (1, .int x1), (2, .int x2), (3, .int x3), (4, .int x4), (5, .int x5)] [] σ := by
                have step : ∀ (K161 : Int32 → Int32 → Int32 → Int32 → ab_S → Prop) (k_K161 : ∀ (x1 : Int32) (x2 : Int32) (x3 : Int32) (x4 : Int32)  (σ : ab_S), Wire σ → K161 x1 x2 x3 x4 σ → V l mdX12_findDefines B 3 76 0 0 (ab_End (fun v σ' => Wire σ' ∧ v = none ∧ Q σ') (fun X σ' => Wire σ' ∧ E X σ')) 161 [(0, .ref 92), (1, .int x1), (2, .int x2), (3, .int x3), (4, .int x4)] [] σ), ∀ (Bk : Int32 → Int32 → Int32 → Int32 → Int32 → ab_S → Prop) (k_Bk : ∀ (x1 : Int32) (x2 : Int32) (x3 : Int32) (x4 : Int32) (x5 : Int32)  (σ : ab_S), Wire σ → Bk x1 x2 x3 x4 x5 σ → V l mdX12_findDefines B 3 76 0 0 (ab_End (fun v σ' => Wire σ' ∧ v = none ∧ Q σ') (fun X σ' => Wire σ' ∧ E X σ')) 66 [(0, .ref 92), (1, .int x1), (2, .int x2), (3, .int x3), (4, .int x4), (5, .int x5)] [] σ), ∀ (x1 : Int32) (x2 : Int32) (x3 : Int32) (x4 : Int32) (x5 : Int32)  (σ : ab_S), Wire σ → wX12_findDefines_l66_b Q E K161 Bk x1 x2 x3 x4 x5 σ → V l mdX12_findDefines B 3 76 0 0 (ab_End (fun v σ' => Wire σ' ∧ v = none ∧ Q σ') (fun X σ' => Wire σ' ∧ E X σ')) 66 [(0, .ref 92), (1, .int x1), (2, .int x2), (3, .int x3), (4, .int x4), (5, .int x5)] [] σ := by
                  intro K161 k_K161 Bk k_Bk
                  have k_j155 : ∀ (x1 : Int32) (x2 : Int32) (x3 : Int32) (x4 : Int32) (x5 : Int32)  (σ : ab_S), Wire σ → wX12_findDefines_j155 Q E K161 Bk x1 x2 x3 x4 x5 σ → V l mdX12_findDefines B 3 76 0 0 (ab_End (fun v σ' => Wire σ' ∧ v = none ∧ Q σ') (fun X σ' => Wire σ' ∧ E X σ')) 155 [(0, .ref 92), (1, .int x1), (2, .int x2), (3, .int x3), (4, .int x4), (5, .int x5)] [] σ := by
                    intro x1 x2 x3 x4 x5  σ hW h
                    obtain ⟨v3, ev3⟩ : ∃ z : Int32, z = (x5 + 1) := ⟨_, rfl⟩
                    replace h := h v3 ev3
                    refine V_iinc 95 5 (v := v3) (lv' := [(5, .int v3), (0, .ref 92), (1, .int x1), (2, .int x2), (3, .int x3), (4, .int x4)]) rfl rfl ((in_1 _).trans ev3.symm) (by decide) rfl ?_
                    refine V_goto 96 (tgt := 66) rfl (by decide) ?_
                    refine V_sub [1, 2, 3, 4, 5, 0] (lv' := [(0, .ref 92), (1, .int x1), (2, .int x2), (3, .int x3), (4, .int x4), (5, .int v3)]) rfl ?_
                    exact k_Bk x1 x2 x3 x4 v3  σ hW h
                  intro x1 x2 x3 x4 x5  σ hW h
                  refine V_iload 41 5 rfl rfl ?_
                  refine V_bipush 42 (v := (8 : Int32)) rfl (by decide) ?_
                  refine V_aload_n 43 0 rfl rfl rfl ?_
                  refine V_get (v := .int (σ.2.1 92 9)) 44 9 rfl clX12 flX12_306 (by decide) (wsh hW rfl) (fun _ => rfl) ?_
                  refine V_imul 45 rfl ?_
                  refine V_icmp_ge 46 (tgt := 161) rfl (by decide) (fun hc => ?_) (fun hc => ?_)
                  · replace h := h.1 hc
                    refine V_sub [0, 1, 2, 3, 4] (lv' := [(0, .ref 92), (1, .int x1), (2, .int x2), (3, .int x3), (4, .int x4)]) rfl ?_
                    exact k_K161 x1 x2 x3 x4  σ hW h
                  · replace h := h.2 hc
                    refine V_pc 78 rfl ?_
                    refine V_bipush 47 (v := (104 : Int32)) rfl (by decide) ?_
                    refine V_bipush 48 (v := (6 : Int32)) rfl (by decide) ?_
                    refine V_iload_n 49 3 rfl rfl rfl ?_
                    refine V_imul 50 rfl ?_
                    refine V_iload 51 4 rfl rfl ?_
                    refine V_iadd 52 rfl ?_
                    refine V_pc 87 rfl ?_
                    refine V_imul 53 rfl ?_
                    refine V_iload 54 5 rfl rfl ?_
                    refine V_iadd 55 rfl ?_
                    refine V_topi (fun v4 ev4 => ?_)
                    replace h := h v4 ev4
                    refine V_istore 56 (lv' := [(6, .int v4), (0, .ref 92), (1, .int x1), (2, .int x2), (3, .int x3), (4, .int x4), (5, .int x5)]) rfl (by decide) rfl ?_
                    refine V_aload_n 57 1 rfl rfl rfl ?_
                    refine V_getR 58 38 rfl clX12 flX12_99 (by decide) (wsh hW rfl) (fun _ => rfl) (wrf hW 123 rfl) ?_
                    refine V_pc 97 rfl ?_
                    refine V_iload 59 0 rfl rfl ?_
                    obtain ⟨hin, h⟩ := h
                    refine V_zald 60 rfl (wsh hW rfl) hin ?_
                    refine V_if_ne 61 (tgt := 155) rfl (by decide) (fun hc => ?_) (fun hc => ?_)
                    · replace h := h.1 hc
                      refine V_sub [1, 2, 3, 4, 5, 6] (lv' := [(0, .ref 92), (1, .int x1), (2, .int x2), (3, .int x3), (4, .int x4), (5, .int x5)]) rfl ?_
                      exact k_j155 x1 x2 x3 x4 x5 σ hW h
                    · replace h := h.2 hc
                      refine V_pc 103 rfl ?_
                      refine V_aload_n 62 1 rfl rfl rfl ?_
                      refine V_iload_n 63 3 rfl rfl rfl ?_
                      refine V_aload_n 64 1 rfl rfl rfl ?_
                      refine V_getR 65 30 rfl clX12 flX12_75 (by decide) (wsh hW rfl) (fun _ => rfl) (wrf hW 115 rfl) ?_
                      refine V_bipush 66 (v := (6 : Int32)) rfl (by decide) ?_
                      refine V_iload_n 67 3 rfl rfl rfl ?_
                      refine V_pc 112 rfl ?_
                      refine V_imul 68 rfl ?_
                      refine V_iload 69 5 rfl rfl ?_
                      refine V_iadd 70 rfl ?_
                      obtain ⟨hin, h⟩ := h
                      refine V_iald 71 rfl (wsh hW rfl) hin ?_
                      refine V_aload_n 72 1 rfl rfl rfl ?_
                      refine V_getR 73 31 rfl clX12 flX12_78 (by decide) (wsh hW rfl) (fun _ => rfl) (wrf hW 116 rfl) ?_
                      refine V_pc 121 rfl ?_
                      refine V_bipush 74 (v := (6 : Int32)) rfl (by decide) ?_
                      refine V_iload_n 75 3 rfl rfl rfl ?_
                      refine V_imul 76 rfl ?_
                      refine V_iload 77 5 rfl rfl ?_
                      refine V_iadd 78 rfl ?_
                      obtain ⟨hin, h⟩ := h
                      refine V_iald 79 rfl (wsh hW rfl) hin ?_
                      refine V_pc 129 rfl ?_
                      refine V_iload 80 6 rfl rfl ?_
                      refine V_bipush 81 (v := (8 : Int32)) rfl (by decide) ?_
                      refine V_idiv 82 rfl (by decide) ?_
                      refine V_iload 83 6 rfl rfl ?_
                      refine V_bipush 84 (v := (8 : Int32)) rfl (by decide) ?_
                      refine V_irem 85 rfl (by decide) ?_
                      refine V_pc 139 rfl ?_
                      refine V_callV 86 5 (as := [.int x2, .int (σ.2.1 114 (((6 : Int32) * x2) + x4).toNatClampNeg), .int (σ.2.1 115 (((6 : Int32) * x2) + x4).toNatClampNeg), .int (x5 / (8 : Int32)), .int (x5 - x5 / (8 : Int32) * (8 : Int32))]) (rest := []) rfl mlX12_463 yvX12_anyDefining rfl rfl clX12 (wsh hW rfl) (by decide) (by decide) (Nat.le_of_ble_eq_true rfl) (by decide) (by decide) (fun B9 => ceX12_anyDefining hl B9 hW h) (fun X9 τ9 h9 => VX_out rfl h9) ?_
                      rintro v9 σ5 ⟨hW, u6, rfl, h⟩
                      refine V_if_eq 87 (tgt := 155) rfl (by decide) (fun hc => ?_) (fun hc => ?_)
                      · replace h := h.1 hc
                        refine V_sub [1, 2, 3, 4, 5, 6] (lv' := [(0, .ref 92), (1, .int x1), (2, .int x2), (3, .int x3), (4, .int x4), (5, .int x5)]) rfl ?_
                        exact k_j155 x1 x2 x3 x4 x5 σ5 hW h
                      · replace h := h.2 hc
                        refine V_pc 145 rfl ?_
                        refine V_aload_n 88 1 rfl rfl rfl ?_
                        refine V_getR 89 38 rfl clX12 flX12_99 (by decide) (wsh hW rfl) (fun _ => rfl) (wrf hW 123 rfl) ?_
                        refine V_iload 90 0 rfl rfl ?_
                        refine V_iconst 91 (v := (1 : Int32)) rfl (by decide) ?_
                        obtain ⟨hin, h⟩ := h
                        refine V_zast 92 rfl (wsh hW rfl) hin ?_
                        refine V_nm (fun σ7 eσ7 => ?_)
                        replace h := h σ7 eσ7
                        have hW := wire_I eσ7 hW
                        refine V_iconst 93 (v := (1 : Int32)) rfl (by decide) ?_
                        refine V_pc 154 rfl ?_
                        refine V_istore_n 94 (lv' := [(1, .int (1 : Int32)), (6, .int v4), (0, .ref 92), (2, .int x2), (3, .int x3), (4, .int x4), (5, .int x5)]) rfl rfl (by decide) rfl ?_
                        refine V_sub [2, 0, 3, 4, 5, 6] (lv' := [(0, .ref 92), (1, .int (1 : Int32)), (2, .int x2), (3, .int x3), (4, .int x4), (5, .int x5)]) rfl ?_
                        exact k_j155 (1 : Int32) x2 x3 x4 x5 σ7 hW h
                intro n
                induction n with
                | zero => intro x1 x2 x3 x4 x5  σ hW h; exact absurd h id
                | succ n ih => exact step _ k_j161 _ ih
              intro x1 x2 x3 x4  σ hW h
              refine V_iload 33 4 rfl rfl ?_
              refine V_aload_n 34 0 rfl rfl rfl ?_
              refine V_getR 35 27 rfl clX12 flX12_69 (by decide) (wsh hW rfl) (fun _ => rfl) (wrf hW 113 rfl) ?_
              refine V_iload_n 36 3 rfl rfl rfl ?_
              obtain ⟨hin, h⟩ := h
              refine V_iald 37 rfl (wsh hW rfl) hin ?_
              refine V_icmp_gt 38 (tgt := 167) rfl (by decide) (fun hc => ?_) (fun hc => ?_)
              · replace h := h.1 hc
                refine V_sub [0, 1, 2] (lv' := [(0, .ref 92), (1, .int x1), (2, .int x2)]) rfl ?_
                exact k_K167 x1 x2  σ hW h
              · replace h := h.2 hc
                refine V_pc 63 rfl ?_
                refine V_iconst 39 (v := (0 : Int32)) rfl (by decide) ?_
                refine V_istore 40 (lv' := [(5, .int (0 : Int32)), (0, .ref 92), (1, .int x1), (2, .int x2), (3, .int x3), (4, .int x4)]) rfl (by decide) rfl ?_
                refine V_sub [1, 2, 3, 4, 5, 0] (lv' := [(0, .ref 92), (1, .int x1), (2, .int x2), (3, .int x3), (4, .int x4), (5, .int (0 : Int32))]) rfl ?_
                obtain ⟨n, h⟩ := h
                exact k_l66 n x1 x2 x3 x4 (0 : Int32) σ hW h
            intro n
            induction n with
            | zero => intro x1 x2 x3 x4  σ hW h; exact absurd h id
            | succ n ih => exact step _ k_j167 _ ih
          intro x1 x2  σ hW h
          refine V_iload_n 20 2 rfl rfl rfl ?_
          refine V_aload_n 21 0 rfl rfl rfl ?_
          refine V_get (v := .int (σ.2.1 92 14)) 22 14 rfl clX12 flX12_316 (by decide) (wsh hW rfl) (fun _ => rfl) ?_
          refine V_icmp_ge 23 (tgt := 173) rfl (by decide) (fun hc => ?_) (fun hc => ?_)
          · replace h := h.1 hc
            refine V_sub [0, 1] (lv' := [(0, .ref 92), (1, .int x1)]) rfl ?_
            exact k_K173 x1  σ hW h
          · replace h := h.2 hc
            refine V_pc 40 rfl ?_
            refine V_aload_n 24 0 rfl rfl rfl ?_
            refine V_getR 25 18 rfl clX12 flX12_45 (by decide) (wsh hW rfl) (fun _ => rfl) (wrf hW 105 rfl) ?_
            refine V_iconst 26 (v := (4 : Int32)) rfl (by decide) ?_
            refine V_iload_n 27 2 rfl rfl rfl ?_
            refine V_imul 28 rfl ?_
            obtain ⟨hin, h⟩ := h
            refine V_iald 29 rfl (wsh hW rfl) hin ?_
            refine V_pc 48 rfl ?_
            refine V_topi (fun v8 ev8 => ?_)
            replace h := h v8 ev8
            refine V_istore_n 30 (lv' := [(3, .int v8), (0, .ref 92), (1, .int x1), (2, .int x2)]) rfl rfl (by decide) rfl ?_
            refine V_iconst 31 (v := (1 : Int32)) rfl (by decide) ?_
            refine V_istore 32 (lv' := [(4, .int (1 : Int32)), (3, .int v8), (0, .ref 92), (1, .int x1), (2, .int x2)]) rfl (by decide) rfl ?_
            refine V_sub [2, 3, 4, 1, 0] (lv' := [(0, .ref 92), (1, .int x1), (2, .int x2), (3, .int v8), (4, .int (1 : Int32))]) rfl ?_
            obtain ⟨n, h⟩ := h
            exact k_l52 n x1 x2 v8 (1 : Int32) σ hW h
        intro n
        induction n with
        | zero => intro x1 x2  σ hW h; exact absurd h id
        | succ n ih => exact step _ k_j173 _ ih
      intro x1  σ hW h
      refine V_iload_n 14 1 rfl rfl rfl ?_
      refine V_if_eq 15 (tgt := 176) rfl (by decide) (fun hc => ?_) (fun hc => ?_)
      · replace h := h.1 hc
        exact V_vret 102 rfl rfl ⟨hW, rfl, h⟩
      · replace h := h.2 hc
        refine V_pc 28 rfl ?_
        refine V_iconst 16 (v := (0 : Int32)) rfl (by decide) ?_
        refine V_istore_n 17 (lv' := [(1, .int (0 : Int32)), (0, .ref 92)]) rfl rfl (by decide) rfl ?_
        refine V_iconst 18 (v := (0 : Int32)) rfl (by decide) ?_
        refine V_istore_n 19 (lv' := [(2, .int (0 : Int32)), (1, .int (0 : Int32)), (0, .ref 92)]) rfl rfl (by decide) rfl ?_
        refine V_sub [2, 1, 0] (lv' := [(0, .ref 92), (1, .int (0 : Int32)), (2, .int (0 : Int32))]) rfl ?_
        obtain ⟨n, h⟩ := h
        exact k_l32 n (0 : Int32) (0 : Int32) σ hW h
    intro n
    induction n with
    | zero => intro x1  σ hW h; exact absurd h id
    | succ n ih => exact step  _ ih
  have k_j22 : ∀   (σ : ab_S), Wire σ → wX12_findDefines_j22 Q E  σ → V l mdX12_findDefines B 3 76 0 0 (ab_End (fun v σ' => Wire σ' ∧ v = none ∧ Q σ') (fun X σ' => Wire σ' ∧ E X σ')) 22 [(0, .ref 92)] [] σ := by
    intro   σ hW h
    refine V_iconst 12 (v := (1 : Int32)) rfl (by decide) ?_
    refine V_istore_n 13 (lv' := [(1, .int (1 : Int32)), (0, .ref 92)]) rfl rfl (by decide) rfl ?_
    refine V_sub [1, 0] (lv' := [(0, .ref 92), (1, .int (1 : Int32))]) rfl ?_
    obtain ⟨n, h⟩ := h
    exact k_l24 n (1 : Int32) σ hW h
  have k_l2 : ∀ (n : Nat) (x1 : Int32)  (σ : ab_S), Wire σ → wX12_findDefines_l2 Q E (wX12_findDefines_j22 Q E) n x1 σ → V l mdX12_findDefines B 3 76 0 0 (ab_End (fun v σ' => Wire σ' ∧ v = none ∧ Q σ') (fun X σ' => Wire σ' ∧ E X σ')) 2 [(0, .ref 92), (1, .int x1)] [] σ := by
    have step : ∀ (K22 : ab_S → Prop) (k_K22 : ∀   (σ : ab_S), Wire σ → K22  σ → V l mdX12_findDefines B 3 76 0 0 (ab_End (fun v σ' => Wire σ' ∧ v = none ∧ Q σ') (fun X σ' => Wire σ' ∧ E X σ')) 22 [(0, .ref 92)] [] σ), ∀ (Bk : Int32 → ab_S → Prop) (k_Bk : ∀ (x1 : Int32)  (σ : ab_S), Wire σ → Bk x1 σ → V l mdX12_findDefines B 3 76 0 0 (ab_End (fun v σ' => Wire σ' ∧ v = none ∧ Q σ') (fun X σ' => Wire σ' ∧ E X σ')) 2 [(0, .ref 92), (1, .int x1)] [] σ), ∀ (x1 : Int32)  (σ : ab_S), Wire σ → wX12_findDefines_l2_b Q E K22 Bk x1 σ → V l mdX12_findDefines B 3 76 0 0 (ab_End (fun v σ' => Wire σ' ∧ v = none ∧ Q σ') (fun X σ' => Wire σ' ∧ E X σ')) 2 [(0, .ref 92), (1, .int x1)] [] σ := by
      intro K22 k_K22 Bk k_Bk
      intro x1  σ hW h
      refine V_iload_n 2 1 rfl rfl rfl ?_
      refine V_sipush 3 (v := (8112 : Int32)) rfl (by decide) ?_
      refine V_icmp_ge 4 (tgt := 22) rfl (by decide) (fun hc => ?_) (fun hc => ?_)
      · replace h := h.1 hc
        refine V_sub [0] (lv' := [(0, .ref 92)]) rfl ?_
        exact k_K22  σ hW h
      · replace h := h.2 hc
        refine V_pc 9 rfl ?_
        refine V_aload_n 5 0 rfl rfl rfl ?_
        refine V_getR 6 38 rfl clX12 flX12_99 (by decide) (wsh hW rfl) (fun _ => rfl) (wrf hW 123 rfl) ?_
        refine V_iload_n 7 1 rfl rfl rfl ?_
        refine V_iconst 8 (v := (0 : Int32)) rfl (by decide) ?_
        obtain ⟨hin, h⟩ := h
        refine V_zast 9 rfl (wsh hW rfl) hin ?_
        refine V_nm (fun σ9 eσ9 => ?_)
        replace h := h σ9 eσ9
        have hW := wire_I eσ9 hW
        obtain ⟨v10, ev10⟩ : ∃ z : Int32, z = (x1 + 1) := ⟨_, rfl⟩
        replace h := h v10 ev10
        refine V_iinc 10 1 (v := v10) (lv' := [(1, .int v10), (0, .ref 92)]) rfl rfl ((in_1 _).trans ev10.symm) (by decide) rfl ?_
        refine V_pc 19 rfl ?_
        refine V_goto 11 (tgt := 2) rfl (by decide) ?_
        refine V_sub [1, 0] (lv' := [(0, .ref 92), (1, .int v10)]) rfl ?_
        exact k_Bk v10  σ9 hW h
    intro n
    induction n with
    | zero => intro x1  σ hW h; exact absurd h id
    | succ n ih => exact step _ k_j22 _ ih
  intro σ hW h
  refine V_iconst 0 (v := (0 : Int32)) rfl (by decide) ?_
  refine V_istore_n 1 (lv' := [(1, .int (0 : Int32)), (0, .ref 92)]) rfl rfl (by decide) rfl ?_
  refine V_sub [1, 0] (lv' := [(0, .ref 92), (1, .int (0 : Int32))]) rfl ?_
  obtain ⟨n, h⟩ := h
  exact k_l2 n (0 : Int32) σ hW h
