def wX4_makeAll_j140 (a0 : Int32) (Q : ab_S → Prop) (E : String → ab_S → Prop) (x2 : Int32) (σ : ab_S) : Prop := ∃ q1, σ.2.2.2 11 7 = some q1 ∧ isG q1 ∧ (vp_in x2 12 ∧ (vp_in (((a0 * (7 : Int32)) + (σ.2.1 (q1 + 17) x2.toNatClampNeg)) + (1 : Int32)) 210 ∧ (∀ σ2 : ab_S, σ2 = ab_I σ 15 (((a0 * (7 : Int32)) + (σ.2.1 (q1 + 17) x2.toNatClampNeg)) + (1 : Int32)).toNatClampNeg (σ.2.1 11 8) → Q σ2)))
def wX4_makeAll_j134 (a0 : Int32) (Q : ab_S → Prop) (E : String → ab_S → Prop) (K140 : Int32 → ab_S → Prop) (Bk : Int32 → Int32 → ab_S → Prop) (x2 : Int32) (x3 : Int32) (σ : ab_S) : Prop := ∀ v3 : Int32, v3 = (x3 + 1) → Bk x2 v3 σ
def wX4_makeAll_j126 (a0 : Int32) (Q : ab_S → Prop) (E : String → ab_S → Prop) (K134 : Int32 → Int32 → ab_S → Prop) (Bk : Int32 → Int32 → Int32 → Int32 → ab_S → Prop) (x2 : Int32) (x3 : Int32) (x5 : Int32) (y0 : Int32) (σ : ab_S) : Prop := ∀ v4 : Int32, v4 = (x5 + 1) → Bk x2 x3 y0 v4 σ
def wX4_makeAll_l82_b (a0 : Int32) (Q : ab_S → Prop) (E : String → ab_S → Prop) (K134 : Int32 → Int32 → ab_S → Prop) (Bk : Int32 → Int32 → Int32 → Int32 → ab_S → Prop) (x2 : Int32) (x3 : Int32) (x4 : Int32) (x5 : Int32) (σ : ab_S) : Prop := ((x4 = 0) → K134 x2 x3 σ) ∧ (¬ (x4 = 0) → (((47 : Int32) < x5) → K134 x2 x3 σ) ∧ (¬ ((47 : Int32) < x5) → ∀ v5 : Int32, v5 = (σ.2.1 11 8) → wX4_evaluateReady a0 x3 (fun σ6 => wX4_visitReady a0 x3 (fun σ7 => (((σ7.2.1 11 8) ≤ v5) → wX4_makeAll_j126 a0 Q E K134 Bk x2 x3 x5 (0 : Int32) σ7) ∧ (¬ ((σ7.2.1 11 8) ≤ v5) → wX4_makeAll_j126 a0 Q E K134 Bk x2 x3 x5 (1 : Int32) σ7)) E σ6) E σ))
def wX4_makeAll_l82 (a0 : Int32) (Q : ab_S → Prop) (E : String → ab_S → Prop) (K134 : Int32 → Int32 → ab_S → Prop) : Nat → Int32 → Int32 → Int32 → Int32 → ab_S → Prop
  | 0, _, _, _, _, _ => False
  | n + 1, x2, x3, x4, x5, σ => wX4_makeAll_l82_b a0 Q E K134 (wX4_makeAll_l82 a0 Q E K134 n) x2 x3 x4 x5 σ
def wX4_makeAll_l30_b (a0 : Int32) (Q : ab_S → Prop) (E : String → ab_S → Prop) (K140 : Int32 → ab_S → Prop) (Bk : Int32 → Int32 → ab_S → Prop) (x2 : Int32) (x3 : Int32) (σ : ab_S) : Prop := ∃ q8, σ.2.2.2 11 7 = some q8 ∧ isG q8 ∧ (vp_in x2 12 ∧ ((((σ.2.1 (q8 + 17) x2.toNatClampNeg) < x3) → K140 x2 σ) ∧ (¬ ((σ.2.1 (q8 + 17) x2.toNatClampNeg) < x3) → vp_in ((a0 * (7 : Int32)) + x3) 210 ∧ (∀ σ9 : ab_S, σ9 = ab_I σ 15 ((a0 * (7 : Int32)) + x3).toNatClampNeg (σ.2.1 11 8) → ∃ q10, σ9.2.2.2 11 7 = some q10 ∧ isG q10 ∧ (wX0_downs q10 x2 x3 (fun u12 σ11 => (∀ σ13 : ab_S, σ13 = ab_I σ11 11 9 ((σ9.2.1 11 9) ||| u12) → ∃ n, wX4_makeAll_l82 a0 Q E (wX4_makeAll_j134 a0 Q E K140 Bk) n x2 x3 (1 : Int32) (0 : Int32) σ13)) E σ9)))))
def wX4_makeAll_l30 (a0 : Int32) (Q : ab_S → Prop) (E : String → ab_S → Prop) (K140 : Int32 → ab_S → Prop) : Nat → Int32 → Int32 → ab_S → Prop
  | 0, _, _, _ => False
  | n + 1, x2, x3, σ => wX4_makeAll_l30_b a0 Q E K140 (wX4_makeAll_l30 a0 Q E K140 n) x2 x3 σ
def wX4_makeAll (a0 : Int32) (Q : ab_S → Prop) (E : String → ab_S → Prop) (σ : ab_S) : Prop := ∃ q14, σ.2.2.2 11 7 = some q14 ∧ isG q14 ∧ (wX0_symbolAt q14 a0 (0 : Int32) (fun u16 σ15 => (∀ σ17 : ab_S, σ17 = ab_I σ15 11 9 (0 : Int32) → (∀ σ18 : ab_S, σ18 = ab_I σ17 11 10 (0 : Int32) → wJ7_fill_53178 18 4 (0 : Int32) (fun σ19 => ∃ n, wX4_makeAll_l30 a0 Q E (wX4_makeAll_j140 a0 Q E) n u16 (1 : Int32) σ19) E σ18))) E σ)
set_option maxHeartbeats 4000000 in
set_option maxRecDepth 100000 in
theorem ceX4_makeAll {l : Launch} (hl : l.stackTraces = false) (B : Nat) {a0 : Int32}  {Q : ab_S → Prop} {E : String → ab_S → Prop} {σ : ab_S} (hW : Wire σ) (h : wX4_makeAll a0 Q E σ) : ab_Mt l yX4_makeAll mdX4_makeAll B 4 94 0 0 [.ref 11, .int a0] σ (fun v σ' => Wire σ' ∧ v = none ∧ Q σ') (fun X σ' => Wire σ' ∧ E X σ') := by
  refine V_met hl ⟨rfl, rfl, by decide⟩ rfl dkX4_makeAll (Nat.le_of_ble_eq_true rfl) ?_
  show V l mdX4_makeAll B 4 94 0 0 (ab_End _ _) 0 [(0, .ref 11), (1, .int a0)] [] σ
  revert h hW
  revert σ
  have k_j140 : ∀ (x2 : Int32)  (σ : ab_S), Wire σ → wX4_makeAll_j140 a0 Q E x2 σ → V l mdX4_makeAll B 4 94 0 0 (ab_End (fun v σ' => Wire σ' ∧ v = none ∧ Q σ') (fun X σ' => Wire σ' ∧ E X σ')) 140 [(0, .ref 11), (1, .int a0), (2, .int x2)] [] σ := by
    intro x2  σ hW h
    refine V_aload_n 77 0 rfl rfl rfl ?_
    refine V_getR 78 3 rfl clX4 flX4_21 (by decide) (wsh hW rfl) (fun _ => rfl) (wrf hW 22 rfl) ?_
    refine V_iload_n 79 1 rfl rfl rfl ?_
    refine V_bipush 80 (v := (7 : Int32)) rfl (by decide) ?_
    refine V_imul 81 rfl ?_
    refine V_aload_n 82 0 rfl rfl rfl ?_
    refine V_pc 149 rfl ?_
    obtain ⟨q1, eq1, hq1, h⟩ := h
    refine V_getR 83 7 rfl clX4 flX4_33 (by decide) (wsh hW rfl) (fun _ => rfl) eq1 ?_
    refine V_getR 84 19 rfl clX0 flX4_70 (by decide) (wG hW hq1) (fun _ => rfl) (wG_f19 hW hq1) ?_
    refine V_iload_n 85 2 rfl rfl rfl ?_
    obtain ⟨hin, h⟩ := h
    refine V_iald 86 rfl (wG_a17 hW hq1) hin ?_
    refine V_iadd 87 rfl ?_
    refine V_iconst 88 (v := (1 : Int32)) rfl (by decide) ?_
    refine V_pc 159 rfl ?_
    refine V_iadd 89 rfl ?_
    refine V_aload_n 90 0 rfl rfl rfl ?_
    refine V_get (v := .int (σ.2.1 11 8)) 91 8 rfl clX4 flX4_37 (by decide) (wsh hW rfl) (fun _ => rfl) ?_
    obtain ⟨hin, h⟩ := h
    refine V_iast 92 rfl (wsh hW rfl) hin ?_
    refine V_nm (fun σ2 eσ2 => ?_)
    replace h := h σ2 eσ2
    have hW := wire_I eσ2 hW
    exact V_vret 93 rfl rfl ⟨hW, rfl, h⟩
  have k_l30 : ∀ (n : Nat) (x2 : Int32) (x3 : Int32)  (σ : ab_S), Wire σ → wX4_makeAll_l30 a0 Q E (wX4_makeAll_j140 a0 Q E) n x2 x3 σ → V l mdX4_makeAll B 4 94 0 0 (ab_End (fun v σ' => Wire σ' ∧ v = none ∧ Q σ') (fun X σ' => Wire σ' ∧ E X σ')) 30 [(0, .ref 11), (1, .int a0), (2, .int x2), (3, .int x3)] [] σ := by
    have step : ∀ (K140 : Int32 → ab_S → Prop) (k_K140 : ∀ (x2 : Int32)  (σ : ab_S), Wire σ → K140 x2 σ → V l mdX4_makeAll B 4 94 0 0 (ab_End (fun v σ' => Wire σ' ∧ v = none ∧ Q σ') (fun X σ' => Wire σ' ∧ E X σ')) 140 [(0, .ref 11), (1, .int a0), (2, .int x2)] [] σ), ∀ (Bk : Int32 → Int32 → ab_S → Prop) (k_Bk : ∀ (x2 : Int32) (x3 : Int32)  (σ : ab_S), Wire σ → Bk x2 x3 σ → V l mdX4_makeAll B 4 94 0 0 (ab_End (fun v σ' => Wire σ' ∧ v = none ∧ Q σ') (fun X σ' => Wire σ' ∧ E X σ')) 30 [(0, .ref 11), (1, .int a0), (2, .int x2), (3, .int x3)] [] σ), ∀ (x2 : Int32) (x3 : Int32)  (σ : ab_S), Wire σ → wX4_makeAll_l30_b a0 Q E K140 Bk x2 x3 σ → V l mdX4_makeAll B 4 94 0 0 (ab_End (fun v σ' => Wire σ' ∧ v = none ∧ Q σ') (fun X σ' => Wire σ' ∧ E X σ')) 30 [(0, .ref 11), (1, .int a0), (2, .int x2), (3, .int x3)] [] σ := by
      intro K140 k_K140 Bk k_Bk
      have k_j134 : ∀ (x2 : Int32) (x3 : Int32)  (σ : ab_S), Wire σ → wX4_makeAll_j134 a0 Q E K140 Bk x2 x3 σ → V l mdX4_makeAll B 4 94 0 0 (ab_End (fun v σ' => Wire σ' ∧ v = none ∧ Q σ') (fun X σ' => Wire σ' ∧ E X σ')) 134 [(0, .ref 11), (1, .int a0), (2, .int x2), (3, .int x3)] [] σ := by
        intro x2 x3  σ hW h
        obtain ⟨v3, ev3⟩ : ∃ z : Int32, z = (x3 + 1) := ⟨_, rfl⟩
        replace h := h v3 ev3
        refine V_iinc 75 3 (v := v3) (lv' := [(3, .int v3), (0, .ref 11), (1, .int a0), (2, .int x2)]) rfl rfl ((in_1 _).trans ev3.symm) (by decide) rfl ?_
        refine V_goto 76 (tgt := 30) rfl (by decide) ?_
        refine V_sub [1, 2, 3, 0] (lv' := [(0, .ref 11), (1, .int a0), (2, .int x2), (3, .int v3)]) rfl ?_
        exact k_Bk x2 v3  σ hW h
      have k_l82 : ∀ (n : Nat) (x2 : Int32) (x3 : Int32) (x4 : Int32) (x5 : Int32)  (σ : ab_S), Wire σ → wX4_makeAll_l82 a0 Q E (wX4_makeAll_j134 a0 Q E K140 Bk) n x2 x3 x4 x5 σ → V l mdX4_makeAll B 4 94 0 0 (ab_End (fun v σ' => Wire σ' ∧ v = none ∧ Q σ') (fun X σ' => Wire σ' ∧ E X σ')) 82 [(0, .ref 11), (1, .int a0), (2, .int x2), (3, .int x3), (4, .int x4), (5, .int x5)] [] σ := by
        have step : ∀ (K134 : Int32 → Int32 → ab_S → Prop) (k_K134 : ∀ (x2 : Int32) (x3 : Int32)  (σ : ab_S), Wire σ → K134 x2 x3 σ → V l mdX4_makeAll B 4 94 0 0 (ab_End (fun v σ' => Wire σ' ∧ v = none ∧ Q σ') (fun X σ' => Wire σ' ∧ E X σ')) 134 [(0, .ref 11), (1, .int a0), (2, .int x2), (3, .int x3)] [] σ), ∀ (Bk : Int32 → Int32 → Int32 → Int32 → ab_S → Prop) (k_Bk : ∀ (x2 : Int32) (x3 : Int32) (x4 : Int32) (x5 : Int32)  (σ : ab_S), Wire σ → Bk x2 x3 x4 x5 σ → V l mdX4_makeAll B 4 94 0 0 (ab_End (fun v σ' => Wire σ' ∧ v = none ∧ Q σ') (fun X σ' => Wire σ' ∧ E X σ')) 82 [(0, .ref 11), (1, .int a0), (2, .int x2), (3, .int x3), (4, .int x4), (5, .int x5)] [] σ), ∀ (x2 : Int32) (x3 : Int32) (x4 : Int32) (x5 : Int32)  (σ : ab_S), Wire σ → wX4_makeAll_l82_b a0 Q E K134 Bk x2 x3 x4 x5 σ → V l mdX4_makeAll B 4 94 0 0 (ab_End (fun v σ' => Wire σ' ∧ v = none ∧ Q σ') (fun X σ' => Wire σ' ∧ E X σ')) 82 [(0, .ref 11), (1, .int a0), (2, .int x2), (3, .int x3), (4, .int x4), (5, .int x5)] [] σ := by
          intro K134 k_K134 Bk k_Bk
          have k_j126 : ∀ (x2 : Int32) (x3 : Int32) (x5 : Int32) (y0 : Int32)  (σ : ab_S), Wire σ → wX4_makeAll_j126 a0 Q E K134 Bk x2 x3 x5 y0 σ → V l mdX4_makeAll B 4 94 0 0 (ab_End (fun v σ' => Wire σ' ∧ v = none ∧ Q σ') (fun X σ' => Wire σ' ∧ E X σ')) 126 [(0, .ref 11), (1, .int a0), (2, .int x2), (3, .int x3), (5, .int x5)] [.int y0] σ := by
            intro x2 x3 x5 y0  σ hW h
            refine V_istore 72 (lv' := [(4, .int y0), (0, .ref 11), (1, .int a0), (2, .int x2), (3, .int x3), (5, .int x5)]) rfl (by decide) rfl ?_
            obtain ⟨v4, ev4⟩ : ∃ z : Int32, z = (x5 + 1) := ⟨_, rfl⟩
            replace h := h v4 ev4
            refine V_iinc 73 5 (v := v4) (lv' := [(5, .int v4), (4, .int y0), (0, .ref 11), (1, .int a0), (2, .int x2), (3, .int x3)]) rfl rfl ((in_1 _).trans ev4.symm) (by decide) rfl ?_
            refine V_goto 74 (tgt := 82) rfl (by decide) ?_
            refine V_sub [2, 3, 4, 5, 1, 0] (lv' := [(0, .ref 11), (1, .int a0), (2, .int x2), (3, .int x3), (4, .int y0), (5, .int v4)]) rfl ?_
            exact k_Bk x2 x3 y0 v4  σ hW h
          intro x2 x3 x4 x5  σ hW h
          refine V_iload 49 4 rfl rfl ?_
          refine V_if_eq 50 (tgt := 134) rfl (by decide) (fun hc => ?_) (fun hc => ?_)
          · replace h := h.1 hc
            refine V_sub [0, 1, 2, 3] (lv' := [(0, .ref 11), (1, .int a0), (2, .int x2), (3, .int x3)]) rfl ?_
            exact k_K134 x2 x3  σ hW h
          · replace h := h.2 hc
            refine V_pc 87 rfl ?_
            refine V_iload 51 5 rfl rfl ?_
            refine V_bipush 52 (v := (47 : Int32)) rfl (by decide) ?_
            refine V_icmp_gt 53 (tgt := 134) rfl (by decide) (fun hc => ?_) (fun hc => ?_)
            · replace h := h.1 hc
              refine V_sub [0, 1, 2, 3] (lv' := [(0, .ref 11), (1, .int a0), (2, .int x2), (3, .int x3)]) rfl ?_
              exact k_K134 x2 x3  σ hW h
            · replace h := h.2 hc
              refine V_pc 94 rfl ?_
              refine V_aload_n 54 0 rfl rfl rfl ?_
              refine V_get (v := .int (σ.2.1 11 8)) 55 8 rfl clX4 flX4_37 (by decide) (wsh hW rfl) (fun _ => rfl) ?_
              refine V_topi (fun v5 ev5 => ?_)
              replace h := h v5 ev5
              refine V_istore 56 (lv' := [(6, .int v5), (0, .ref 11), (1, .int a0), (2, .int x2), (3, .int x3), (4, .int x4), (5, .int x5)]) rfl (by decide) rfl ?_
              refine V_aload_n 57 1 rfl rfl rfl ?_
              refine V_iload_n 58 2 rfl rfl rfl ?_
              refine V_iload_n 59 4 rfl rfl rfl ?_
              refine V_pc 103 rfl ?_
              refine V_callV 60 2 (as := [.int a0, .int x3]) (rest := []) rfl mlX4_76 yvX4_evaluateReady rfl rfl clX4 (wsh hW rfl) (by decide) (by decide) (Nat.le_of_ble_eq_true rfl) (by decide) (by decide) (fun B9 => ceX4_evaluateReady hl B9 hW h) (fun X9 τ9 h9 => VX_out rfl h9) ?_
              rintro v9 σ6 ⟨hW, rfl, h⟩
              refine V_aload_n 61 1 rfl rfl rfl ?_
              refine V_iload_n 62 2 rfl rfl rfl ?_
              refine V_iload_n 63 4 rfl rfl rfl ?_
              refine V_callV 64 2 (as := [.int a0, .int x3]) (rest := []) rfl mlX4_80 yvX4_visitReady rfl rfl clX4 (wsh hW rfl) (by decide) (by decide) (Nat.le_of_ble_eq_true rfl) (by decide) (by decide) (fun B9 => ceX4_visitReady hl B9 hW h) (fun X9 τ9 h9 => VX_out rfl h9) ?_
              rintro v9 σ7 ⟨hW, rfl, h⟩
              refine V_aload_n 65 1 rfl rfl rfl ?_
              refine V_get (v := .int (σ7.2.1 11 8)) 66 8 rfl clX4 flX4_37 (by decide) (wsh hW rfl) (fun _ => rfl) ?_
              refine V_iload 67 0 rfl rfl ?_
              refine V_icmp_le 68 (tgt := 125) rfl (by decide) (fun hc => ?_) (fun hc => ?_)
              · replace h := h.1 hc
                refine V_iconst 71 (v := (0 : Int32)) rfl (by decide) ?_
                refine V_sub [1, 2, 3, 4, 6] (lv' := [(0, .ref 11), (1, .int a0), (2, .int x2), (3, .int x3), (5, .int x5)]) rfl ?_
                exact k_j126 x2 x3 x5 (0 : Int32) σ7 hW h
              · replace h := h.2 hc
                refine V_pc 121 rfl ?_
                refine V_iconst 69 (v := (1 : Int32)) rfl (by decide) ?_
                refine V_goto 70 (tgt := 126) rfl (by decide) ?_
                refine V_sub [1, 2, 3, 4, 6] (lv' := [(0, .ref 11), (1, .int a0), (2, .int x2), (3, .int x3), (5, .int x5)]) rfl ?_
                exact k_j126 x2 x3 x5 (1 : Int32) σ7 hW h
        intro n
        induction n with
        | zero => intro x2 x3 x4 x5  σ hW h; exact absurd h id
        | succ n ih => exact step _ k_j134 _ ih
      intro x2 x3  σ hW h
      refine V_iload_n 18 3 rfl rfl rfl ?_
      refine V_aload_n 19 0 rfl rfl rfl ?_
      obtain ⟨q8, eq8, hq8, h⟩ := h
      refine V_getR 20 7 rfl clX4 flX4_33 (by decide) (wsh hW rfl) (fun _ => rfl) eq8 ?_
      refine V_getR 21 19 rfl clX0 flX4_70 (by decide) (wG hW hq8) (fun _ => rfl) (wG_f19 hW hq8) ?_
      refine V_iload_n 22 2 rfl rfl rfl ?_
      obtain ⟨hin, h⟩ := h
      refine V_iald 23 rfl (wG_a17 hW hq8) hin ?_
      refine V_pc 40 rfl ?_
      refine V_icmp_gt 24 (tgt := 140) rfl (by decide) (fun hc => ?_) (fun hc => ?_)
      · replace h := h.1 hc
        refine V_sub [0, 1, 2] (lv' := [(0, .ref 11), (1, .int a0), (2, .int x2)]) rfl ?_
        exact k_K140 x2  σ hW h
      · replace h := h.2 hc
        refine V_pc 43 rfl ?_
        refine V_aload_n 25 0 rfl rfl rfl ?_
        refine V_getR 26 3 rfl clX4 flX4_21 (by decide) (wsh hW rfl) (fun _ => rfl) (wrf hW 22 rfl) ?_
        refine V_iload_n 27 1 rfl rfl rfl ?_
        refine V_bipush 28 (v := (7 : Int32)) rfl (by decide) ?_
        refine V_imul 29 rfl ?_
        refine V_iload_n 30 3 rfl rfl rfl ?_
        refine V_pc 52 rfl ?_
        refine V_iadd 31 rfl ?_
        refine V_aload_n 32 0 rfl rfl rfl ?_
        refine V_get (v := .int (σ.2.1 11 8)) 33 8 rfl clX4 flX4_37 (by decide) (wsh hW rfl) (fun _ => rfl) ?_
        obtain ⟨hin, h⟩ := h
        refine V_iast 34 rfl (wsh hW rfl) hin ?_
        refine V_nm (fun σ9 eσ9 => ?_)
        replace h := h σ9 eσ9
        have hW := wire_I eσ9 hW
        refine V_aload_n 35 0 rfl rfl rfl ?_
        refine V_dup 36 rfl rfl ?_
        refine V_pc 60 rfl ?_
        refine V_get (v := .int (σ9.2.1 11 9)) 37 9 rfl clX4 flX4_58 (by decide) (wsh hW rfl) (fun _ => rfl) ?_
        refine V_aload_n 38 0 rfl rfl rfl ?_
        obtain ⟨q10, eq10, hq10, h⟩ := h
        refine V_getR 39 7 rfl clX4 flX4_33 (by decide) (wsh hW rfl) (fun _ => rfl) eq10 ?_
        refine V_iload_n 40 2 rfl rfl rfl ?_
        refine V_iload_n 41 3 rfl rfl rfl ?_
        refine V_callV 42 2 (as := [.int x2, .int x3]) (rest := [.int (σ9.2.1 11 9), .ref 11]) rfl mlX4_73 yvX0_downs rfl rfl clX0 (wG hW hq10) (by decide) (by decide) (Nat.le_of_ble_eq_true rfl) (by decide) (by decide) (fun B9 => ceX0_downs hl B9 hq10 hW h) (fun X9 τ9 h9 => VX_out rfl h9) ?_
        rintro v9 σ11 ⟨hW, u12, rfl, h⟩
        refine V_ior 43 rfl ?_
        refine V_putI 44 9 rfl clX4 flX4_58 (by decide) (wsh hW rfl) rfl (fun _ _ => rfl) rfl rfl ?_
        refine V_nm (fun σ13 eσ13 => ?_)
        replace h := h σ13 eσ13
        have hW := wire_I eσ13 hW
        refine V_iconst 45 (v := (1 : Int32)) rfl (by decide) ?_
        refine V_istore 46 (lv' := [(4, .int (1 : Int32)), (0, .ref 11), (1, .int a0), (2, .int x2), (3, .int x3)]) rfl (by decide) rfl ?_
        refine V_iconst 47 (v := (0 : Int32)) rfl (by decide) ?_
        refine V_istore 48 (lv' := [(5, .int (0 : Int32)), (4, .int (1 : Int32)), (0, .ref 11), (1, .int a0), (2, .int x2), (3, .int x3)]) rfl (by decide) rfl ?_
        refine V_sub [2, 3, 4, 5, 1, 0] (lv' := [(0, .ref 11), (1, .int a0), (2, .int x2), (3, .int x3), (4, .int (1 : Int32)), (5, .int (0 : Int32))]) rfl ?_
        obtain ⟨n, h⟩ := h
        exact k_l82 n x2 x3 (1 : Int32) (0 : Int32) σ13 hW h
    intro n
    induction n with
    | zero => intro x2 x3  σ hW h; exact absurd h id
    | succ n ih => exact step _ k_j140 _ ih
  intro σ hW h
  refine V_aload_n 0 0 rfl rfl rfl ?_
  obtain ⟨q14, eq14, hq14, h⟩ := h
  refine V_getR 1 7 rfl clX4 flX4_33 (by decide) (wsh hW rfl) (fun _ => rfl) eq14 ?_
  refine V_iload_n 2 1 rfl rfl rfl ?_
  refine V_iconst 3 (v := (0 : Int32)) rfl (by decide) ?_
  refine V_callV 4 2 (as := [.int a0, .int (0 : Int32)]) (rest := []) rfl mlX4_54 yvX0_symbolAt rfl rfl clX0 (wG hW hq14) (by decide) (by decide) (Nat.le_of_ble_eq_true rfl) (by decide) (by decide) (fun B9 => ceX0_symbolAt hl B9 hq14 hW h) (fun X9 τ9 h9 => VX_out rfl h9) ?_
  rintro v9 σ15 ⟨hW, u16, rfl, h⟩
  refine V_istore_n 5 (lv' := [(2, .int u16), (0, .ref 11), (1, .int a0)]) rfl rfl (by decide) rfl ?_
  refine V_aload_n 6 1 rfl rfl rfl ?_
  refine V_iconst 7 (v := (0 : Int32)) rfl (by decide) ?_
  refine V_putI 8 9 rfl clX4 flX4_58 (by decide) (wsh hW rfl) rfl (fun _ _ => rfl) rfl rfl ?_
  refine V_nm (fun σ17 eσ17 => ?_)
  replace h := h σ17 eσ17
  have hW := wire_I eσ17 hW
  refine V_aload_n 9 1 rfl rfl rfl ?_
  refine V_iconst 10 (v := (0 : Int32)) rfl (by decide) ?_
  refine V_putI 11 10 rfl clX4 flX4_61 (by decide) (wsh hW rfl) rfl (fun _ _ => rfl) rfl rfl ?_
  refine V_nm (fun σ18 eσ18 => ?_)
  replace h := h σ18 eσ18
  have hW := wire_I eσ18 hW
  refine V_aload_n 12 1 rfl rfl rfl ?_
  refine V_getR 13 6 rfl clX4 flX4_30 (by decide) (wsh hW rfl) (fun _ => rfl) (wrf hW 25 rfl) ?_
  refine V_iconst 14 (v := (0 : Int32)) rfl (by decide) ?_
  refine V_callS 15 2 (as := [.ref 18, .int (0 : Int32)]) (rest := []) rfl mlX4_64 yvJ7_fill_53178 rfl rfl (by decide) (by decide) (Nat.le_of_ble_eq_true rfl) (by decide) (by decide) (fun B9 => ceJ7_fill_53178 hl B9 rfl hW h) (fun X9 τ9 h9 => VX_out rfl h9) ?_
  rintro v9 σ19 ⟨hW, rfl, h⟩
  refine V_iconst 16 (v := (1 : Int32)) rfl (by decide) ?_
  refine V_istore_n 17 (lv' := [(3, .int (1 : Int32)), (2, .int u16), (0, .ref 11), (1, .int a0)]) rfl rfl (by decide) rfl ?_
  refine V_sub [2, 3, 1, 0] (lv' := [(0, .ref 11), (1, .int a0), (2, .int u16), (3, .int (1 : Int32))]) rfl ?_
  obtain ⟨n, h⟩ := h
  exact k_l30 n u16 (1 : Int32) σ19 hW h

def wX4_make_l12_b (a0 : Nat) (Q : ab_S → Prop) (E : String → ab_S → Prop) (Bk : Int32 → ab_S → Prop) (x2 : Int32) (σ : ab_S) : Prop := (((σ.2.1 a0 5) ≤ x2) → Q σ) ∧ (¬ ((σ.2.1 a0 5) ≤ x2) → wX4_makeAll x2 (fun σ1 => ∀ v2 : Int32, v2 = (x2 + 1) → Bk v2 σ1) E σ)
def wX4_make_l12 (a0 : Nat) (Q : ab_S → Prop) (E : String → ab_S → Prop) : Nat → Int32 → ab_S → Prop
  | 0, _, _ => False
  | n + 1, x2, σ => wX4_make_l12_b a0 Q E (wX4_make_l12 a0 Q E n) x2 σ
def wX4_make (a0 : Nat) (Q : ab_S → Prop) (E : String → ab_S → Prop) (σ : ab_S) : Prop := (∀ σ3 : ab_S, σ3 = ab_R σ 11 7 (some a0) → (∀ σ4 : ab_S, σ4 = ab_I σ3 11 8 (0 : Int32) → ∃ n, wX4_make_l12 a0 Q E n (0 : Int32) σ4))
set_option maxHeartbeats 4000000 in
set_option maxRecDepth 100000 in
theorem ceX4_make {l : Launch} (hl : l.stackTraces = false) (B : Nat) {a0 : Nat} (ha0 : isG a0) {Q : ab_S → Prop} {E : String → ab_S → Prop} {σ : ab_S} (hW : Wire σ) (h : wX4_make a0 Q E σ) : ab_Mt l yX4_make mdX4_make B 5 120 0 0 [.ref 11, .ref a0] σ (fun v σ' => Wire σ' ∧ v = none ∧ Q σ') (fun X σ' => Wire σ' ∧ E X σ') := by
  refine V_met hl ⟨rfl, rfl, by decide⟩ rfl dkX4_make (Nat.le_of_ble_eq_true rfl) ?_
  show V l mdX4_make B 5 120 0 0 (ab_End _ _) 0 [(0, .ref 11), (1, .ref a0)] [] σ
  revert h hW
  revert σ
  have k_l12 : ∀ (n : Nat) (x2 : Int32)  (σ : ab_S), Wire σ → wX4_make_l12 a0 Q E n x2 σ → V l mdX4_make B 5 120 0 0 (ab_End (fun v σ' => Wire σ' ∧ v = none ∧ Q σ') (fun X σ' => Wire σ' ∧ E X σ')) 12 [(0, .ref 11), (1, .ref a0), (2, .int x2)] [] σ := by
    have step : ∀ (Bk : Int32 → ab_S → Prop) (k_Bk : ∀ (x2 : Int32)  (σ : ab_S), Wire σ → Bk x2 σ → V l mdX4_make B 5 120 0 0 (ab_End (fun v σ' => Wire σ' ∧ v = none ∧ Q σ') (fun X σ' => Wire σ' ∧ E X σ')) 12 [(0, .ref 11), (1, .ref a0), (2, .int x2)] [] σ), ∀ (x2 : Int32)  (σ : ab_S), Wire σ → wX4_make_l12_b a0 Q E Bk x2 σ → V l mdX4_make B 5 120 0 0 (ab_End (fun v σ' => Wire σ' ∧ v = none ∧ Q σ') (fun X σ' => Wire σ' ∧ E X σ')) 12 [(0, .ref 11), (1, .ref a0), (2, .int x2)] [] σ := by
      intro Bk k_Bk
      intro x2  σ hW h
      refine V_iload_n 8 2 rfl rfl rfl ?_
      refine V_aload_n 9 1 rfl rfl rfl ?_
      refine V_get (v := .int (σ.2.1 a0 5)) 10 5 rfl clX0 flX4_41 (by decide) (wG hW ha0) (fun _ => rfl) ?_
      refine V_icmp_ge 11 (tgt := 31) rfl (by decide) (fun hc => ?_) (fun hc => ?_)
      · replace h := h.1 hc
        exact V_vret 17 rfl rfl ⟨hW, rfl, h⟩
      · replace h := h.2 hc
        refine V_pc 20 rfl ?_
        refine V_aload_n 12 0 rfl rfl rfl ?_
        refine V_iload_n 13 2 rfl rfl rfl ?_
        refine V_callV 14 1 (as := [.int x2]) (rest := []) rfl mlX4_46 yvX4_makeAll rfl rfl clX4 (wsh hW rfl) (by decide) (by decide) (Nat.le_of_ble_eq_true rfl) (by decide) (by decide) (fun B9 => ceX4_makeAll hl B9 hW h) (fun X9 τ9 h9 => VX_out rfl h9) ?_
        rintro v9 σ1 ⟨hW, rfl, h⟩
        obtain ⟨v2, ev2⟩ : ∃ z : Int32, z = (x2 + 1) := ⟨_, rfl⟩
        replace h := h v2 ev2
        refine V_iinc 15 2 (v := v2) (lv' := [(2, .int v2), (0, .ref 11), (1, .ref a0)]) rfl rfl ((in_1 _).trans ev2.symm) (by decide) rfl ?_
        refine V_goto 16 (tgt := 12) rfl (by decide) ?_
        refine V_sub [1, 2, 0] (lv' := [(0, .ref 11), (1, .ref a0), (2, .int v2)]) rfl ?_
        exact k_Bk v2  σ1 hW h
    intro n
    induction n with
    | zero => intro x2  σ hW h; exact absurd h id
    | succ n ih => exact step  _ ih
  intro σ hW h
  refine V_aload_n 0 0 rfl rfl rfl ?_
  refine V_aload_n 1 1 rfl rfl rfl ?_
  refine V_putR (x := some a0) 2 7 rfl clX4 flX4_33 (by decide) (wsh hW rfl) rfl (fun _ _ => rfl) (fun v9 h9 => by rcases h9 with rfl | ⟨a9, rfl⟩ <;> exact ⟨rfl, rfl⟩) ?_
  refine V_nm (fun σ3 eσ3 => ?_)
  replace h := h σ3 eσ3
  have hW := wire_R eσ3 (by decide +kernel) hW
  refine V_aload_n 3 0 rfl rfl rfl ?_
  refine V_iconst 4 (v := (0 : Int32)) rfl (by decide) ?_
  refine V_putI 5 8 rfl clX4 flX4_37 (by decide) (wsh hW rfl) rfl (fun _ _ => rfl) rfl rfl ?_
  refine V_nm (fun σ4 eσ4 => ?_)
  replace h := h σ4 eσ4
  have hW := wire_I eσ4 hW
  refine V_iconst 6 (v := (0 : Int32)) rfl (by decide) ?_
  refine V_istore_n 7 (lv' := [(2, .int (0 : Int32)), (0, .ref 11), (1, .ref a0)]) rfl rfl (by decide) rfl ?_
  refine V_sub [1, 2, 0] (lv' := [(0, .ref 11), (1, .ref a0), (2, .int (0 : Int32))]) rfl ?_
  obtain ⟨n, h⟩ := h
  exact k_l12 n (0 : Int32) σ4 hW h

def wX4_first (a0 : Int32) (a1 : Int32) (Q : Int32 → ab_S → Prop) (E : String → ab_S → Prop) (σ : ab_S) : Prop := vp_in ((a0 * (7 : Int32)) + a1) 210 ∧ (Q (σ.2.1 15 ((a0 * (7 : Int32)) + a1).toNatClampNeg) σ)
set_option maxHeartbeats 4000000 in
set_option maxRecDepth 100000 in
theorem ceX4_first {l : Launch} (hl : l.stackTraces = false) (B : Nat) {a0 : Int32} {a1 : Int32}  {Q : Int32 → ab_S → Prop} {E : String → ab_S → Prop} {σ : ab_S} (hW : Wire σ) (h : wX4_first a0 a1 Q E σ) : ab_Mt l yX4_first mdX4_first B 0 0 0 0 [.ref 11, .int a0, .int a1] σ (fun v σ' => Wire σ' ∧ ∃ r : Int32, v = some (.int r) ∧ Q r σ') (fun X σ' => Wire σ' ∧ E X σ') := by
  refine V_met hl ⟨rfl, rfl, by decide⟩ rfl dkX4_first (Nat.le_of_ble_eq_true rfl) ?_
  show V l mdX4_first B 0 0 0 0 (ab_End _ _) 0 [(0, .ref 11), (1, .int a0), (2, .int a1)] [] σ
  refine V_aload_n 0 0 rfl rfl rfl ?_
  refine V_getR 1 3 rfl clX4 flX4_21 (by decide) (wsh hW rfl) (fun _ => rfl) (wrf hW 22 rfl) ?_
  refine V_iload_n 2 1 rfl rfl rfl ?_
  refine V_bipush 3 (v := (7 : Int32)) rfl (by decide) ?_
  refine V_imul 4 rfl ?_
  refine V_iload_n 5 2 rfl rfl rfl ?_
  refine V_pc 9 rfl ?_
  refine V_iadd 6 rfl ?_
  obtain ⟨hin, h⟩ := h
  refine V_iald 7 rfl (wsh hW rfl) hin ?_
  exact V_iret 8 rfl rfl ⟨hW, _, rfl, h⟩

def wX4_entryOfRule (a0 : Int32) (a1 : Int32) (Q : Int32 → ab_S → Prop) (E : String → ab_S → Prop) (σ : ab_S) : Prop := vp_in ((a0 * (32 : Int32)) + a1) 960 ∧ (Q (σ.2.1 16 ((a0 * (32 : Int32)) + a1).toNatClampNeg) σ)
set_option maxHeartbeats 4000000 in
set_option maxRecDepth 100000 in
theorem ceX4_entryOfRule {l : Launch} (hl : l.stackTraces = false) (B : Nat) {a0 : Int32} {a1 : Int32}  {Q : Int32 → ab_S → Prop} {E : String → ab_S → Prop} {σ : ab_S} (hW : Wire σ) (h : wX4_entryOfRule a0 a1 Q E σ) : ab_Mt l yX4_entryOfRule mdX4_entryOfRule B 0 0 0 0 [.ref 11, .int a0, .int a1] σ (fun v σ' => Wire σ' ∧ ∃ r : Int32, v = some (.int r) ∧ Q r σ') (fun X σ' => Wire σ' ∧ E X σ') := by
  refine V_met hl ⟨rfl, rfl, by decide⟩ rfl dkX4_entryOfRule (Nat.le_of_ble_eq_true rfl) ?_
  show V l mdX4_entryOfRule B 0 0 0 0 (ab_End _ _) 0 [(0, .ref 11), (1, .int a0), (2, .int a1)] [] σ
  refine V_aload_n 0 0 rfl rfl rfl ?_
  refine V_getR 1 4 rfl clX4 flX4_24 (by decide) (wsh hW rfl) (fun _ => rfl) (wrf hW 23 rfl) ?_
  refine V_iload_n 2 1 rfl rfl rfl ?_
  refine V_bipush 3 (v := (32 : Int32)) rfl (by decide) ?_
  refine V_imul 4 rfl ?_
  refine V_iload_n 5 2 rfl rfl rfl ?_
  refine V_pc 9 rfl ?_
  refine V_iadd 6 rfl ?_
  obtain ⟨hin, h⟩ := h
  refine V_iald 7 rfl (wsh hW rfl) hin ?_
  exact V_iret 8 rfl rfl ⟨hW, _, rfl, h⟩

def wX4_entryOfVisit (a0 : Int32) (a1 : Int32) (a2 : Int32) (Q : Int32 → ab_S → Prop) (E : String → ab_S → Prop) (σ : ab_S) : Prop := vp_in ((((a0 * (4 : Int32)) + a1) * (7 : Int32)) + a2) 840 ∧ (Q (σ.2.1 17 ((((a0 * (4 : Int32)) + a1) * (7 : Int32)) + a2).toNatClampNeg) σ)
set_option maxHeartbeats 4000000 in
set_option maxRecDepth 100000 in
theorem ceX4_entryOfVisit {l : Launch} (hl : l.stackTraces = false) (B : Nat) {a0 : Int32} {a1 : Int32} {a2 : Int32}  {Q : Int32 → ab_S → Prop} {E : String → ab_S → Prop} {σ : ab_S} (hW : Wire σ) (h : wX4_entryOfVisit a0 a1 a2 Q E σ) : ab_Mt l yX4_entryOfVisit mdX4_entryOfVisit B 0 0 0 0 [.ref 11, .int a0, .int a1, .int a2] σ (fun v σ' => Wire σ' ∧ ∃ r : Int32, v = some (.int r) ∧ Q r σ') (fun X σ' => Wire σ' ∧ E X σ') := by
  refine V_met hl ⟨rfl, rfl, by decide⟩ rfl dkX4_entryOfVisit (Nat.le_of_ble_eq_true rfl) ?_
  show V l mdX4_entryOfVisit B 0 0 0 0 (ab_End _ _) 0 [(0, .ref 11), (1, .int a0), (2, .int a1), (3, .int a2)] [] σ
  refine V_aload_n 0 0 rfl rfl rfl ?_
  refine V_getR 1 5 rfl clX4 flX4_27 (by decide) (wsh hW rfl) (fun _ => rfl) (wrf hW 24 rfl) ?_
  refine V_iload_n 2 1 rfl rfl rfl ?_
  refine V_iconst 3 (v := (4 : Int32)) rfl (by decide) ?_
  refine V_imul 4 rfl ?_
  refine V_iload_n 5 2 rfl rfl rfl ?_
  refine V_pc 8 rfl ?_
  refine V_iadd 6 rfl ?_
  refine V_bipush 7 (v := (7 : Int32)) rfl (by decide) ?_
  refine V_imul 8 rfl ?_
  refine V_iload_n 9 3 rfl rfl rfl ?_
  refine V_iadd 10 rfl ?_
  obtain ⟨hin, h⟩ := h
  refine V_iald 11 rfl (wsh hW rfl) hin ?_
  refine V_pc 15 rfl ?_
  exact V_iret 12 rfl rfl ⟨hW, _, rfl, h⟩

def wX4_isVisit (a0 : Int32) (Q : Int32 → ab_S → Prop) (E : String → ab_S → Prop) (σ : ab_S) : Prop := vp_in a0 1410 ∧ ((((σ.2.1 14 a0.toNatClampNeg) = 0) → Q (0 : Int32) σ) ∧ (¬ ((σ.2.1 14 a0.toNatClampNeg) = 0) → Q (1 : Int32) σ))
set_option maxHeartbeats 4000000 in
set_option maxRecDepth 100000 in
theorem ceX4_isVisit {l : Launch} (hl : l.stackTraces = false) (B : Nat) {a0 : Int32}  {Q : Int32 → ab_S → Prop} {E : String → ab_S → Prop} {σ : ab_S} (hW : Wire σ) (h : wX4_isVisit a0 Q E σ) : ab_Mt l yX4_isVisit mdX4_isVisit B 0 0 0 0 [.ref 11, .int a0] σ (fun v σ' => Wire σ' ∧ ∃ r : Int32, v = some (.int r) ∧ Q r σ') (fun X σ' => Wire σ' ∧ E X σ') := by
  refine V_met hl ⟨rfl, rfl, by decide⟩ rfl dkX4_isVisit (Nat.le_of_ble_eq_true rfl) ?_
  show V l mdX4_isVisit B 0 0 0 0 (ab_End _ _) 0 [(0, .ref 11), (1, .int a0)] [] σ
  refine V_aload_n 0 0 rfl rfl rfl ?_
  refine V_getR 1 2 rfl clX4 flX4_18 (by decide) (wsh hW rfl) (fun _ => rfl) (wrf hW 21 rfl) ?_
  refine V_iload_n 2 1 rfl rfl rfl ?_
  obtain ⟨hin, h⟩ := h
  refine V_iald 3 rfl (wsh hW rfl) hin ?_
  refine V_if_eq 4 (tgt := 13) rfl (by decide) (fun hc => ?_) (fun hc => ?_)
  · replace h := h.1 hc
    refine V_iconst 7 (v := (0 : Int32)) rfl (by decide) ?_
    exact V_zret 8 rfl rfl rfl ⟨hW, _, rfl, h⟩
  · replace h := h.2 hc
    refine V_pc 9 rfl ?_
    refine V_iconst 5 (v := (1 : Int32)) rfl (by decide) ?_
    refine V_goto 6 (tgt := 14) rfl (by decide) ?_
    exact V_zret 8 rfl rfl rfl ⟨hW, _, rfl, h⟩

def wX4_occurrenceOf (a0 : Int32) (Q : Int32 → ab_S → Prop) (E : String → ab_S → Prop) (σ : ab_S) : Prop := wX4_isVisit a0 (fun u2 σ1 => ((u2 = 0) → vp_in a0 1410 ∧ (Q (((σ1.2.1 12 a0.toNatClampNeg) / (10 : Int32)) - (1 : Int32)) σ1)) ∧ (¬ (u2 = 0) → vp_in a0 1410 ∧ (Q (σ1.2.1 12 a0.toNatClampNeg) σ1))) E σ
set_option maxHeartbeats 4000000 in
set_option maxRecDepth 100000 in
theorem ceX4_occurrenceOf {l : Launch} (hl : l.stackTraces = false) (B : Nat) {a0 : Int32}  {Q : Int32 → ab_S → Prop} {E : String → ab_S → Prop} {σ : ab_S} (hW : Wire σ) (h : wX4_occurrenceOf a0 Q E σ) : ab_Mt l yX4_occurrenceOf mdX4_occurrenceOf B 1 21 0 0 [.ref 11, .int a0] σ (fun v σ' => Wire σ' ∧ ∃ r : Int32, v = some (.int r) ∧ Q r σ') (fun X σ' => Wire σ' ∧ E X σ') := by
  refine V_met hl ⟨rfl, rfl, by decide⟩ rfl dkX4_occurrenceOf (Nat.le_of_ble_eq_true rfl) ?_
  show V l mdX4_occurrenceOf B 1 21 0 0 (ab_End _ _) 0 [(0, .ref 11), (1, .int a0)] [] σ
  refine V_aload_n 0 0 rfl rfl rfl ?_
  refine V_iload_n 1 1 rfl rfl rfl ?_
  refine V_callV 2 1 (as := [.int a0]) (rest := []) rfl mlX4_50 yvX4_isVisit rfl rfl clX4 (wsh hW rfl) (by decide) (by decide) (Nat.le_of_ble_eq_true rfl) (by decide) (by decide) (fun B9 => ceX4_isVisit hl B9 hW h) (fun X9 τ9 h9 => VX_out rfl h9) ?_
  rintro v9 σ1 ⟨hW, u2, rfl, h⟩
  refine V_if_eq 3 (tgt := 17) rfl (by decide) (fun hc => ?_) (fun hc => ?_)
  · replace h := h.1 hc
    refine V_aload_n 9 0 rfl rfl rfl ?_
    refine V_getR 10 0 rfl clX4 flX4_9 (by decide) (wsh hW rfl) (fun _ => rfl) (wrf hW 19 rfl) ?_
    refine V_iload_n 11 1 rfl rfl rfl ?_
    obtain ⟨hin, h⟩ := h
    refine V_iald 12 rfl (wsh hW rfl) hin ?_
    refine V_bipush 13 (v := (10 : Int32)) rfl (by decide) ?_
    refine V_idiv 14 rfl (by decide) ?_
    refine V_pc 26 rfl ?_
    refine V_iconst 15 (v := (1 : Int32)) rfl (by decide) ?_
    refine V_isub 16 rfl ?_
    exact V_iret 17 rfl rfl ⟨hW, _, rfl, h⟩
  · replace h := h.2 hc
    refine V_pc 8 rfl ?_
    refine V_aload_n 4 0 rfl rfl rfl ?_
    refine V_getR 5 0 rfl clX4 flX4_9 (by decide) (wsh hW rfl) (fun _ => rfl) (wrf hW 19 rfl) ?_
    refine V_iload_n 6 1 rfl rfl rfl ?_
    obtain ⟨hin, h⟩ := h
    refine V_iald 7 rfl (wsh hW rfl) hin ?_
    refine V_goto 8 (tgt := 28) rfl (by decide) ?_
    exact V_iret 17 rfl rfl ⟨hW, _, rfl, h⟩

def wX4_attributeOf (a0 : Int32) (Q : Int32 → ab_S → Prop) (E : String → ab_S → Prop) (σ : ab_S) : Prop := vp_in a0 1410 ∧ (Q ((σ.2.1 12 a0.toNatClampNeg) - (σ.2.1 12 a0.toNatClampNeg) / (10 : Int32) * (10 : Int32)) σ)
set_option maxHeartbeats 4000000 in
set_option maxRecDepth 100000 in
theorem ceX4_attributeOf {l : Launch} (hl : l.stackTraces = false) (B : Nat) {a0 : Int32}  {Q : Int32 → ab_S → Prop} {E : String → ab_S → Prop} {σ : ab_S} (hW : Wire σ) (h : wX4_attributeOf a0 Q E σ) : ab_Mt l yX4_attributeOf mdX4_attributeOf B 0 0 0 0 [.ref 11, .int a0] σ (fun v σ' => Wire σ' ∧ ∃ r : Int32, v = some (.int r) ∧ Q r σ') (fun X σ' => Wire σ' ∧ E X σ') := by
  refine V_met hl ⟨rfl, rfl, by decide⟩ rfl dkX4_attributeOf (Nat.le_of_ble_eq_true rfl) ?_
  show V l mdX4_attributeOf B 0 0 0 0 (ab_End _ _) 0 [(0, .ref 11), (1, .int a0)] [] σ
  refine V_aload_n 0 0 rfl rfl rfl ?_
  refine V_getR 1 0 rfl clX4 flX4_9 (by decide) (wsh hW rfl) (fun _ => rfl) (wrf hW 19 rfl) ?_
  refine V_iload_n 2 1 rfl rfl rfl ?_
  obtain ⟨hin, h⟩ := h
  refine V_iald 3 rfl (wsh hW rfl) hin ?_
  refine V_bipush 4 (v := (10 : Int32)) rfl (by decide) ?_
  refine V_irem 5 rfl (by decide) ?_
  refine V_pc 9 rfl ?_
  exact V_iret 6 rfl rfl ⟨hW, _, rfl, h⟩

def wX5_add (a0 : Int32) (a1 : Int32) (a2 : Int32) (Q : ab_S → Prop) (E : String → ab_S → Prop) (σ : ab_S) : Prop := (((3000 : Int32) ≤ (σ.2.1 23 7)) → Q σ) ∧ (¬ ((3000 : Int32) ≤ (σ.2.1 23 7)) → vp_in (σ.2.1 23 7) 3000 ∧ (∀ σ1 : ab_S, σ1 = ab_I σ 24 (σ.2.1 23 7).toNatClampNeg a0 → vp_in (σ1.2.1 23 7) 3000 ∧ (∀ σ2 : ab_S, σ2 = ab_I σ1 25 (σ1.2.1 23 7).toNatClampNeg a1 → vp_in (σ2.2.1 23 7) 3000 ∧ (∀ σ3 : ab_S, σ3 = ab_I σ2 26 (σ2.2.1 23 7).toNatClampNeg a2 → (∀ σ4 : ab_S, σ4 = ab_I σ3 23 7 ((σ3.2.1 23 7) + (1 : Int32)) → Q σ4)))))
set_option maxHeartbeats 4000000 in
set_option maxRecDepth 100000 in
theorem ceX5_add {l : Launch} (hl : l.stackTraces = false) (B : Nat) {a0 : Int32} {a1 : Int32} {a2 : Int32}  {Q : ab_S → Prop} {E : String → ab_S → Prop} {σ : ab_S} (hW : Wire σ) (h : wX5_add a0 a1 a2 Q E σ) : ab_Mt l yX5_add mdX5_add B 0 0 0 0 [.ref 23, .int a0, .int a1, .int a2] σ (fun v σ' => Wire σ' ∧ v = none ∧ Q σ') (fun X σ' => Wire σ' ∧ E X σ') := by
  refine V_met hl ⟨rfl, rfl, by decide⟩ rfl dkX5_add (Nat.le_of_ble_eq_true rfl) ?_
  show V l mdX5_add B 0 0 0 0 (ab_End _ _) 0 [(0, .ref 23), (1, .int a0), (2, .int a1), (3, .int a2)] [] σ
  refine V_aload_n 0 0 rfl rfl rfl ?_
  refine V_get (v := .int (σ.2.1 23 7)) 1 7 rfl clX5 flX5_36 (by decide) (wsh hW rfl) (fun _ => rfl) ?_
  refine V_sipush 2 (v := (3000 : Int32)) rfl (by decide) ?_
  refine V_icmp_ge 3 (tgt := 50) rfl (by decide) (fun hc => ?_) (fun hc => ?_)
  · replace h := h.1 hc
    exact V_vret 28 rfl rfl ⟨hW, rfl, h⟩
  · replace h := h.2 hc
    refine V_pc 10 rfl ?_
    refine V_aload_n 4 0 rfl rfl rfl ?_
    refine V_getR 5 3 rfl clX5 flX5_9 (by decide) (wsh hW rfl) (fun _ => rfl) (wrf hW 32 rfl) ?_
    refine V_aload_n 6 0 rfl rfl rfl ?_
    refine V_get (v := .int (σ.2.1 23 7)) 7 7 rfl clX5 flX5_36 (by decide) (wsh hW rfl) (fun _ => rfl) ?_
    refine V_iload_n 8 1 rfl rfl rfl ?_
    obtain ⟨hin, h⟩ := h
    refine V_iast 9 rfl (wsh hW rfl) hin ?_
    refine V_nm (fun σ1 eσ1 => ?_)
    replace h := h σ1 eσ1
    have hW := wire_I eσ1 hW
    refine V_pc 20 rfl ?_
    refine V_aload_n 10 0 rfl rfl rfl ?_
    refine V_getR 11 4 rfl clX5 flX5_15 (by decide) (wsh hW rfl) (fun _ => rfl) (wrf hW 33 rfl) ?_
    refine V_aload_n 12 0 rfl rfl rfl ?_
    refine V_get (v := .int (σ1.2.1 23 7)) 13 7 rfl clX5 flX5_36 (by decide) (wsh hW rfl) (fun _ => rfl) ?_
    refine V_iload_n 14 2 rfl rfl rfl ?_
    obtain ⟨hin, h⟩ := h
    refine V_iast 15 rfl (wsh hW rfl) hin ?_
    refine V_nm (fun σ2 eσ2 => ?_)
    replace h := h σ2 eσ2
    have hW := wire_I eσ2 hW
    refine V_pc 30 rfl ?_
    refine V_aload_n 16 0 rfl rfl rfl ?_
    refine V_getR 17 5 rfl clX5 flX5_18 (by decide) (wsh hW rfl) (fun _ => rfl) (wrf hW 34 rfl) ?_
    refine V_aload_n 18 0 rfl rfl rfl ?_
    refine V_get (v := .int (σ2.2.1 23 7)) 19 7 rfl clX5 flX5_36 (by decide) (wsh hW rfl) (fun _ => rfl) ?_
    refine V_iload_n 20 3 rfl rfl rfl ?_
    obtain ⟨hin, h⟩ := h
    refine V_iast 21 rfl (wsh hW rfl) hin ?_
    refine V_nm (fun σ3 eσ3 => ?_)
    replace h := h σ3 eσ3
    have hW := wire_I eσ3 hW
    refine V_pc 40 rfl ?_
    refine V_aload_n 22 0 rfl rfl rfl ?_
    refine V_dup 23 rfl rfl ?_
    refine V_get (v := .int (σ3.2.1 23 7)) 24 7 rfl clX5 flX5_36 (by decide) (wsh hW rfl) (fun _ => rfl) ?_
    refine V_iconst 25 (v := (1 : Int32)) rfl (by decide) ?_
    refine V_iadd 26 rfl ?_
    refine V_putI 27 7 rfl clX5 flX5_36 (by decide) (wsh hW rfl) rfl (fun _ _ => rfl) rfl rfl ?_
    refine V_nm (fun σ4 eσ4 => ?_)
    replace h := h σ4 eσ4
    have hW := wire_I eσ4 hW
    exact V_vret 28 rfl rfl ⟨hW, rfl, h⟩

def wX5_attributeAt (a0 : Int32) (a1 : Int32) (Q : Int32 → ab_S → Prop) (E : String → ab_S → Prop) (σ : ab_S) : Prop := ∃ q1, σ.2.2.2 23 2 = some q1 ∧ isG q1 ∧ (wX0_symbolAt q1 a0 (a1 / (8 : Int32)) (fun u3 σ2 => Q ((u3 * (8 : Int32)) + (a1 - a1 / (8 : Int32) * (8 : Int32))) σ2) E σ)
set_option maxHeartbeats 4000000 in
set_option maxRecDepth 100000 in
theorem ceX5_attributeAt {l : Launch} (hl : l.stackTraces = false) (B : Nat) {a0 : Int32} {a1 : Int32}  {Q : Int32 → ab_S → Prop} {E : String → ab_S → Prop} {σ : ab_S} (hW : Wire σ) (h : wX5_attributeAt a0 a1 Q E σ) : ab_Mt l yX5_attributeAt mdX5_attributeAt B 1 22 0 0 [.ref 23, .int a0, .int a1] σ (fun v σ' => Wire σ' ∧ ∃ r : Int32, v = some (.int r) ∧ Q r σ') (fun X σ' => Wire σ' ∧ E X σ') := by
  refine V_met hl ⟨rfl, rfl, by decide⟩ rfl dkX5_attributeAt (Nat.le_of_ble_eq_true rfl) ?_
  show V l mdX5_attributeAt B 1 22 0 0 (ab_End _ _) 0 [(0, .ref 23), (1, .int a0), (2, .int a1)] [] σ
  refine V_aload_n 0 0 rfl rfl rfl ?_
  obtain ⟨q1, eq1, hq1, h⟩ := h
  refine V_getR 1 2 rfl clX5 flX5_32 (by decide) (wsh hW rfl) (fun _ => rfl) eq1 ?_
  refine V_iload_n 2 1 rfl rfl rfl ?_
  refine V_iload_n 3 2 rfl rfl rfl ?_
  refine V_bipush 4 (v := (8 : Int32)) rfl (by decide) ?_
  refine V_idiv 5 rfl (by decide) ?_
  refine V_pc 9 rfl ?_
  refine V_callV 6 2 (as := [.int a0, .int (a1 / (8 : Int32))]) (rest := []) rfl mlX5_48 yvX0_symbolAt rfl rfl clX0 (wG hW hq1) (by decide) (by decide) (Nat.le_of_ble_eq_true rfl) (by decide) (by decide) (fun B9 => ceX0_symbolAt hl B9 hq1 hW h) (fun X9 τ9 h9 => VX_out rfl h9) ?_
  rintro v9 σ2 ⟨hW, u3, rfl, h⟩
  refine V_bipush 7 (v := (8 : Int32)) rfl (by decide) ?_
  refine V_imul 8 rfl ?_
  refine V_iload_n 9 2 rfl rfl rfl ?_
  refine V_bipush 10 (v := (8 : Int32)) rfl (by decide) ?_
  refine V_irem 11 rfl (by decide) ?_
  refine V_pc 19 rfl ?_
  refine V_iadd 12 rfl ?_
  exact V_iret 13 rfl rfl ⟨hW, _, rfl, h⟩

def wX5_getKind (a0 : Int32) (a1 : Int32) (Q : Int32 → ab_S → Prop) (E : String → ab_S → Prop) (σ : ab_S) : Prop := wX5_attributeAt a0 a1 (fun u2 σ1 => vp_in u2 96 ∧ (((σ1.2.1 21 u2.toNatClampNeg) = 0 → Q (3 : Int32) σ1) ∧ (¬ (σ1.2.1 21 u2.toNatClampNeg) = 0 → ((σ1.2.1 21 u2.toNatClampNeg) = 1 → (((8 : Int32) ≤ a1) → Q (4 : Int32) σ1) ∧ (¬ ((8 : Int32) ≤ a1) → Q (5 : Int32) σ1)) ∧ (¬ (σ1.2.1 21 u2.toNatClampNeg) = 1 → Q (2 : Int32) σ1)))) E σ
set_option maxHeartbeats 4000000 in
set_option maxRecDepth 100000 in
theorem ceX5_getKind {l : Launch} (hl : l.stackTraces = false) (B : Nat) {a0 : Int32} {a1 : Int32}  {Q : Int32 → ab_S → Prop} {E : String → ab_S → Prop} {σ : ab_S} (hW : Wire σ) (h : wX5_getKind a0 a1 Q E σ) : ab_Mt l yX5_getKind mdX5_getKind B 2 44 0 0 [.ref 23, .int a0, .int a1] σ (fun v σ' => Wire σ' ∧ ∃ r : Int32, v = some (.int r) ∧ Q r σ') (fun X σ' => Wire σ' ∧ E X σ') := by
  refine V_met hl ⟨rfl, rfl, by decide⟩ rfl dkX5_getKind (Nat.le_of_ble_eq_true rfl) ?_
  show V l mdX5_getKind B 2 44 0 0 (ab_End _ _) 0 [(0, .ref 23), (1, .int a0), (2, .int a1)] [] σ
  refine V_aload_n 0 0 rfl rfl rfl ?_
  refine V_getR 1 1 rfl clX5 flX5_28 (by decide) (wsh hW rfl) (fun _ => rfl) (wrf hW 31 rfl) ?_
  refine V_getR 2 3 rfl clX7 flX5_93 (by decide) (wsh hW rfl) (fun _ => rfl) (wrf hW 28 rfl) ?_
  refine V_aload_n 3 0 rfl rfl rfl ?_
  refine V_iload_n 4 1 rfl rfl rfl ?_
  refine V_iload_n 5 2 rfl rfl rfl ?_
  refine V_pc 10 rfl ?_
  refine V_callV 6 2 (as := [.int a0, .int a1]) (rest := [.ref 21]) rfl mlX5_96 yvX5_attributeAt rfl rfl clX5 (wsh hW rfl) (by decide) (by decide) (Nat.le_of_ble_eq_true rfl) (by decide) (by decide) (fun B9 => ceX5_attributeAt hl B9 hW h) (fun X9 τ9 h9 => VX_out rfl h9) ?_
  rintro v9 σ1 ⟨hW, u2, rfl, h⟩
  obtain ⟨hin, h⟩ := h
  refine V_iald 7 rfl (wsh hW rfl) hin ?_
  by_cases hs0 : (σ1.2.1 21 u2.toNatClampNeg) = 0
  · replace h := h.1 hs0
    refine V_look 8 (off := 26) (tgt := 40) rfl (by decide) (by rw [hs0]; rfl) (by decide) ?_
    refine V_iconst 9 (v := (3 : Int32)) rfl (by decide) ?_
    exact V_iret 10 rfl rfl ⟨hW, _, rfl, h⟩
  · replace h := h.2 hs0
    by_cases hs1 : (σ1.2.1 21 u2.toNatClampNeg) = 1
    · replace h := h.1 hs1
      refine V_look 8 (off := 28) (tgt := 42) rfl (by decide) (by rw [hs1]; rfl) (by decide) ?_
      refine V_iload_n 11 2 rfl rfl rfl ?_
      refine V_bipush 12 (v := (8 : Int32)) rfl (by decide) ?_
      refine V_icmp_ge 13 (tgt := 52) rfl (by decide) (fun hc => ?_) (fun hc => ?_)
      · replace h := h.1 hc
        refine V_iconst 16 (v := (4 : Int32)) rfl (by decide) ?_
        exact V_iret 17 rfl rfl ⟨hW, _, rfl, h⟩
      · replace h := h.2 hc
        refine V_pc 48 rfl ?_
        refine V_iconst 14 (v := (5 : Int32)) rfl (by decide) ?_
        refine V_goto 15 (tgt := 53) rfl (by decide) ?_
        exact V_iret 17 rfl rfl ⟨hW, _, rfl, h⟩
    · replace h := h.2 hs1
      refine V_look 8 (off := 40) (tgt := 54) rfl (by decide) (by refine (lv_osw hs0 (by decide)).trans ?_; refine (lv_osw hs1 (by decide)).trans ?_; rfl) (by decide) ?_
      refine V_iconst 18 (v := (2 : Int32)) rfl (by decide) ?_
      exact V_iret 19 rfl rfl ⟨hW, _, rfl, h⟩

def wX7_countAhead_j45 (a0 : Int32) (a1 : Int32) (a2 : Int32) (Q : Int32 → ab_S → Prop) (E : String → ab_S → Prop) (Bk : Int32 → Int32 → ab_S → Prop) (x4 : Int32) (x5 : Int32) (σ : ab_S) : Prop := ∀ v1 : Int32, v1 = (x5 + 1) → Bk x4 v1 σ
def wX7_countAhead_l6_b (a0 : Int32) (a1 : Int32) (a2 : Int32) (Q : Int32 → ab_S → Prop) (E : String → ab_S → Prop) (Bk : Int32 → Int32 → ab_S → Prop) (x4 : Int32) (x5 : Int32) (σ : ab_S) : Prop := ((a1 ≤ x5) → Q x4 σ) ∧ (¬ (a1 ≤ x5) → ∃ q2, σ.2.2.2 19 1 = some q2 ∧ isG q2 ∧ (vp_in a0 12 ∧ ((((σ.2.1 (q2 + 2) a0.toNatClampNeg) ≤ x5) → Q x4 σ) ∧ (¬ ((σ.2.1 (q2 + 2) a0.toNatClampNeg) ≤ x5) → vp_in ((a0 * (8 : Int32)) + x5) 96 ∧ (((¬ (σ.2.1 21 ((a0 * (8 : Int32)) + x5).toNatClampNeg) = a2) → wX7_countAhead_j45 a0 a1 a2 Q E Bk x4 x5 σ) ∧ (¬ (¬ (σ.2.1 21 ((a0 * (8 : Int32)) + x5).toNatClampNeg) = a2) → ∀ v3 : Int32, v3 = (x4 + 1) → wX7_countAhead_j45 a0 a1 a2 Q E Bk v3 x5 σ))))))
def wX7_countAhead_l6 (a0 : Int32) (a1 : Int32) (a2 : Int32) (Q : Int32 → ab_S → Prop) (E : String → ab_S → Prop) : Nat → Int32 → Int32 → ab_S → Prop
  | 0, _, _, _ => False
  | n + 1, x4, x5, σ => wX7_countAhead_l6_b a0 a1 a2 Q E (wX7_countAhead_l6 a0 a1 a2 Q E n) x4 x5 σ
def wX7_countAhead (a0 : Int32) (a1 : Int32) (a2 : Int32) (Q : Int32 → ab_S → Prop) (E : String → ab_S → Prop) (σ : ab_S) : Prop := ∃ n, wX7_countAhead_l6 a0 a1 a2 Q E n (0 : Int32) (0 : Int32) σ
set_option maxHeartbeats 4000000 in
set_option maxRecDepth 100000 in
theorem ceX7_countAhead {l : Launch} (hl : l.stackTraces = false) (B : Nat) {a0 : Int32} {a1 : Int32} {a2 : Int32}  {Q : Int32 → ab_S → Prop} {E : String → ab_S → Prop} {σ : ab_S} (hW : Wire σ) (h : wX7_countAhead a0 a1 a2 Q E σ) : ab_Mt l yX7_countAhead mdX7_countAhead B 0 0 0 0 [.ref 19, .int a0, .int a1, .int a2] σ (fun v σ' => Wire σ' ∧ ∃ r : Int32, v = some (.int r) ∧ Q r σ') (fun X σ' => Wire σ' ∧ E X σ') := by
  refine V_met hl ⟨rfl, rfl, by decide⟩ rfl dkX7_countAhead (Nat.le_of_ble_eq_true rfl) ?_
  show V l mdX7_countAhead B 0 0 0 0 (ab_End _ _) 0 [(0, .ref 19), (1, .int a0), (2, .int a1), (3, .int a2)] [] σ
  revert h hW
  revert σ
  have k_l6 : ∀ (n : Nat) (x4 : Int32) (x5 : Int32)  (σ : ab_S), Wire σ → wX7_countAhead_l6 a0 a1 a2 Q E n x4 x5 σ → V l mdX7_countAhead B 0 0 0 0 (ab_End (fun v σ' => Wire σ' ∧ ∃ r : Int32, v = some (.int r) ∧ Q r σ') (fun X σ' => Wire σ' ∧ E X σ')) 6 [(0, .ref 19), (1, .int a0), (2, .int a1), (3, .int a2), (4, .int x4), (5, .int x5)] [] σ := by
    have step : ∀ (Bk : Int32 → Int32 → ab_S → Prop) (k_Bk : ∀ (x4 : Int32) (x5 : Int32)  (σ : ab_S), Wire σ → Bk x4 x5 σ → V l mdX7_countAhead B 0 0 0 0 (ab_End (fun v σ' => Wire σ' ∧ ∃ r : Int32, v = some (.int r) ∧ Q r σ') (fun X σ' => Wire σ' ∧ E X σ')) 6 [(0, .ref 19), (1, .int a0), (2, .int a1), (3, .int a2), (4, .int x4), (5, .int x5)] [] σ), ∀ (x4 : Int32) (x5 : Int32)  (σ : ab_S), Wire σ → wX7_countAhead_l6_b a0 a1 a2 Q E Bk x4 x5 σ → V l mdX7_countAhead B 0 0 0 0 (ab_End (fun v σ' => Wire σ' ∧ ∃ r : Int32, v = some (.int r) ∧ Q r σ') (fun X σ' => Wire σ' ∧ E X σ')) 6 [(0, .ref 19), (1, .int a0), (2, .int a1), (3, .int a2), (4, .int x4), (5, .int x5)] [] σ := by
      intro Bk k_Bk
      have k_j45 : ∀ (x4 : Int32) (x5 : Int32)  (σ : ab_S), Wire σ → wX7_countAhead_j45 a0 a1 a2 Q E Bk x4 x5 σ → V l mdX7_countAhead B 0 0 0 0 (ab_End (fun v σ' => Wire σ' ∧ ∃ r : Int32, v = some (.int r) ∧ Q r σ') (fun X σ' => Wire σ' ∧ E X σ')) 45 [(0, .ref 19), (1, .int a0), (2, .int a1), (3, .int a2), (4, .int x4), (5, .int x5)] [] σ := by
        intro x4 x5  σ hW h
        obtain ⟨v1, ev1⟩ : ∃ z : Int32, z = (x5 + 1) := ⟨_, rfl⟩
        replace h := h v1 ev1
        refine V_iinc 25 5 (v := v1) (lv' := [(5, .int v1), (0, .ref 19), (1, .int a0), (2, .int a1), (3, .int a2), (4, .int x4)]) rfl rfl ((in_1 _).trans ev1.symm) (by decide) rfl ?_
        refine V_goto 26 (tgt := 6) rfl (by decide) ?_
        refine V_sub [1, 2, 3, 4, 5, 0] (lv' := [(0, .ref 19), (1, .int a0), (2, .int a1), (3, .int a2), (4, .int x4), (5, .int v1)]) rfl ?_
        exact k_Bk x4 v1  σ hW h
      intro x4 x5  σ hW h
      refine V_iload 4 5 rfl rfl ?_
      refine V_iload_n 5 2 rfl rfl rfl ?_
      refine V_icmp_ge 6 (tgt := 51) rfl (by decide) (fun hc => ?_) (fun hc => ?_)
      · replace h := h.1 hc
        refine V_iload 27 4 rfl rfl ?_
        exact V_iret 28 rfl rfl ⟨hW, _, rfl, h⟩
      · replace h := h.2 hc
        refine V_pc 12 rfl ?_
        refine V_iload 7 5 rfl rfl ?_
        refine V_aload_n 8 0 rfl rfl rfl ?_
        obtain ⟨q2, eq2, hq2, h⟩ := h
        refine V_getR 9 1 rfl clX7 flX7_25 (by decide) (wsh hW rfl) (fun _ => rfl) eq2 ?_
        refine V_getR 10 2 rfl clX0 flX7_41 (by decide) (wG hW hq2) (fun _ => rfl) (wG_f2 hW hq2) ?_
        refine V_iload_n 11 1 rfl rfl rfl ?_
        obtain ⟨hin, h⟩ := h
        refine V_iald 12 rfl (wG_a2 hW hq2) hin ?_
        refine V_pc 23 rfl ?_
        refine V_icmp_ge 13 (tgt := 51) rfl (by decide) (fun hc => ?_) (fun hc => ?_)
        · replace h := h.1 hc
          refine V_iload 27 4 rfl rfl ?_
          exact V_iret 28 rfl rfl ⟨hW, _, rfl, h⟩
        · replace h := h.2 hc
          refine V_pc 26 rfl ?_
          refine V_aload_n 14 0 rfl rfl rfl ?_
          refine V_getR 15 3 rfl clX7 flX7_15 (by decide) (wsh hW rfl) (fun _ => rfl) (wrf hW 28 rfl) ?_
          refine V_iload_n 16 1 rfl rfl rfl ?_
          refine V_bipush 17 (v := (8 : Int32)) rfl (by decide) ?_
          refine V_imul 18 rfl ?_
          refine V_iload 19 5 rfl rfl ?_
          refine V_pc 36 rfl ?_
          refine V_iadd 20 rfl ?_
          obtain ⟨hin, h⟩ := h
          refine V_iald 21 rfl (wsh hW rfl) hin ?_
          refine V_iload_n 22 3 rfl rfl rfl ?_
          refine V_icmp_ne 23 (tgt := 45) rfl (by decide) (fun hc => ?_) (fun hc => ?_)
          · replace h := h.1 hc
            exact k_j45 x4 x5 σ hW h
          · replace h := h.2 hc
            refine V_pc 42 rfl ?_
            obtain ⟨v3, ev3⟩ : ∃ z : Int32, z = (x4 + 1) := ⟨_, rfl⟩
            replace h := h v3 ev3
            refine V_iinc 24 4 (v := v3) (lv' := [(4, .int v3), (0, .ref 19), (1, .int a0), (2, .int a1), (3, .int a2), (5, .int x5)]) rfl rfl ((in_1 _).trans ev3.symm) (by decide) rfl ?_
            refine V_sub [1, 2, 3, 4, 0, 5] (lv' := [(0, .ref 19), (1, .int a0), (2, .int a1), (3, .int a2), (4, .int v3), (5, .int x5)]) rfl ?_
            exact k_j45 v3 x5 σ hW h
    intro n
    induction n with
    | zero => intro x4 x5  σ hW h; exact absurd h id
    | succ n ih => exact step  _ ih
  intro σ hW h
  refine V_iconst 0 (v := (0 : Int32)) rfl (by decide) ?_
  refine V_istore 1 (lv' := [(4, .int (0 : Int32)), (0, .ref 19), (1, .int a0), (2, .int a1), (3, .int a2)]) rfl (by decide) rfl ?_
  refine V_iconst 2 (v := (0 : Int32)) rfl (by decide) ?_
  refine V_istore 3 (lv' := [(5, .int (0 : Int32)), (4, .int (0 : Int32)), (0, .ref 19), (1, .int a0), (2, .int a1), (3, .int a2)]) rfl (by decide) rfl ?_
  refine V_sub [2, 3, 4, 5, 1, 0] (lv' := [(0, .ref 19), (1, .int a0), (2, .int a1), (3, .int a2), (4, .int (0 : Int32)), (5, .int (0 : Int32))]) rfl ?_
  obtain ⟨n, h⟩ := h
  exact k_l6 n (0 : Int32) (0 : Int32) σ hW h

def wX7_frameAhead_l5_b (a0 : Int32) (a1 : Int32) (Q : Int32 → ab_S → Prop) (E : String → ab_S → Prop) (Bk : Int32 → Int32 → ab_S → Prop) (x3 : Int32) (x4 : Int32) (σ : ab_S) : Prop := ((a1 ≤ x4) → Q x3 σ) ∧ (¬ (a1 ≤ x4) → ∃ q1, σ.2.2.2 19 1 = some q1 ∧ isG q1 ∧ (wX0_symbolAt q1 a0 x4 (fun u3 σ2 => wX7_countAhead u3 (8 : Int32) (1 : Int32) (fun u5 σ4 => ∀ v6 : Int32, v6 = (x3 + u5) → ∀ v7 : Int32, v7 = (x4 + 1) → Bk v6 v7 σ4) E σ2) E σ))
def wX7_frameAhead_l5 (a0 : Int32) (a1 : Int32) (Q : Int32 → ab_S → Prop) (E : String → ab_S → Prop) : Nat → Int32 → Int32 → ab_S → Prop
  | 0, _, _, _ => False
  | n + 1, x3, x4, σ => wX7_frameAhead_l5_b a0 a1 Q E (wX7_frameAhead_l5 a0 a1 Q E n) x3 x4 σ
def wX7_frameAhead (a0 : Int32) (a1 : Int32) (Q : Int32 → ab_S → Prop) (E : String → ab_S → Prop) (σ : ab_S) : Prop := ∃ n, wX7_frameAhead_l5 a0 a1 Q E n (0 : Int32) (1 : Int32) σ
set_option maxHeartbeats 4000000 in
set_option maxRecDepth 100000 in
theorem ceX7_frameAhead {l : Launch} (hl : l.stackTraces = false) (B : Nat) {a0 : Int32} {a1 : Int32}  {Q : Int32 → ab_S → Prop} {E : String → ab_S → Prop} {σ : ab_S} (hW : Wire σ) (h : wX7_frameAhead a0 a1 Q E σ) : ab_Mt l yX7_frameAhead mdX7_frameAhead B 1 25 0 0 [.ref 19, .int a0, .int a1] σ (fun v σ' => Wire σ' ∧ ∃ r : Int32, v = some (.int r) ∧ Q r σ') (fun X σ' => Wire σ' ∧ E X σ') := by
  refine V_met hl ⟨rfl, rfl, by decide⟩ rfl dkX7_frameAhead (Nat.le_of_ble_eq_true rfl) ?_
  show V l mdX7_frameAhead B 1 25 0 0 (ab_End _ _) 0 [(0, .ref 19), (1, .int a0), (2, .int a1)] [] σ
  revert h hW
  revert σ
  have k_l5 : ∀ (n : Nat) (x3 : Int32) (x4 : Int32)  (σ : ab_S), Wire σ → wX7_frameAhead_l5 a0 a1 Q E n x3 x4 σ → V l mdX7_frameAhead B 1 25 0 0 (ab_End (fun v σ' => Wire σ' ∧ ∃ r : Int32, v = some (.int r) ∧ Q r σ') (fun X σ' => Wire σ' ∧ E X σ')) 5 [(0, .ref 19), (1, .int a0), (2, .int a1), (3, .int x3), (4, .int x4)] [] σ := by
    have step : ∀ (Bk : Int32 → Int32 → ab_S → Prop) (k_Bk : ∀ (x3 : Int32) (x4 : Int32)  (σ : ab_S), Wire σ → Bk x3 x4 σ → V l mdX7_frameAhead B 1 25 0 0 (ab_End (fun v σ' => Wire σ' ∧ ∃ r : Int32, v = some (.int r) ∧ Q r σ') (fun X σ' => Wire σ' ∧ E X σ')) 5 [(0, .ref 19), (1, .int a0), (2, .int a1), (3, .int x3), (4, .int x4)] [] σ), ∀ (x3 : Int32) (x4 : Int32)  (σ : ab_S), Wire σ → wX7_frameAhead_l5_b a0 a1 Q E Bk x3 x4 σ → V l mdX7_frameAhead B 1 25 0 0 (ab_End (fun v σ' => Wire σ' ∧ ∃ r : Int32, v = some (.int r) ∧ Q r σ') (fun X σ' => Wire σ' ∧ E X σ')) 5 [(0, .ref 19), (1, .int a0), (2, .int a1), (3, .int x3), (4, .int x4)] [] σ := by
      intro Bk k_Bk
      intro x3 x4  σ hW h
      refine V_iload 4 4 rfl rfl ?_
      refine V_iload_n 5 2 rfl rfl rfl ?_
      refine V_icmp_ge 6 (tgt := 37) rfl (by decide) (fun hc => ?_) (fun hc => ?_)
      · replace h := h.1 hc
        refine V_iload_n 21 3 rfl rfl rfl ?_
        exact V_iret 22 rfl rfl ⟨hW, _, rfl, h⟩
      · replace h := h.2 hc
        refine V_pc 11 rfl ?_
        refine V_iload_n 7 3 rfl rfl rfl ?_
        refine V_aload_n 8 0 rfl rfl rfl ?_
        refine V_aload_n 9 0 rfl rfl rfl ?_
        obtain ⟨q1, eq1, hq1, h⟩ := h
        refine V_getR 10 1 rfl clX7 flX7_25 (by decide) (wsh hW rfl) (fun _ => rfl) eq1 ?_
        refine V_iload_n 11 1 rfl rfl rfl ?_
        refine V_iload 12 4 rfl rfl ?_
        refine V_pc 20 rfl ?_
        refine V_callV 13 2 (as := [.int a0, .int x4]) (rest := [.ref 19, .int x3]) rfl mlX7_54 yvX0_symbolAt rfl rfl clX0 (wG hW hq1) (by decide) (by decide) (Nat.le_of_ble_eq_true rfl) (by decide) (by decide) (fun B9 => ceX0_symbolAt hl B9 hq1 hW h) (fun X9 τ9 h9 => VX_out rfl h9) ?_
        rintro v9 σ2 ⟨hW, u3, rfl, h⟩
        refine V_bipush 14 (v := (8 : Int32)) rfl (by decide) ?_
        refine V_iconst 15 (v := (1 : Int32)) rfl (by decide) ?_
        refine V_callV 16 3 (as := [.int u3, .int (8 : Int32), .int (1 : Int32)]) (rest := [.int x3]) rfl mlX7_57 yvX7_countAhead rfl rfl clX7 (wsh hW rfl) (by decide) (by decide) (Nat.le_of_ble_eq_true rfl) (by decide) (by decide) (fun B9 => ceX7_countAhead hl B9 hW h) (fun X9 τ9 h9 => VX_out rfl h9) ?_
        rintro v9 σ4 ⟨hW, u5, rfl, h⟩
        refine V_iadd 17 rfl ?_
        refine V_topi (fun v6 ev6 => ?_)
        replace h := h v6 ev6
        refine V_istore_n 18 (lv' := [(3, .int v6), (0, .ref 19), (1, .int a0), (2, .int a1), (4, .int x4)]) rfl rfl (by decide) rfl ?_
        obtain ⟨v7, ev7⟩ : ∃ z : Int32, z = (x4 + 1) := ⟨_, rfl⟩
        replace h := h v7 ev7
        refine V_iinc 19 4 (v := v7) (lv' := [(4, .int v7), (3, .int v6), (0, .ref 19), (1, .int a0), (2, .int a1)]) rfl rfl ((in_1 _).trans ev7.symm) (by decide) rfl ?_
        refine V_goto 20 (tgt := 5) rfl (by decide) ?_
        refine V_sub [2, 3, 4, 1, 0] (lv' := [(0, .ref 19), (1, .int a0), (2, .int a1), (3, .int v6), (4, .int v7)]) rfl ?_
        exact k_Bk v6 v7  σ4 hW h
    intro n
    induction n with
    | zero => intro x3 x4  σ hW h; exact absurd h id
    | succ n ih => exact step  _ ih
  intro σ hW h
  refine V_iconst 0 (v := (0 : Int32)) rfl (by decide) ?_
  refine V_istore_n 1 (lv' := [(3, .int (0 : Int32)), (0, .ref 19), (1, .int a0), (2, .int a1)]) rfl rfl (by decide) rfl ?_
  refine V_iconst 2 (v := (1 : Int32)) rfl (by decide) ?_
  refine V_istore 3 (lv' := [(4, .int (1 : Int32)), (3, .int (0 : Int32)), (0, .ref 19), (1, .int a0), (2, .int a1)]) rfl (by decide) rfl ?_
  refine V_sub [2, 3, 4, 1, 0] (lv' := [(0, .ref 19), (1, .int a0), (2, .int a1), (3, .int (0 : Int32)), (4, .int (1 : Int32))]) rfl ?_
  obtain ⟨n, h⟩ := h
  exact k_l5 n (0 : Int32) (1 : Int32) σ hW h

def wX5_getNumber (a0 : Int32) (a1 : Int32) (Q : Int32 → ab_S → Prop) (E : String → ab_S → Prop) (σ : ab_S) : Prop := ∀ v1 : Int32, v1 = (a1 / (8 : Int32)) → ∀ v2 : Int32, v2 = (a1 - a1 / (8 : Int32) * (8 : Int32)) → wX5_attributeAt a0 a1 (fun u4 σ3 => vp_in u4 96 ∧ (((σ3.2.1 21 u4.toNatClampNeg) = 0 → wX5_attributeAt a0 a1 (fun u6 σ5 => vp_in u6 96 ∧ (Q (σ5.2.1 22 u6.toNatClampNeg) σ5)) E σ3) ∧ (¬ (σ3.2.1 21 u4.toNatClampNeg) = 0 → ((σ3.2.1 21 u4.toNatClampNeg) = 1 → wX7_frameAhead a0 v1 (fun u8 σ7 => ∃ q9, σ7.2.2.2 23 2 = some q9 ∧ isG q9 ∧ (wX0_symbolAt q9 a0 v1 (fun u11 σ10 => wX7_countAhead u11 v2 (1 : Int32) (fun u13 σ12 => Q (u8 + u13) σ12) E σ10) E σ7)) E σ3) ∧ (¬ (σ3.2.1 21 u4.toNatClampNeg) = 1 → Q (((10 : Int32) * v1) + v2) σ3)))) E σ
set_option maxHeartbeats 4000000 in
set_option maxRecDepth 100000 in
theorem ceX5_getNumber {l : Launch} (hl : l.stackTraces = false) (B : Nat) {a0 : Int32} {a1 : Int32}  {Q : Int32 → ab_S → Prop} {E : String → ab_S → Prop} {σ : ab_S} (hW : Wire σ) (h : wX5_getNumber a0 a1 Q E σ) : ab_Mt l yX5_getNumber mdX5_getNumber B 2 49 0 0 [.ref 23, .int a0, .int a1] σ (fun v σ' => Wire σ' ∧ ∃ r : Int32, v = some (.int r) ∧ Q r σ') (fun X σ' => Wire σ' ∧ E X σ') := by
  refine V_met hl ⟨rfl, rfl, by decide⟩ rfl dkX5_getNumber (Nat.le_of_ble_eq_true rfl) ?_
  show V l mdX5_getNumber B 2 49 0 0 (ab_End _ _) 0 [(0, .ref 23), (1, .int a0), (2, .int a1)] [] σ
  refine V_iload_n 0 2 rfl rfl rfl ?_
  refine V_bipush 1 (v := (8 : Int32)) rfl (by decide) ?_
  refine V_idiv 2 rfl (by decide) ?_
  refine V_topi (fun v1 ev1 => ?_)
  replace h := h v1 ev1
  refine V_istore_n 3 (lv' := [(3, .int v1), (0, .ref 23), (1, .int a0), (2, .int a1)]) rfl rfl (by decide) rfl ?_
  refine V_iload_n 4 3 rfl rfl rfl ?_
  refine V_bipush 5 (v := (8 : Int32)) rfl (by decide) ?_
  refine V_pc 8 rfl ?_
  refine V_irem 6 rfl (by decide) ?_
  refine V_topi (fun v2 ev2 => ?_)
  replace h := h v2 ev2
  refine V_istore 7 (lv' := [(4, .int v2), (3, .int v1), (0, .ref 23), (1, .int a0), (2, .int a1)]) rfl (by decide) rfl ?_
  refine V_aload_n 8 2 rfl rfl rfl ?_
  refine V_getR 9 1 rfl clX5 flX5_28 (by decide) (wsh hW rfl) (fun _ => rfl) (wrf hW 31 rfl) ?_
  refine V_getR 10 3 rfl clX7 flX5_93 (by decide) (wsh hW rfl) (fun _ => rfl) (wrf hW 28 rfl) ?_
  refine V_aload_n 11 2 rfl rfl rfl ?_
  refine V_pc 19 rfl ?_
  refine V_iload_n 12 3 rfl rfl rfl ?_
  refine V_iload_n 13 4 rfl rfl rfl ?_
  refine V_callV 14 2 (as := [.int a0, .int a1]) (rest := [.ref 21]) rfl mlX5_96 yvX5_attributeAt rfl rfl clX5 (wsh hW rfl) (by decide) (by decide) (Nat.le_of_ble_eq_true rfl) (by decide) (by decide) (fun B9 => ceX5_attributeAt hl B9 hW h) (fun X9 τ9 h9 => VX_out rfl h9) ?_
  rintro v9 σ3 ⟨hW, u4, rfl, h⟩
  obtain ⟨hin, h⟩ := h
  refine V_iald 15 rfl (wsh hW rfl) hin ?_
  by_cases hs0 : (σ3.2.1 21 u4.toNatClampNeg) = 0
  · replace h := h.1 hs0
    refine V_look 16 (off := 27) (tgt := 52) rfl (by decide) (by rw [hs0]; rfl) (by decide) ?_
    refine V_aload_n 17 2 rfl rfl rfl ?_
    refine V_getR 18 1 rfl clX5 flX5_28 (by decide) (wsh hW rfl) (fun _ => rfl) (wrf hW 31 rfl) ?_
    refine V_getR 19 4 rfl clX7 flX5_99 (by decide) (wsh hW rfl) (fun _ => rfl) (wrf hW 29 rfl) ?_
    refine V_aload_n 20 2 rfl rfl rfl ?_
    refine V_iload_n 21 3 rfl rfl rfl ?_
    refine V_iload_n 22 4 rfl rfl rfl ?_
    refine V_pc 62 rfl ?_
    refine V_callV 23 2 (as := [.int a0, .int a1]) (rest := [.ref 22]) rfl mlX5_96 yvX5_attributeAt rfl rfl clX5 (wsh hW rfl) (by decide) (by decide) (Nat.le_of_ble_eq_true rfl) (by decide) (by decide) (fun B9 => ceX5_attributeAt hl B9 hW h) (fun X9 τ9 h9 => VX_out rfl h9) ?_
    rintro v9 σ5 ⟨hW, u6, rfl, h⟩
    obtain ⟨hin, h⟩ := h
    refine V_iald 24 rfl (wsh hW rfl) hin ?_
    exact V_iret 25 rfl rfl ⟨hW, _, rfl, h⟩
  · replace h := h.2 hs0
    by_cases hs1 : (σ3.2.1 21 u4.toNatClampNeg) = 1
    · replace h := h.1 hs1
      refine V_look 16 (off := 42) (tgt := 67) rfl (by decide) (by rw [hs1]; rfl) (by decide) ?_
      refine V_aload_n 26 2 rfl rfl rfl ?_
      refine V_getR 27 1 rfl clX5 flX5_28 (by decide) (wsh hW rfl) (fun _ => rfl) (wrf hW 31 rfl) ?_
      refine V_iload_n 28 3 rfl rfl rfl ?_
      refine V_iload_n 29 1 rfl rfl rfl ?_
      refine V_callV 30 2 (as := [.int a0, .int v1]) (rest := []) rfl mlX5_102 yvX7_frameAhead rfl rfl clX7 (wsh hW rfl) (by decide) (by decide) (Nat.le_of_ble_eq_true rfl) (by decide) (by decide) (fun B9 => ceX7_frameAhead hl B9 hW h) (fun X9 τ9 h9 => VX_out rfl h9) ?_
      rintro v9 σ7 ⟨hW, u8, rfl, h⟩
      refine V_aload_n 31 2 rfl rfl rfl ?_
      refine V_getR 32 1 rfl clX5 flX5_28 (by decide) (wsh hW rfl) (fun _ => rfl) (wrf hW 31 rfl) ?_
      refine V_aload_n 33 2 rfl rfl rfl ?_
      obtain ⟨q9, eq9, hq9, h⟩ := h
      refine V_getR 34 2 rfl clX5 flX5_32 (by decide) (wsh hW rfl) (fun _ => rfl) eq9 ?_
      refine V_iload_n 35 3 rfl rfl rfl ?_
      refine V_pc 85 rfl ?_
      refine V_iload_n 36 1 rfl rfl rfl ?_
      refine V_callV 37 2 (as := [.int a0, .int v1]) (rest := [.ref 19, .int u8]) rfl mlX5_48 yvX0_symbolAt rfl rfl clX0 (wG hW hq9) (by decide) (by decide) (Nat.le_of_ble_eq_true rfl) (by decide) (by decide) (fun B9 => ceX0_symbolAt hl B9 hq9 hW h) (fun X9 τ9 h9 => VX_out rfl h9) ?_
      rintro v9 σ10 ⟨hW, u11, rfl, h⟩
      refine V_iload 38 0 rfl rfl ?_
      refine V_iconst 39 (v := (1 : Int32)) rfl (by decide) ?_
      refine V_callV 40 3 (as := [.int u11, .int v2, .int (1 : Int32)]) (rest := [.int u8]) rfl mlX5_105 yvX7_countAhead rfl rfl clX7 (wsh hW rfl) (by decide) (by decide) (Nat.le_of_ble_eq_true rfl) (by decide) (by decide) (fun B9 => ceX7_countAhead hl B9 hW h) (fun X9 τ9 h9 => VX_out rfl h9) ?_
      rintro v9 σ12 ⟨hW, u13, rfl, h⟩
      refine V_iadd 41 rfl ?_
      exact V_iret 42 rfl rfl ⟨hW, _, rfl, h⟩
    · replace h := h.2 hs1
      refine V_look 16 (off := 72) (tgt := 97) rfl (by decide) (by refine (lv_osw hs0 (by decide)).trans ?_; refine (lv_osw hs1 (by decide)).trans ?_; rfl) (by decide) ?_
      refine V_bipush 43 (v := (10 : Int32)) rfl (by decide) ?_
      refine V_iload_n 44 1 rfl rfl rfl ?_
      refine V_imul 45 rfl ?_
      refine V_iload 46 0 rfl rfl ?_
      refine V_iadd 47 rfl ?_
      exact V_iret 48 rfl rfl ⟨hW, _, rfl, h⟩

def wX5_addExpression_j133 (a0 : Int32) (a1 : Int32) (Q : ab_S → Prop) (E : String → ab_S → Prop) (Bk : Int32 → Int32 → Int32 → ab_S → Prop) (x4 : Int32) (x5 : Int32) (x6 : Int32) (σ : ab_S) : Prop := ∀ v1 : Int32, v1 = (x6 + 1) → Bk x4 x5 v1 σ
def wX5_addExpression_j129 (a0 : Int32) (a1 : Int32) (Q : ab_S → Prop) (E : String → ab_S → Prop) (Bk : Int32 → Int32 → Int32 → ab_S → Prop) (x4 : Int32) (x5 : Int32) (x6 : Int32) (y0 : Int32) (y1 : Int32) (σ : ab_S) : Prop := wX5_add y1 y0 (0 : Int32) (fun σ2 => wX5_addExpression_j133 a0 a1 Q E Bk x4 x5 x6 σ2) E σ
def wX5_addExpression_j119 (a0 : Int32) (a1 : Int32) (Q : ab_S → Prop) (E : String → ab_S → Prop) (Bk : Int32 → Int32 → Int32 → ab_S → Prop) (x4 : Int32) (x5 : Int32) (x6 : Int32) (x8 : Int32) (y0 : Int32) (σ : ab_S) : Prop := wX5_addExpression_j129 a0 a1 Q E Bk x4 x5 x6 (x8 + x5) y0 σ
def wX5_addExpression_l42_b (a0 : Int32) (a1 : Int32) (Q : ab_S → Prop) (E : String → ab_S → Prop) (Bk : Int32 → Int32 → Int32 → ab_S → Prop) (x4 : Int32) (x5 : Int32) (x6 : Int32) (σ : ab_S) : Prop := ((x4 ≤ x6) → Q σ) ∧ (¬ (x4 ≤ x6) → ∃ q3, σ.2.2.2 23 2 = some q3 ∧ isG q3 ∧ (vp_in x6 2400 ∧ (∀ v4 : Int32, v4 = (σ.2.1 (q3 + 13) x6.toNatClampNeg) → ∃ q5, σ.2.2.2 23 2 = some q5 ∧ isG q5 ∧ (vp_in x6 2400 ∧ (∀ v6 : Int32, v6 = (σ.2.1 (q5 + 14) x6.toNatClampNeg) → ((¬ v4 = (2 : Int32)) → ((v4 = (13 : Int32)) → wX5_addExpression_j119 a0 a1 Q E Bk x4 x5 x6 v6 v4 σ) ∧ (¬ (v4 = (13 : Int32)) → ((¬ v4 = (14 : Int32)) → wX5_addExpression_j129 a0 a1 Q E Bk x4 x5 x6 v6 v4 σ) ∧ (¬ (¬ v4 = (14 : Int32)) → wX5_addExpression_j119 a0 a1 Q E Bk x4 x5 x6 v6 v4 σ))) ∧ (¬ (¬ v4 = (2 : Int32)) → wX5_getKind a0 v6 (fun u8 σ7 => wX5_getNumber a0 v6 (fun u10 σ9 => wX5_add u8 u10 v6 (fun σ11 => wX5_addExpression_j133 a0 a1 Q E Bk x4 x5 x6 σ11) E σ9) E σ7) E σ))))))
def wX5_addExpression_l42 (a0 : Int32) (a1 : Int32) (Q : ab_S → Prop) (E : String → ab_S → Prop) : Nat → Int32 → Int32 → Int32 → ab_S → Prop
  | 0, _, _, _, _ => False
  | n + 1, x4, x5, x6, σ => wX5_addExpression_l42_b a0 a1 Q E (wX5_addExpression_l42 a0 a1 Q E n) x4 x5 x6 σ
def wX5_addExpression (a0 : Int32) (a1 : Int32) (Q : ab_S → Prop) (E : String → ab_S → Prop) (σ : ab_S) : Prop := ∃ q12, σ.2.2.2 23 2 = some q12 ∧ isG q12 ∧ (vp_in ((a0 * (32 : Int32)) + a1) 960 ∧ (∀ v13 : Int32, v13 = (σ.2.1 (q12 + 11) ((a0 * (32 : Int32)) + a1).toNatClampNeg) → ∃ q14, σ.2.2.2 23 2 = some q14 ∧ isG q14 ∧ (vp_in ((a0 * (32 : Int32)) + a1) 960 ∧ (∀ v15 : Int32, v15 = (σ.2.1 (q14 + 12) ((a0 * (32 : Int32)) + a1).toNatClampNeg) → ∀ v16 : Int32, v16 = ((σ.2.1 23 7) - v13) → ∃ n, wX5_addExpression_l42 a0 a1 Q E n v15 v16 v13 σ))))
set_option maxHeartbeats 4000000 in
set_option maxRecDepth 100000 in
theorem ceX5_addExpression {l : Launch} (hl : l.stackTraces = false) (B : Nat) {a0 : Int32} {a1 : Int32}  {Q : ab_S → Prop} {E : String → ab_S → Prop} {σ : ab_S} (hW : Wire σ) (h : wX5_addExpression a0 a1 Q E σ) : ab_Mt l yX5_addExpression mdX5_addExpression B 3 73 0 0 [.ref 23, .int a0, .int a1] σ (fun v σ' => Wire σ' ∧ v = none ∧ Q σ') (fun X σ' => Wire σ' ∧ E X σ') := by
  refine V_met hl ⟨rfl, rfl, by decide⟩ rfl dkX5_addExpression (Nat.le_of_ble_eq_true rfl) ?_
  show V l mdX5_addExpression B 3 73 0 0 (ab_End _ _) 0 [(0, .ref 23), (1, .int a0), (2, .int a1)] [] σ
  revert h hW
  revert σ
  have k_l42 : ∀ (n : Nat) (x4 : Int32) (x5 : Int32) (x6 : Int32)  (σ : ab_S), Wire σ → wX5_addExpression_l42 a0 a1 Q E n x4 x5 x6 σ → V l mdX5_addExpression B 3 73 0 0 (ab_End (fun v σ' => Wire σ' ∧ v = none ∧ Q σ') (fun X σ' => Wire σ' ∧ E X σ')) 42 [(0, .ref 23), (1, .int a0), (4, .int x4), (5, .int x5), (6, .int x6)] [] σ := by
    have step : ∀ (Bk : Int32 → Int32 → Int32 → ab_S → Prop) (k_Bk : ∀ (x4 : Int32) (x5 : Int32) (x6 : Int32)  (σ : ab_S), Wire σ → Bk x4 x5 x6 σ → V l mdX5_addExpression B 3 73 0 0 (ab_End (fun v σ' => Wire σ' ∧ v = none ∧ Q σ') (fun X σ' => Wire σ' ∧ E X σ')) 42 [(0, .ref 23), (1, .int a0), (4, .int x4), (5, .int x5), (6, .int x6)] [] σ), ∀ (x4 : Int32) (x5 : Int32) (x6 : Int32)  (σ : ab_S), Wire σ → wX5_addExpression_l42_b a0 a1 Q E Bk x4 x5 x6 σ → V l mdX5_addExpression B 3 73 0 0 (ab_End (fun v σ' => Wire σ' ∧ v = none ∧ Q σ') (fun X σ' => Wire σ' ∧ E X σ')) 42 [(0, .ref 23), (1, .int a0), (4, .int x4), (5, .int x5), (6, .int x6)] [] σ := by
      intro Bk k_Bk
      have k_j133 : ∀ (x4 : Int32) (x5 : Int32) (x6 : Int32)  (σ : ab_S), Wire σ → wX5_addExpression_j133 a0 a1 Q E Bk x4 x5 x6 σ → V l mdX5_addExpression B 3 73 0 0 (ab_End (fun v σ' => Wire σ' ∧ v = none ∧ Q σ') (fun X σ' => Wire σ' ∧ E X σ')) 133 [(0, .ref 23), (1, .int a0), (4, .int x4), (5, .int x5), (6, .int x6)] [] σ := by
        intro x4 x5 x6  σ hW h
        obtain ⟨v1, ev1⟩ : ∃ z : Int32, z = (x6 + 1) := ⟨_, rfl⟩
        replace h := h v1 ev1
        refine V_iinc 72 4 (v := v1) (lv' := [(6, .int v1), (0, .ref 23), (1, .int a0), (4, .int x4), (5, .int x5)]) rfl rfl ((in_1 _).trans ev1.symm) (by decide) rfl ?_
        refine V_goto 73 (tgt := 42) rfl (by decide) ?_
        refine V_sub [1, 2, 3, 4, 0] (lv' := [(0, .ref 23), (1, .int a0), (4, .int x4), (5, .int x5), (6, .int v1)]) rfl ?_
        exact k_Bk x4 x5 v1  σ hW h
      have k_j129 : ∀ (x4 : Int32) (x5 : Int32) (x6 : Int32) (y0 : Int32) (y1 : Int32)  (σ : ab_S), Wire σ → wX5_addExpression_j129 a0 a1 Q E Bk x4 x5 x6 y0 y1 σ → V l mdX5_addExpression B 3 73 0 0 (ab_End (fun v σ' => Wire σ' ∧ v = none ∧ Q σ') (fun X σ' => Wire σ' ∧ E X σ')) 129 [(0, .ref 23), (1, .int a0), (4, .int x4), (5, .int x5), (6, .int x6)] [.int y0, .int y1, .ref 23] σ := by
        intro x4 x5 x6 y0 y1  σ hW h
        refine V_iconst 70 (v := (0 : Int32)) rfl (by decide) ?_
        refine V_callV 71 3 (as := [.int y1, .int y0, .int (0 : Int32)]) (rest := []) rfl mlX5_61 yvX5_add rfl rfl clX5 (wsh hW rfl) (by decide) (by decide) (Nat.le_of_ble_eq_true rfl) (by decide) (by decide) (fun B9 => ceX5_add hl B9 hW h) (fun X9 τ9 h9 => VX_out rfl h9) ?_
        rintro v9 σ2 ⟨hW, rfl, h⟩
        exact k_j133 x4 x5 x6 σ2 hW h
      have k_j119 : ∀ (x4 : Int32) (x5 : Int32) (x6 : Int32) (x8 : Int32) (y0 : Int32)  (σ : ab_S), Wire σ → wX5_addExpression_j119 a0 a1 Q E Bk x4 x5 x6 x8 y0 σ → V l mdX5_addExpression B 3 73 0 0 (ab_End (fun v σ' => Wire σ' ∧ v = none ∧ Q σ') (fun X σ' => Wire σ' ∧ E X σ')) 119 [(0, .ref 23), (1, .int a0), (4, .int x4), (5, .int x5), (6, .int x6), (8, .int x8)] [.int y0, .ref 23] σ := by
        intro x4 x5 x6 x8 y0  σ hW h
        refine V_iload 65 5 rfl rfl ?_
        refine V_iload 66 3 rfl rfl ?_
        refine V_iadd 67 rfl ?_
        refine V_goto 68 (tgt := 129) rfl (by decide) ?_
        refine V_sub [0, 1, 2, 3, 4] (lv' := [(0, .ref 23), (1, .int a0), (4, .int x4), (5, .int x5), (6, .int x6)]) rfl ?_
        exact k_j129 x4 x5 x6 (x8 + x5) y0 σ hW h
      intro x4 x5 x6  σ hW h
      refine V_iload 27 4 rfl rfl ?_
      refine V_iload 28 2 rfl rfl ?_
      refine V_icmp_ge 29 (tgt := 139) rfl (by decide) (fun hc => ?_) (fun hc => ?_)
      · replace h := h.1 hc
        exact V_vret 74 rfl rfl ⟨hW, rfl, h⟩
      · replace h := h.2 hc
        refine V_pc 49 rfl ?_
        refine V_aload_n 30 0 rfl rfl rfl ?_
        obtain ⟨q3, eq3, hq3, h⟩ := h
        refine V_getR 31 2 rfl clX5 flX5_32 (by decide) (wsh hW rfl) (fun _ => rfl) eq3 ?_
        refine V_getR 32 15 rfl clX0 flX5_91 (by decide) (wG hW hq3) (fun _ => rfl) (wG_f15 hW hq3) ?_
        refine V_iload 33 4 rfl rfl ?_
        obtain ⟨hin, h⟩ := h
        refine V_iald 34 rfl (wG_a13 hW hq3) hin ?_
        refine V_topi (fun v4 ev4 => ?_)
        replace h := h v4 ev4
        refine V_istore 35 (lv' := [(7, .int v4), (0, .ref 23), (1, .int a0), (4, .int x4), (5, .int x5), (6, .int x6)]) rfl (by decide) rfl ?_
        refine V_pc 61 rfl ?_
        refine V_aload_n 36 1 rfl rfl rfl ?_
        obtain ⟨q5, eq5, hq5, h⟩ := h
        refine V_getR 37 2 rfl clX5 flX5_32 (by decide) (wsh hW rfl) (fun _ => rfl) eq5 ?_
        refine V_getR 38 16 rfl clX0 flX5_92 (by decide) (wG hW hq5) (fun _ => rfl) (wG_f16 hW hq5) ?_
        refine V_iload 39 5 rfl rfl ?_
        obtain ⟨hin, h⟩ := h
        refine V_iald 40 rfl (wG_a14 hW hq5) hin ?_
        refine V_topi (fun v6 ev6 => ?_)
        replace h := h v6 ev6
        refine V_istore 41 (lv' := [(8, .int v6), (7, .int v4), (0, .ref 23), (1, .int a0), (4, .int x4), (5, .int x5), (6, .int x6)]) rfl (by decide) rfl ?_
        refine V_pc 73 rfl ?_
        refine V_iload 42 1 rfl rfl ?_
        refine V_iconst 43 (v := (2 : Int32)) rfl (by decide) ?_
        refine V_icmp_ne 44 (tgt := 102) rfl (by decide) (fun hc => ?_) (fun hc => ?_)
        · replace h := h.1 hc
          refine V_aload_n 57 2 rfl rfl rfl ?_
          refine V_iload 58 1 rfl rfl ?_
          refine V_iload 59 1 rfl rfl ?_
          refine V_bipush 60 (v := (13 : Int32)) rfl (by decide) ?_
          refine V_icmp_eq 61 (tgt := 119) rfl (by decide) (fun hc => ?_) (fun hc => ?_)
          · replace h := h.1 hc
            refine V_sub [2, 3, 4, 5, 6, 0] (lv' := [(0, .ref 23), (1, .int a0), (4, .int x4), (5, .int x5), (6, .int x6), (8, .int v6)]) rfl ?_
            exact k_j119 x4 x5 x6 v6 v4 σ hW h
          · replace h := h.2 hc
            refine V_pc 112 rfl ?_
            refine V_iload 62 1 rfl rfl ?_
            refine V_bipush 63 (v := (14 : Int32)) rfl (by decide) ?_
            refine V_icmp_ne 64 (tgt := 127) rfl (by decide) (fun hc => ?_) (fun hc => ?_)
            · replace h := h.1 hc
              refine V_iload 69 0 rfl rfl ?_
              refine V_sub [2, 3, 4, 5, 6] (lv' := [(0, .ref 23), (1, .int a0), (4, .int x4), (5, .int x5), (6, .int x6)]) rfl ?_
              exact k_j129 x4 x5 x6 v6 v4 σ hW h
            · replace h := h.2 hc
              refine V_pc 119 rfl ?_
              refine V_sub [2, 3, 4, 5, 6, 0] (lv' := [(0, .ref 23), (1, .int a0), (4, .int x4), (5, .int x5), (6, .int x6), (8, .int v6)]) rfl ?_
              exact k_j119 x4 x5 x6 v6 v4 σ hW h
        · replace h := h.2 hc
          refine V_pc 79 rfl ?_
          refine V_aload_n 45 2 rfl rfl rfl ?_
          refine V_aload_n 46 2 rfl rfl rfl ?_
          refine V_iload_n 47 3 rfl rfl rfl ?_
          refine V_iload 48 0 rfl rfl ?_
          refine V_callV 49 2 (as := [.int a0, .int v6]) (rest := [.ref 23]) rfl mlX5_79 yvX5_getKind rfl rfl clX5 (wsh hW rfl) (by decide) (by decide) (Nat.le_of_ble_eq_true rfl) (by decide) (by decide) (fun B9 => ceX5_getKind hl B9 hW h) (fun X9 τ9 h9 => VX_out rfl h9) ?_
          rintro v9 σ7 ⟨hW, u8, rfl, h⟩
          refine V_aload_n 50 2 rfl rfl rfl ?_
          refine V_iload_n 51 3 rfl rfl rfl ?_
          refine V_iload 52 0 rfl rfl ?_
          refine V_callV 53 2 (as := [.int a0, .int v6]) (rest := [.int u8, .ref 23]) rfl mlX5_82 yvX5_getNumber rfl rfl clX5 (wsh hW rfl) (by decide) (by decide) (Nat.le_of_ble_eq_true rfl) (by decide) (by decide) (fun B9 => ceX5_getNumber hl B9 hW h) (fun X9 τ9 h9 => VX_out rfl h9) ?_
          rintro v9 σ9 ⟨hW, u10, rfl, h⟩
          refine V_iload 54 0 rfl rfl ?_
          refine V_callV 55 3 (as := [.int u8, .int u10, .int v6]) (rest := []) rfl mlX5_61 yvX5_add rfl rfl clX5 (wsh hW rfl) (by decide) (by decide) (Nat.le_of_ble_eq_true rfl) (by decide) (by decide) (fun B9 => ceX5_add hl B9 hW h) (fun X9 τ9 h9 => VX_out rfl h9) ?_
          rintro v9 σ11 ⟨hW, rfl, h⟩
          refine V_goto 56 (tgt := 133) rfl (by decide) ?_
          refine V_sub [2, 3, 4, 5, 6] (lv' := [(0, .ref 23), (1, .int a0), (4, .int x4), (5, .int x5), (6, .int x6)]) rfl ?_
          exact k_j133 x4 x5 x6 σ11 hW h
    intro n
    induction n with
    | zero => intro x4 x5 x6  σ hW h; exact absurd h id
    | succ n ih => exact step  _ ih
  intro σ hW h
  refine V_aload_n 0 0 rfl rfl rfl ?_
  obtain ⟨q12, eq12, hq12, h⟩ := h
  refine V_getR 1 2 rfl clX5 flX5_32 (by decide) (wsh hW rfl) (fun _ => rfl) eq12 ?_
  refine V_getR 2 12 rfl clX0 flX5_85 (by decide) (wG hW hq12) (fun _ => rfl) (wG_f12 hW hq12) ?_
  refine V_iload_n 3 1 rfl rfl rfl ?_
  refine V_bipush 4 (v := (32 : Int32)) rfl (by decide) ?_
  refine V_imul 5 rfl ?_
  refine V_pc 11 rfl ?_
  refine V_iload_n 6 2 rfl rfl rfl ?_
  refine V_iadd 7 rfl ?_
  obtain ⟨hin, h⟩ := h
  refine V_iald 8 rfl (wG_a11 hW hq12) hin ?_
  refine V_topi (fun v13 ev13 => ?_)
  replace h := h v13 ev13
  refine V_istore_n 9 (lv' := [(3, .int v13), (0, .ref 23), (1, .int a0), (2, .int a1)]) rfl rfl (by decide) rfl ?_
  refine V_aload_n 10 1 rfl rfl rfl ?_
  obtain ⟨q14, eq14, hq14, h⟩ := h
  refine V_getR 11 2 rfl clX5 flX5_32 (by decide) (wsh hW rfl) (fun _ => rfl) eq14 ?_
  refine V_pc 19 rfl ?_
  refine V_getR 12 13 rfl clX0 flX5_88 (by decide) (wG hW hq14) (fun _ => rfl) (wG_f13 hW hq14) ?_
  refine V_iload_n 13 2 rfl rfl rfl ?_
  refine V_bipush 14 (v := (32 : Int32)) rfl (by decide) ?_
  refine V_imul 15 rfl ?_
  refine V_iload_n 16 3 rfl rfl rfl ?_
  refine V_iadd 17 rfl ?_
  refine V_pc 28 rfl ?_
  obtain ⟨hin, h⟩ := h
  refine V_iald 18 rfl (wG_a12 hW hq14) hin ?_
  refine V_topi (fun v15 ev15 => ?_)
  replace h := h v15 ev15
  refine V_istore 19 (lv' := [(4, .int v15), (3, .int v13), (0, .ref 23), (1, .int a0), (2, .int a1)]) rfl (by decide) rfl ?_
  refine V_aload_n 20 2 rfl rfl rfl ?_
  refine V_get (v := .int (σ.2.1 23 7)) 21 7 rfl clX5 flX5_36 (by decide) (wsh hW rfl) (fun _ => rfl) ?_
  refine V_iload_n 22 1 rfl rfl rfl ?_
  refine V_isub 23 rfl ?_
  refine V_pc 37 rfl ?_
  refine V_topi (fun v16 ev16 => ?_)
  replace h := h v16 ev16
  refine V_istore 24 (lv' := [(5, .int v16), (4, .int v15), (3, .int v13), (0, .ref 23), (1, .int a0), (2, .int a1)]) rfl (by decide) rfl ?_
  refine V_iload_n 25 2 rfl rfl rfl ?_
  refine V_istore 26 (lv' := [(6, .int v13), (5, .int v16), (4, .int v15), (3, .int v13), (0, .ref 23), (1, .int a0), (2, .int a1)]) rfl (by decide) rfl ?_
  refine V_sub [4, 5, 2, 1, 0] (lv' := [(0, .ref 23), (1, .int a0), (4, .int v15), (5, .int v16), (6, .int v13)]) rfl ?_
  obtain ⟨n, h⟩ := h
  exact k_l42 n v15 v16 v13 σ hW h

def wX5_addEntry (a0 : Int32) (a1 : Int32) (Q : ab_S → Prop) (E : String → ab_S → Prop) (σ : ab_S) : Prop := wX4_occurrenceOf a1 (fun u2 σ1 => wX4_isVisit a1 (fun u4 σ3 => ((u4 = 0) → wX4_attributeOf a1 (fun u6 σ5 => ∀ v7 : Int32, v7 = ((u2 * (8 : Int32)) + u6) → wX5_addExpression a0 v7 (fun σ8 => wX5_getKind a0 v7 (fun u10 σ9 => wX5_getNumber a0 v7 (fun u12 σ11 => wX5_add (u10 + (13 : Int32)) u12 v7 (fun σ13 => Q σ13) E σ11) E σ9) E σ8) E σ5) E σ3) ∧ (¬ (u4 = 0) → wX5_add (19 : Int32) u2 (0 : Int32) (fun σ14 => Q σ14) E σ3)) E σ1) E σ
set_option maxHeartbeats 4000000 in
set_option maxRecDepth 100000 in
theorem ceX5_addEntry {l : Launch} (hl : l.stackTraces = false) (B : Nat) {a0 : Int32} {a1 : Int32}  {Q : ab_S → Prop} {E : String → ab_S → Prop} {σ : ab_S} (hW : Wire σ) (h : wX5_addEntry a0 a1 Q E σ) : ab_Mt l yX5_addEntry mdX5_addEntry B 4 101 0 0 [.ref 23, .int a0, .int a1] σ (fun v σ' => Wire σ' ∧ v = none ∧ Q σ') (fun X σ' => Wire σ' ∧ E X σ') := by
  refine V_met hl ⟨rfl, rfl, by decide⟩ rfl dkX5_addEntry (Nat.le_of_ble_eq_true rfl) ?_
  show V l mdX5_addEntry B 4 101 0 0 (ab_End _ _) 0 [(0, .ref 23), (1, .int a0), (2, .int a1)] [] σ
  refine V_aload_n 0 0 rfl rfl rfl ?_
  refine V_getR 1 0 rfl clX5 flX5_24 (by decide) (wsh hW rfl) (fun _ => rfl) (wrf hW 30 rfl) ?_
  refine V_iload_n 2 2 rfl rfl rfl ?_
  refine V_callV 3 1 (as := [.int a1]) (rest := []) rfl mlX5_65 yvX4_occurrenceOf rfl rfl clX4 (wsh hW rfl) (by decide) (by decide) (Nat.le_of_ble_eq_true rfl) (by decide) (by decide) (fun B9 => ceX4_occurrenceOf hl B9 hW h) (fun X9 τ9 h9 => VX_out rfl h9) ?_
  rintro v9 σ1 ⟨hW, u2, rfl, h⟩
  refine V_istore_n 4 (lv' := [(3, .int u2), (0, .ref 23), (1, .int a0), (2, .int a1)]) rfl rfl (by decide) rfl ?_
  refine V_aload_n 5 1 rfl rfl rfl ?_
  refine V_getR 6 0 rfl clX5 flX5_24 (by decide) (wsh hW rfl) (fun _ => rfl) (wrf hW 30 rfl) ?_
  refine V_iload_n 7 3 rfl rfl rfl ?_
  refine V_callV 8 1 (as := [.int a1]) (rest := []) rfl mlX5_69 yvX4_isVisit rfl rfl clX4 (wsh hW rfl) (by decide) (by decide) (Nat.le_of_ble_eq_true rfl) (by decide) (by decide) (fun B9 => ceX4_isVisit hl B9 hW h) (fun X9 τ9 h9 => VX_out rfl h9) ?_
  rintro v9 σ3 ⟨hW, u4, rfl, h⟩
  refine V_if_eq 9 (tgt := 29) rfl (by decide) (fun hc => ?_) (fun hc => ?_)
  · replace h := h.1 hc
    refine V_iload_n 16 0 rfl rfl rfl ?_
    refine V_bipush 17 (v := (8 : Int32)) rfl (by decide) ?_
    refine V_imul 18 rfl ?_
    refine V_aload_n 19 1 rfl rfl rfl ?_
    refine V_getR 20 0 rfl clX5 flX5_24 (by decide) (wsh hW rfl) (fun _ => rfl) (wrf hW 30 rfl) ?_
    refine V_iload_n 21 3 rfl rfl rfl ?_
    refine V_pc 38 rfl ?_
    refine V_callV 22 1 (as := [.int a1]) (rest := [.int (u2 * (8 : Int32))]) rfl mlX5_73 yvX4_attributeOf rfl rfl clX4 (wsh hW rfl) (by decide) (by decide) (Nat.le_of_ble_eq_true rfl) (by decide) (by decide) (fun B9 => ceX4_attributeOf hl B9 hW h) (fun X9 τ9 h9 => VX_out rfl h9) ?_
    rintro v9 σ5 ⟨hW, u6, rfl, h⟩
    refine V_iadd 23 rfl ?_
    refine V_topi (fun v7 ev7 => ?_)
    replace h := h v7 ev7
    refine V_istore 24 (lv' := [(4, .int v7), (3, .int u2), (0, .ref 23), (1, .int a0), (2, .int a1)]) rfl (by decide) rfl ?_
    refine V_aload_n 25 2 rfl rfl rfl ?_
    refine V_iload_n 26 3 rfl rfl rfl ?_
    refine V_iload 27 0 rfl rfl ?_
    refine V_pc 48 rfl ?_
    refine V_callV 28 2 (as := [.int a0, .int v7]) (rest := []) rfl mlX5_76 yvX5_addExpression rfl rfl clX5 (wsh hW rfl) (by decide) (by decide) (Nat.le_of_ble_eq_true rfl) (by decide) (by decide) (fun B9 => ceX5_addExpression hl B9 hW h) (fun X9 τ9 h9 => VX_out rfl h9) ?_
    rintro v9 σ8 ⟨hW, rfl, h⟩
    refine V_aload_n 29 2 rfl rfl rfl ?_
    refine V_aload_n 30 2 rfl rfl rfl ?_
    refine V_iload_n 31 3 rfl rfl rfl ?_
    refine V_iload 32 0 rfl rfl ?_
    refine V_callV 33 2 (as := [.int a0, .int v7]) (rest := [.ref 23]) rfl mlX5_79 yvX5_getKind rfl rfl clX5 (wsh hW rfl) (by decide) (by decide) (Nat.le_of_ble_eq_true rfl) (by decide) (by decide) (fun B9 => ceX5_getKind hl B9 hW h) (fun X9 τ9 h9 => VX_out rfl h9) ?_
    rintro v9 σ9 ⟨hW, u10, rfl, h⟩
    refine V_bipush 34 (v := (13 : Int32)) rfl (by decide) ?_
    refine V_iadd 35 rfl ?_
    refine V_aload_n 36 2 rfl rfl rfl ?_
    refine V_iload_n 37 3 rfl rfl rfl ?_
    refine V_iload 38 0 rfl rfl ?_
    refine V_pc 66 rfl ?_
    refine V_callV 39 2 (as := [.int a0, .int v7]) (rest := [.int (u10 + (13 : Int32)), .ref 23]) rfl mlX5_82 yvX5_getNumber rfl rfl clX5 (wsh hW rfl) (by decide) (by decide) (Nat.le_of_ble_eq_true rfl) (by decide) (by decide) (fun B9 => ceX5_getNumber hl B9 hW h) (fun X9 τ9 h9 => VX_out rfl h9) ?_
    rintro v9 σ11 ⟨hW, u12, rfl, h⟩
    refine V_iload 40 0 rfl rfl ?_
    refine V_callV 41 3 (as := [.int (u10 + (13 : Int32)), .int u12, .int v7]) (rest := []) rfl mlX5_61 yvX5_add rfl rfl clX5 (wsh hW rfl) (by decide) (by decide) (Nat.le_of_ble_eq_true rfl) (by decide) (by decide) (fun B9 => ceX5_add hl B9 hW h) (fun X9 τ9 h9 => VX_out rfl h9) ?_
    rintro v9 σ13 ⟨hW, rfl, h⟩
    exact V_vret 42 rfl rfl ⟨hW, rfl, h⟩
  · replace h := h.2 hc
    refine V_pc 20 rfl ?_
    refine V_aload_n 10 1 rfl rfl rfl ?_
    refine V_bipush 11 (v := (19 : Int32)) rfl (by decide) ?_
    refine V_iload_n 12 0 rfl rfl rfl ?_
    refine V_iconst 13 (v := (0 : Int32)) rfl (by decide) ?_
    refine V_callV 14 3 (as := [.int (19 : Int32), .int u2, .int (0 : Int32)]) (rest := []) rfl mlX5_61 yvX5_add rfl rfl clX5 (wsh hW rfl) (by decide) (by decide) (Nat.le_of_ble_eq_true rfl) (by decide) (by decide) (fun B9 => ceX5_add hl B9 hW h) (fun X9 τ9 h9 => VX_out rfl h9) ?_
    rintro v9 σ14 ⟨hW, rfl, h⟩
    exact V_vret 15 rfl rfl ⟨hW, rfl, h⟩

def wX5_assemble_j113 (a0 : Nat) (Q : ab_S → Prop) (E : String → ab_S → Prop) (Bk : Int32 → ab_S → Prop) (x2 : Int32) (σ : ab_S) : Prop := ∀ v1 : Int32, v1 = (x2 + 1) → Bk v1 σ
def wX5_assemble_j99 (a0 : Nat) (Q : ab_S → Prop) (E : String → ab_S → Prop) (K113 : Int32 → ab_S → Prop) (Bk : Int32 → Int32 → Int32 → ab_S → Prop) (x2 : Int32) (x3 : Int32) (x4 : Int32) (σ : ab_S) : Prop := wX5_add (20 : Int32) (0 : Int32) (0 : Int32) (fun σ2 => ∀ v3 : Int32, v3 = (x4 + 1) → Bk x2 x3 v3 σ2) E σ
def wX5_assemble_l69_b (a0 : Nat) (Q : ab_S → Prop) (E : String → ab_S → Prop) (K99 : Int32 → Int32 → Int32 → ab_S → Prop) (Bk : Int32 → Int32 → Int32 → Int32 → ab_S → Prop) (x2 : Int32) (x3 : Int32) (x4 : Int32) (x5 : Int32) (σ : ab_S) : Prop := wX4_first x2 (x4 + (1 : Int32)) (fun u5 σ4 => ((u5 ≤ x5) → K99 x2 x3 x4 σ4) ∧ (¬ (u5 ≤ x5) → wX5_addEntry x2 x5 (fun σ6 => ∀ v7 : Int32, v7 = (x5 + 1) → Bk x2 x3 x4 v7 σ6) E σ4)) E σ
def wX5_assemble_l69 (a0 : Nat) (Q : ab_S → Prop) (E : String → ab_S → Prop) (K99 : Int32 → Int32 → Int32 → ab_S → Prop) : Nat → Int32 → Int32 → Int32 → Int32 → ab_S → Prop
  | 0, _, _, _, _, _ => False
  | n + 1, x2, x3, x4, x5, σ => wX5_assemble_l69_b a0 Q E K99 (wX5_assemble_l69 a0 Q E K99 n) x2 x3 x4 x5 σ
def wX5_assemble_l35_b (a0 : Nat) (Q : ab_S → Prop) (E : String → ab_S → Prop) (K113 : Int32 → ab_S → Prop) (Bk : Int32 → Int32 → Int32 → ab_S → Prop) (x2 : Int32) (x3 : Int32) (x4 : Int32) (σ : ab_S) : Prop := ((x3 < x4) → K113 x2 σ) ∧ (¬ (x3 < x4) → vp_in ((x2 * (7 : Int32)) + x4) 210 ∧ (∀ σ8 : ab_S, σ8 = ab_I σ 27 ((x2 * (7 : Int32)) + x4).toNatClampNeg (σ.2.1 23 7) → wX4_first x2 x4 (fun u10 σ9 => ∃ n, wX5_assemble_l69 a0 Q E (wX5_assemble_j99 a0 Q E K113 Bk) n x2 x3 x4 u10 σ9) E σ8))
def wX5_assemble_l35 (a0 : Nat) (Q : ab_S → Prop) (E : String → ab_S → Prop) (K113 : Int32 → ab_S → Prop) : Nat → Int32 → Int32 → Int32 → ab_S → Prop
  | 0, _, _, _, _ => False
  | n + 1, x2, x3, x4, σ => wX5_assemble_l35_b a0 Q E K113 (wX5_assemble_l35 a0 Q E K113 n) x2 x3 x4 σ
def wX5_assemble_l12_b (a0 : Nat) (Q : ab_S → Prop) (E : String → ab_S → Prop) (Bk : Int32 → ab_S → Prop) (x2 : Int32) (σ : ab_S) : Prop := (((σ.2.1 a0 5) ≤ x2) → Q σ) ∧ (¬ ((σ.2.1 a0 5) ≤ x2) → wX0_symbolAt a0 x2 (0 : Int32) (fun u12 σ11 => vp_in u12 12 ∧ (∀ v13 : Int32, v13 = (σ11.2.1 (a0 + 17) u12.toNatClampNeg) → ∃ n, wX5_assemble_l35 a0 Q E (wX5_assemble_j113 a0 Q E Bk) n x2 v13 (1 : Int32) σ11)) E σ)
def wX5_assemble_l12 (a0 : Nat) (Q : ab_S → Prop) (E : String → ab_S → Prop) : Nat → Int32 → ab_S → Prop
  | 0, _, _ => False
  | n + 1, x2, σ => wX5_assemble_l12_b a0 Q E (wX5_assemble_l12 a0 Q E n) x2 σ
def wX5_assemble (a0 : Nat) (Q : ab_S → Prop) (E : String → ab_S → Prop) (σ : ab_S) : Prop := (∀ σ14 : ab_S, σ14 = ab_R σ 23 2 (some a0) → (∀ σ15 : ab_S, σ15 = ab_I σ14 23 7 (0 : Int32) → ∃ n, wX5_assemble_l12 a0 Q E n (0 : Int32) σ15))
set_option maxHeartbeats 4000000 in
set_option maxRecDepth 100000 in
theorem ceX5_assemble {l : Launch} (hl : l.stackTraces = false) (B : Nat) {a0 : Nat} (ha0 : isG a0) {Q : ab_S → Prop} {E : String → ab_S → Prop} {σ : ab_S} (hW : Wire σ) (h : wX5_assemble a0 Q E σ) : ab_Mt l yX5_assemble mdX5_assemble B 5 125 0 0 [.ref 23, .ref a0] σ (fun v σ' => Wire σ' ∧ v = none ∧ Q σ') (fun X σ' => Wire σ' ∧ E X σ') := by
  refine V_met hl ⟨rfl, rfl, by decide⟩ rfl dkX5_assemble (Nat.le_of_ble_eq_true rfl) ?_
  show V l mdX5_assemble B 5 125 0 0 (ab_End _ _) 0 [(0, .ref 23), (1, .ref a0)] [] σ
  revert h hW
  revert σ
  have k_l12 : ∀ (n : Nat) (x2 : Int32)  (σ : ab_S), Wire σ → wX5_assemble_l12 a0 Q E n x2 σ → V l mdX5_assemble B 5 125 0 0 (ab_End (fun v σ' => Wire σ' ∧ v = none ∧ Q σ') (fun X σ' => Wire σ' ∧ E X σ')) 12 [(0, .ref 23), (1, .ref a0), (2, .int x2)] [] σ := by
    have step : ∀ (Bk : Int32 → ab_S → Prop) (k_Bk : ∀ (x2 : Int32)  (σ : ab_S), Wire σ → Bk x2 σ → V l mdX5_assemble B 5 125 0 0 (ab_End (fun v σ' => Wire σ' ∧ v = none ∧ Q σ') (fun X σ' => Wire σ' ∧ E X σ')) 12 [(0, .ref 23), (1, .ref a0), (2, .int x2)] [] σ), ∀ (x2 : Int32)  (σ : ab_S), Wire σ → wX5_assemble_l12_b a0 Q E Bk x2 σ → V l mdX5_assemble B 5 125 0 0 (ab_End (fun v σ' => Wire σ' ∧ v = none ∧ Q σ') (fun X σ' => Wire σ' ∧ E X σ')) 12 [(0, .ref 23), (1, .ref a0), (2, .int x2)] [] σ := by
      intro Bk k_Bk
      have k_j113 : ∀ (x2 : Int32)  (σ : ab_S), Wire σ → wX5_assemble_j113 a0 Q E Bk x2 σ → V l mdX5_assemble B 5 125 0 0 (ab_End (fun v σ' => Wire σ' ∧ v = none ∧ Q σ') (fun X σ' => Wire σ' ∧ E X σ')) 113 [(0, .ref 23), (1, .ref a0), (2, .int x2)] [] σ := by
        intro x2  σ hW h
        obtain ⟨v1, ev1⟩ : ∃ z : Int32, z = (x2 + 1) := ⟨_, rfl⟩
        replace h := h v1 ev1
        refine V_iinc 63 2 (v := v1) (lv' := [(2, .int v1), (0, .ref 23), (1, .ref a0)]) rfl rfl ((in_1 _).trans ev1.symm) (by decide) rfl ?_
        refine V_goto 64 (tgt := 12) rfl (by decide) ?_
        refine V_sub [1, 2, 0] (lv' := [(0, .ref 23), (1, .ref a0), (2, .int v1)]) rfl ?_
        exact k_Bk v1  σ hW h
      have k_l35 : ∀ (n : Nat) (x2 : Int32) (x3 : Int32) (x4 : Int32)  (σ : ab_S), Wire σ → wX5_assemble_l35 a0 Q E (wX5_assemble_j113 a0 Q E Bk) n x2 x3 x4 σ → V l mdX5_assemble B 5 125 0 0 (ab_End (fun v σ' => Wire σ' ∧ v = none ∧ Q σ') (fun X σ' => Wire σ' ∧ E X σ')) 35 [(0, .ref 23), (1, .ref a0), (2, .int x2), (3, .int x3), (4, .int x4)] [] σ := by
        have step : ∀ (K113 : Int32 → ab_S → Prop) (k_K113 : ∀ (x2 : Int32)  (σ : ab_S), Wire σ → K113 x2 σ → V l mdX5_assemble B 5 125 0 0 (ab_End (fun v σ' => Wire σ' ∧ v = none ∧ Q σ') (fun X σ' => Wire σ' ∧ E X σ')) 113 [(0, .ref 23), (1, .ref a0), (2, .int x2)] [] σ), ∀ (Bk : Int32 → Int32 → Int32 → ab_S → Prop) (k_Bk : ∀ (x2 : Int32) (x3 : Int32) (x4 : Int32)  (σ : ab_S), Wire σ → Bk x2 x3 x4 σ → V l mdX5_assemble B 5 125 0 0 (ab_End (fun v σ' => Wire σ' ∧ v = none ∧ Q σ') (fun X σ' => Wire σ' ∧ E X σ')) 35 [(0, .ref 23), (1, .ref a0), (2, .int x2), (3, .int x3), (4, .int x4)] [] σ), ∀ (x2 : Int32) (x3 : Int32) (x4 : Int32)  (σ : ab_S), Wire σ → wX5_assemble_l35_b a0 Q E K113 Bk x2 x3 x4 σ → V l mdX5_assemble B 5 125 0 0 (ab_End (fun v σ' => Wire σ' ∧ v = none ∧ Q σ') (fun X σ' => Wire σ' ∧ E X σ')) 35 [(0, .ref 23), (1, .ref a0), (2, .int x2), (3, .int x3), (4, .int x4)] [] σ := by
          intro K113 k_K113 Bk k_Bk
          have k_j99 : ∀ (x2 : Int32) (x3 : Int32) (x4 : Int32)  (σ : ab_S), Wire σ → wX5_assemble_j99 a0 Q E K113 Bk x2 x3 x4 σ → V l mdX5_assemble B 5 125 0 0 (ab_End (fun v σ' => Wire σ' ∧ v = none ∧ Q σ') (fun X σ' => Wire σ' ∧ E X σ')) 99 [(0, .ref 23), (1, .ref a0), (2, .int x2), (3, .int x3), (4, .int x4)] [] σ := by
            intro x2 x3 x4  σ hW h
            refine V_aload_n 56 0 rfl rfl rfl ?_
            refine V_bipush 57 (v := (20 : Int32)) rfl (by decide) ?_
            refine V_iconst 58 (v := (0 : Int32)) rfl (by decide) ?_
            refine V_iconst 59 (v := (0 : Int32)) rfl (by decide) ?_
            refine V_callV 60 3 (as := [.int (20 : Int32), .int (0 : Int32), .int (0 : Int32)]) (rest := []) rfl mlX5_61 yvX5_add rfl rfl clX5 (wsh hW rfl) (by decide) (by decide) (Nat.le_of_ble_eq_true rfl) (by decide) (by decide) (fun B9 => ceX5_add hl B9 hW h) (fun X9 τ9 h9 => VX_out rfl h9) ?_
            rintro v9 σ2 ⟨hW, rfl, h⟩
            obtain ⟨v3, ev3⟩ : ∃ z : Int32, z = (x4 + 1) := ⟨_, rfl⟩
            replace h := h v3 ev3
            refine V_iinc 61 4 (v := v3) (lv' := [(4, .int v3), (0, .ref 23), (1, .ref a0), (2, .int x2), (3, .int x3)]) rfl rfl ((in_1 _).trans ev3.symm) (by decide) rfl ?_
            refine V_goto 62 (tgt := 35) rfl (by decide) ?_
            refine V_sub [1, 2, 3, 4, 0] (lv' := [(0, .ref 23), (1, .ref a0), (2, .int x2), (3, .int x3), (4, .int v3)]) rfl ?_
            exact k_Bk x2 x3 v3  σ2 hW h
          have k_l69 : ∀ (n : Nat) (x2 : Int32) (x3 : Int32) (x4 : Int32) (x5 : Int32)  (σ : ab_S), Wire σ → wX5_assemble_l69 a0 Q E (wX5_assemble_j99 a0 Q E K113 Bk) n x2 x3 x4 x5 σ → V l mdX5_assemble B 5 125 0 0 (ab_End (fun v σ' => Wire σ' ∧ v = none ∧ Q σ') (fun X σ' => Wire σ' ∧ E X σ')) 69 [(0, .ref 23), (1, .ref a0), (2, .int x2), (3, .int x3), (4, .int x4), (5, .int x5)] [] σ := by
            have step : ∀ (K99 : Int32 → Int32 → Int32 → ab_S → Prop) (k_K99 : ∀ (x2 : Int32) (x3 : Int32) (x4 : Int32)  (σ : ab_S), Wire σ → K99 x2 x3 x4 σ → V l mdX5_assemble B 5 125 0 0 (ab_End (fun v σ' => Wire σ' ∧ v = none ∧ Q σ') (fun X σ' => Wire σ' ∧ E X σ')) 99 [(0, .ref 23), (1, .ref a0), (2, .int x2), (3, .int x3), (4, .int x4)] [] σ), ∀ (Bk : Int32 → Int32 → Int32 → Int32 → ab_S → Prop) (k_Bk : ∀ (x2 : Int32) (x3 : Int32) (x4 : Int32) (x5 : Int32)  (σ : ab_S), Wire σ → Bk x2 x3 x4 x5 σ → V l mdX5_assemble B 5 125 0 0 (ab_End (fun v σ' => Wire σ' ∧ v = none ∧ Q σ') (fun X σ' => Wire σ' ∧ E X σ')) 69 [(0, .ref 23), (1, .ref a0), (2, .int x2), (3, .int x3), (4, .int x4), (5, .int x5)] [] σ), ∀ (x2 : Int32) (x3 : Int32) (x4 : Int32) (x5 : Int32)  (σ : ab_S), Wire σ → wX5_assemble_l69_b a0 Q E K99 Bk x2 x3 x4 x5 σ → V l mdX5_assemble B 5 125 0 0 (ab_End (fun v σ' => Wire σ' ∧ v = none ∧ Q σ') (fun X σ' => Wire σ' ∧ E X σ')) 69 [(0, .ref 23), (1, .ref a0), (2, .int x2), (3, .int x3), (4, .int x4), (5, .int x5)] [] σ := by
              intro K99 k_K99 Bk k_Bk
              intro x2 x3 x4 x5  σ hW h
              refine V_iload 41 5 rfl rfl ?_
              refine V_aload_n 42 0 rfl rfl rfl ?_
              refine V_getR 43 0 rfl clX5 flX5_24 (by decide) (wsh hW rfl) (fun _ => rfl) (wrf hW 30 rfl) ?_
              refine V_iload_n 44 2 rfl rfl rfl ?_
              refine V_iload 45 4 rfl rfl ?_
              refine V_iconst 46 (v := (1 : Int32)) rfl (by decide) ?_
              refine V_pc 79 rfl ?_
              refine V_iadd 47 rfl ?_
              refine V_callV 48 2 (as := [.int x2, .int (x4 + (1 : Int32))]) (rest := [.int x5]) rfl mlX5_52 yvX4_first rfl rfl clX4 (wsh hW rfl) (by decide) (by decide) (Nat.le_of_ble_eq_true rfl) (by decide) (by decide) (fun B9 => ceX4_first hl B9 hW h) (fun X9 τ9 h9 => VX_out rfl h9) ?_
              rintro v9 σ4 ⟨hW, u5, rfl, h⟩
              refine V_icmp_ge 49 (tgt := 99) rfl (by decide) (fun hc => ?_) (fun hc => ?_)
              · replace h := h.1 hc
                refine V_sub [0, 1, 2, 3, 4] (lv' := [(0, .ref 23), (1, .ref a0), (2, .int x2), (3, .int x3), (4, .int x4)]) rfl ?_
                exact k_K99 x2 x3 x4  σ4 hW h
              · replace h := h.2 hc
                refine V_pc 86 rfl ?_
                refine V_aload_n 50 0 rfl rfl rfl ?_
                refine V_iload_n 51 2 rfl rfl rfl ?_
                refine V_iload 52 5 rfl rfl ?_
                refine V_callV 53 2 (as := [.int x2, .int x5]) (rest := []) rfl mlX5_57 yvX5_addEntry rfl rfl clX5 (wsh hW rfl) (by decide) (by decide) (Nat.le_of_ble_eq_true rfl) (by decide) (by decide) (fun B9 => ceX5_addEntry hl B9 hW h) (fun X9 τ9 h9 => VX_out rfl h9) ?_
                rintro v9 σ6 ⟨hW, rfl, h⟩
                obtain ⟨v7, ev7⟩ : ∃ z : Int32, z = (x5 + 1) := ⟨_, rfl⟩
                replace h := h v7 ev7
                refine V_iinc 54 5 (v := v7) (lv' := [(5, .int v7), (0, .ref 23), (1, .ref a0), (2, .int x2), (3, .int x3), (4, .int x4)]) rfl rfl ((in_1 _).trans ev7.symm) (by decide) rfl ?_
                refine V_goto 55 (tgt := 69) rfl (by decide) ?_
                refine V_sub [1, 2, 3, 4, 5, 0] (lv' := [(0, .ref 23), (1, .ref a0), (2, .int x2), (3, .int x3), (4, .int x4), (5, .int v7)]) rfl ?_
                exact k_Bk x2 x3 x4 v7  σ6 hW h
            intro n
            induction n with
            | zero => intro x2 x3 x4 x5  σ hW h; exact absurd h id
            | succ n ih => exact step _ k_j99 _ ih
          intro x2 x3 x4  σ hW h
          refine V_iload 22 4 rfl rfl ?_
          refine V_iload_n 23 3 rfl rfl rfl ?_
          refine V_icmp_gt 24 (tgt := 113) rfl (by decide) (fun hc => ?_) (fun hc => ?_)
          · replace h := h.1 hc
            refine V_sub [0, 1, 2] (lv' := [(0, .ref 23), (1, .ref a0), (2, .int x2)]) rfl ?_
            exact k_K113 x2  σ hW h
          · replace h := h.2 hc
            refine V_pc 41 rfl ?_
            refine V_aload_n 25 0 rfl rfl rfl ?_
            refine V_getR 26 6 rfl clX5 flX5_21 (by decide) (wsh hW rfl) (fun _ => rfl) (wrf hW 35 rfl) ?_
            refine V_iload_n 27 2 rfl rfl rfl ?_
            refine V_bipush 28 (v := (7 : Int32)) rfl (by decide) ?_
            refine V_imul 29 rfl ?_
            refine V_iload 30 4 rfl rfl ?_
            refine V_pc 51 rfl ?_
            refine V_iadd 31 rfl ?_
            refine V_aload_n 32 0 rfl rfl rfl ?_
            refine V_get (v := .int (σ.2.1 23 7)) 33 7 rfl clX5 flX5_36 (by decide) (wsh hW rfl) (fun _ => rfl) ?_
            obtain ⟨hin, h⟩ := h
            refine V_iast 34 rfl (wsh hW rfl) hin ?_
            refine V_nm (fun σ8 eσ8 => ?_)
            replace h := h σ8 eσ8
            have hW := wire_I eσ8 hW
            refine V_aload_n 35 0 rfl rfl rfl ?_
            refine V_getR 36 0 rfl clX5 flX5_24 (by decide) (wsh hW rfl) (fun _ => rfl) (wrf hW 30 rfl) ?_
            refine V_pc 61 rfl ?_
            refine V_iload_n 37 2 rfl rfl rfl ?_
            refine V_iload 38 4 rfl rfl ?_
            refine V_callV 39 2 (as := [.int x2, .int x4]) (rest := []) rfl mlX5_52 yvX4_first rfl rfl clX4 (wsh hW rfl) (by decide) (by decide) (Nat.le_of_ble_eq_true rfl) (by decide) (by decide) (fun B9 => ceX4_first hl B9 hW h) (fun X9 τ9 h9 => VX_out rfl h9) ?_
            rintro v9 σ9 ⟨hW, u10, rfl, h⟩
            refine V_istore 40 (lv' := [(5, .int u10), (0, .ref 23), (1, .ref a0), (2, .int x2), (3, .int x3), (4, .int x4)]) rfl (by decide) rfl ?_
            refine V_sub [1, 2, 3, 4, 5, 0] (lv' := [(0, .ref 23), (1, .ref a0), (2, .int x2), (3, .int x3), (4, .int x4), (5, .int u10)]) rfl ?_
            obtain ⟨n, h⟩ := h
            exact k_l69 n x2 x3 x4 u10 σ9 hW h
        intro n
        induction n with
        | zero => intro x2 x3 x4  σ hW h; exact absurd h id
        | succ n ih => exact step _ k_j113 _ ih
      intro x2  σ hW h
      refine V_iload_n 8 2 rfl rfl rfl ?_
      refine V_aload_n 9 1 rfl rfl rfl ?_
      refine V_get (v := .int (σ.2.1 a0 5)) 10 5 rfl clX0 flX5_40 (by decide) (wG hW ha0) (fun _ => rfl) ?_
      refine V_icmp_ge 11 (tgt := 119) rfl (by decide) (fun hc => ?_) (fun hc => ?_)
      · replace h := h.1 hc
        exact V_vret 65 rfl rfl ⟨hW, rfl, h⟩
      · replace h := h.2 hc
        refine V_pc 20 rfl ?_
        refine V_aload_n 12 1 rfl rfl rfl ?_
        refine V_getR 13 19 rfl clX0 flX5_45 (by decide) (wG hW ha0) (fun _ => rfl) (wG_f19 hW ha0) ?_
        refine V_aload_n 14 1 rfl rfl rfl ?_
        refine V_iload_n 15 2 rfl rfl rfl ?_
        refine V_iconst 16 (v := (0 : Int32)) rfl (by decide) ?_
        refine V_callV 17 2 (as := [.int x2, .int (0 : Int32)]) (rest := [.ref (a0 + 17)]) rfl mlX5_48 yvX0_symbolAt rfl rfl clX0 (wG hW ha0) (by decide) (by decide) (Nat.le_of_ble_eq_true rfl) (by decide) (by decide) (fun B9 => ceX0_symbolAt hl B9 ha0 hW h) (fun X9 τ9 h9 => VX_out rfl h9) ?_
        rintro v9 σ11 ⟨hW, u12, rfl, h⟩
        obtain ⟨hin, h⟩ := h
        refine V_iald 18 rfl (wG_a17 hW ha0) hin ?_
        refine V_topi (fun v13 ev13 => ?_)
        replace h := h v13 ev13
        refine V_istore_n 19 (lv' := [(3, .int v13), (0, .ref 23), (1, .ref a0), (2, .int x2)]) rfl rfl (by decide) rfl ?_
        refine V_iconst 20 (v := (1 : Int32)) rfl (by decide) ?_
        refine V_istore 21 (lv' := [(4, .int (1 : Int32)), (3, .int v13), (0, .ref 23), (1, .ref a0), (2, .int x2)]) rfl (by decide) rfl ?_
        refine V_sub [2, 3, 4, 1, 0] (lv' := [(0, .ref 23), (1, .ref a0), (2, .int x2), (3, .int v13), (4, .int (1 : Int32))]) rfl ?_
        obtain ⟨n, h⟩ := h
        exact k_l35 n x2 v13 (1 : Int32) σ11 hW h
    intro n
    induction n with
    | zero => intro x2  σ hW h; exact absurd h id
    | succ n ih => exact step  _ ih
  intro σ hW h
  refine V_aload_n 0 0 rfl rfl rfl ?_
  refine V_aload_n 1 1 rfl rfl rfl ?_
  refine V_putR (x := some a0) 2 2 rfl clX5 flX5_32 (by decide) (wsh hW rfl) rfl (fun _ _ => rfl) (fun v9 h9 => by rcases h9 with rfl | ⟨a9, rfl⟩ <;> exact ⟨rfl, rfl⟩) ?_
  refine V_nm (fun σ14 eσ14 => ?_)
  replace h := h σ14 eσ14
  have hW := wire_R eσ14 (by decide +kernel) hW
  refine V_aload_n 3 0 rfl rfl rfl ?_
  refine V_iconst 4 (v := (0 : Int32)) rfl (by decide) ?_
  refine V_putI 5 7 rfl clX5 flX5_36 (by decide) (wsh hW rfl) rfl (fun _ _ => rfl) rfl rfl ?_
  refine V_nm (fun σ15 eσ15 => ?_)
  replace h := h σ15 eσ15
  have hW := wire_I eσ15 hW
  refine V_iconst 6 (v := (0 : Int32)) rfl (by decide) ?_
  refine V_istore_n 7 (lv' := [(2, .int (0 : Int32)), (0, .ref 23), (1, .ref a0)]) rfl rfl (by decide) rfl ?_
  refine V_sub [1, 2, 0] (lv' := [(0, .ref 23), (1, .ref a0), (2, .int (0 : Int32))]) rfl ?_
  obtain ⟨n, h⟩ := h
  exact k_l12 n (0 : Int32) σ15 hW h

def wX7_rowOf (a0 : Int32) (a1 : Int32) (Q : Int32 → ab_S → Prop) (E : String → ab_S → Prop) (σ : ab_S) : Prop := Q (((a0 * (7 : Int32)) + a1) * (12 : Int32)) σ
set_option maxHeartbeats 4000000 in
set_option maxRecDepth 100000 in
theorem ceX7_rowOf {l : Launch} (hl : l.stackTraces = false) (B : Nat) {a0 : Int32} {a1 : Int32}  {Q : Int32 → ab_S → Prop} {E : String → ab_S → Prop} {σ : ab_S} (hW : Wire σ) (h : wX7_rowOf a0 a1 Q E σ) : ab_Mt l yX7_rowOf mdX7_rowOf B 0 0 0 0 [.int a0, .int a1] σ (fun v σ' => Wire σ' ∧ ∃ r : Int32, v = some (.int r) ∧ Q r σ') (fun X σ' => Wire σ' ∧ E X σ') := by
  refine V_met hl ⟨rfl, rfl, by decide⟩ rfl dkX7_rowOf (Nat.le_of_ble_eq_true rfl) ?_
  show V l mdX7_rowOf B 0 0 0 0 (ab_End _ _) 0 [(0, .int a0), (1, .int a1)] [] σ
  refine V_iload_n 0 0 rfl rfl rfl ?_
  refine V_bipush 1 (v := (7 : Int32)) rfl (by decide) ?_
  refine V_imul 2 rfl ?_
  refine V_iload_n 3 1 rfl rfl rfl ?_
  refine V_iadd 4 rfl ?_
  refine V_bipush 5 (v := (12 : Int32)) rfl (by decide) ?_
  refine V_pc 8 rfl ?_
  refine V_imul 6 rfl ?_
  exact V_iret 7 rfl rfl ⟨hW, _, rfl, h⟩

def wX7_addDefined_j18 (a0 : Int32) (a1 : Int32) (Q : Int32 → ab_S → Prop) (E : String → ab_S → Prop) (y0 : Int32) (σ : ab_S) : Prop := vp_in a0 1008 ∧ (vp_in a0 1008 ∧ (∀ σ1 : ab_S, σ1 = ab_I σ 20 a0.toNatClampNeg ((σ.2.1 20 a0.toNatClampNeg) ||| a1) → (y0 = 0 ∨ y0 = 1) ∧ Q y0 σ1))
def wX7_addDefined (a0 : Int32) (a1 : Int32) (Q : Int32 → ab_S → Prop) (E : String → ab_S → Prop) (σ : ab_S) : Prop := vp_in a0 1008 ∧ ((((a1 &&& ((σ.2.1 20 a0.toNatClampNeg) ^^^ (-1 : Int32))) = 0) → wX7_addDefined_j18 a0 a1 Q E (0 : Int32) σ) ∧ (¬ ((a1 &&& ((σ.2.1 20 a0.toNatClampNeg) ^^^ (-1 : Int32))) = 0) → wX7_addDefined_j18 a0 a1 Q E (1 : Int32) σ))
set_option maxHeartbeats 4000000 in
set_option maxRecDepth 100000 in
theorem ceX7_addDefined {l : Launch} (hl : l.stackTraces = false) (B : Nat) {a0 : Int32} {a1 : Int32}  {Q : Int32 → ab_S → Prop} {E : String → ab_S → Prop} {σ : ab_S} (hW : Wire σ) (h : wX7_addDefined a0 a1 Q E σ) : ab_Mt l yX7_addDefined mdX7_addDefined B 0 0 0 0 [.ref 19, .int a0, .int a1] σ (fun v σ' => Wire σ' ∧ ∃ r : Int32, v = some (.int r) ∧ Q r σ') (fun X σ' => Wire σ' ∧ E X σ') := by
  refine V_met hl ⟨rfl, rfl, by decide⟩ rfl dkX7_addDefined (Nat.le_of_ble_eq_true rfl) ?_
  show V l mdX7_addDefined B 0 0 0 0 (ab_End _ _) 0 [(0, .ref 19), (1, .int a0), (2, .int a1)] [] σ
  revert h hW
  revert σ
  have k_j18 : ∀ (y0 : Int32)  (σ : ab_S), Wire σ → wX7_addDefined_j18 a0 a1 Q E y0 σ → V l mdX7_addDefined B 0 0 0 0 (ab_End (fun v σ' => Wire σ' ∧ ∃ r : Int32, v = some (.int r) ∧ Q r σ') (fun X σ' => Wire σ' ∧ E X σ')) 18 [(0, .ref 19), (1, .int a0), (2, .int a1)] [.int y0] σ := by
    intro y0  σ hW h
    refine V_istore_n 12 (lv' := [(3, .int y0), (0, .ref 19), (1, .int a0), (2, .int a1)]) rfl rfl (by decide) rfl ?_
    refine V_aload_n 13 1 rfl rfl rfl ?_
    refine V_getR 14 2 rfl clX7 flX7_9 (by decide) (wsh hW rfl) (fun _ => rfl) (wrf hW 27 rfl) ?_
    refine V_iload_n 15 2 rfl rfl rfl ?_
    refine V_dup2 16 rfl rfl rfl ?_
    obtain ⟨hin, h⟩ := h
    refine V_iald 17 rfl (wsh hW rfl) hin ?_
    refine V_pc 26 rfl ?_
    refine V_iload_n 18 3 rfl rfl rfl ?_
    refine V_ior 19 rfl ?_
    obtain ⟨hin, h⟩ := h
    refine V_iast 20 rfl (wsh hW rfl) hin ?_
    refine V_nm (fun σ1 eσ1 => ?_)
    replace h := h σ1 eσ1
    have hW := wire_I eσ1 hW
    refine V_iload_n 21 0 rfl rfl rfl ?_
    exact V_zret 22 rfl rfl (nb1 h.1) ⟨hW, _, rfl, h.2⟩
  intro σ hW h
  refine V_iload_n 0 2 rfl rfl rfl ?_
  refine V_aload_n 1 0 rfl rfl rfl ?_
  refine V_getR 2 2 rfl clX7 flX7_9 (by decide) (wsh hW rfl) (fun _ => rfl) (wrf hW 27 rfl) ?_
  refine V_iload_n 3 1 rfl rfl rfl ?_
  obtain ⟨hin, h⟩ := h
  refine V_iald 4 rfl (wsh hW rfl) hin ?_
  refine V_iconst 5 (v := (-1 : Int32)) rfl (by decide) ?_
  refine V_pc 8 rfl ?_
  refine V_ixor 6 rfl ?_
  refine V_iand 7 rfl ?_
  refine V_if_eq 8 (tgt := 17) rfl (by decide) (fun hc => ?_) (fun hc => ?_)
  · replace h := h.1 hc
    refine V_iconst 11 (v := (0 : Int32)) rfl (by decide) ?_
    exact k_j18 (0 : Int32) σ hW h
  · replace h := h.2 hc
    refine V_pc 13 rfl ?_
    refine V_iconst 9 (v := (1 : Int32)) rfl (by decide) ?_
    refine V_goto 10 (tgt := 18) rfl (by decide) ?_
    exact k_j18 (1 : Int32) σ hW h

def wX7_collectDefined_j184 (a0 : Int32) (Q : Int32 → ab_S → Prop) (E : String → ab_S → Prop) (Bk : Int32 → Int32 → Int32 → Int32 → ab_S → Prop) (x2 : Int32) (x3 : Int32) (x4 : Int32) (x5 : Int32) (σ : ab_S) : Prop := ∀ v1 : Int32, v1 = (x5 + 1) → Bk x2 x3 x4 v1 σ
def wX7_collectDefined_j158 (a0 : Int32) (Q : Int32 → ab_S → Prop) (E : String → ab_S → Prop) (Bk : Int32 → Int32 → Int32 → Int32 → ab_S → Prop) (x2 : Int32) (x3 : Int32) (x4 : Int32) (x5 : Int32) (σ : ab_S) : Prop := wX7_collectDefined_j184 a0 Q E Bk x2 x3 x4 x5 σ
def wX7_collectDefined_l118_b (a0 : Int32) (Q : Int32 → ab_S → Prop) (E : String → ab_S → Prop) (K158 : Int32 → Int32 → Int32 → Int32 → ab_S → Prop) (Bk : Int32 → Int32 → Int32 → Int32 → Int32 → Int32 → Int32 → ab_S → Prop) (x2 : Int32) (x3 : Int32) (x4 : Int32) (x5 : Int32) (x6 : Int32) (x8 : Int32) (x9 : Int32) (σ : ab_S) : Prop := ∃ q2, σ.2.2.2 19 1 = some q2 ∧ isG q2 ∧ ((((σ.2.1 q2 0) ≤ x9) → K158 x2 x3 x4 x5 σ) ∧ (¬ ((σ.2.1 q2 0) ≤ x9) → vp_in (x8 + x9) 1008 ∧ (wX7_addDefined (x6 + x9) (σ.2.1 20 (x8 + x9).toNatClampNeg) (fun u4 σ3 => ∀ v5 : Int32, v5 = (x2 ||| u4) → ∀ v6 : Int32, v6 = (x9 + 1) → Bk v5 x3 x4 x5 x6 x8 v6 σ3) E σ)))
def wX7_collectDefined_l118 (a0 : Int32) (Q : Int32 → ab_S → Prop) (E : String → ab_S → Prop) (K158 : Int32 → Int32 → Int32 → Int32 → ab_S → Prop) : Nat → Int32 → Int32 → Int32 → Int32 → Int32 → Int32 → Int32 → ab_S → Prop
  | 0, _, _, _, _, _, _, _, _ => False
  | n + 1, x2, x3, x4, x5, x6, x8, x9, σ => wX7_collectDefined_l118_b a0 Q E K158 (wX7_collectDefined_l118 a0 Q E K158 n) x2 x3 x4 x5 x6 x8 x9 σ
def wX7_collectDefined_l44_b (a0 : Int32) (Q : Int32 → ab_S → Prop) (E : String → ab_S → Prop) (Bk : Int32 → Int32 → Int32 → Int32 → ab_S → Prop) (x2 : Int32) (x3 : Int32) (x4 : Int32) (x5 : Int32) (σ : ab_S) : Prop := ((x4 ≤ x5) → (x2 = 0 ∨ x2 = 1) ∧ Q x2 σ) ∧ (¬ (x4 ≤ x5) → vp_in x5 1410 ∧ (wX7_rowOf x3 (σ.2.1 13 x5.toNatClampNeg) (fun u8 σ7 => ∃ q9, σ7.2.2.2 19 1 = some q9 ∧ isG q9 ∧ (wX4_occurrenceOf x5 (fun u11 σ10 => wX0_symbolAt q9 a0 u11 (fun u13 σ12 => wX4_isVisit x5 (fun u15 σ14 => ((u15 = 0) → wX4_attributeOf x5 (fun u17 σ16 => wX7_addDefined (u8 + u13) ((1 : Int32) <<< (u17 &&& 31)) (fun u19 σ18 => ∀ v20 : Int32, v20 = (x2 ||| u19) → wX7_collectDefined_j184 a0 Q E Bk v20 x3 x4 x5 σ18) E σ16) E σ14) ∧ (¬ (u15 = 0) → vp_in x5 1410 ∧ (wX7_rowOf u13 (σ14.2.1 14 x5.toNatClampNeg) (fun u22 σ21 => ∃ n, wX7_collectDefined_l118 a0 Q E (wX7_collectDefined_j158 a0 Q E Bk) n x2 x3 x4 x5 u8 u22 (0 : Int32) σ21) E σ14))) E σ12) E σ10) E σ7)) E σ))
def wX7_collectDefined_l44 (a0 : Int32) (Q : Int32 → ab_S → Prop) (E : String → ab_S → Prop) : Nat → Int32 → Int32 → Int32 → Int32 → ab_S → Prop
  | 0, _, _, _, _, _ => False
  | n + 1, x2, x3, x4, x5, σ => wX7_collectDefined_l44_b a0 Q E (wX7_collectDefined_l44 a0 Q E n) x2 x3 x4 x5 σ
def wX7_collectDefined (a0 : Int32) (Q : Int32 → ab_S → Prop) (E : String → ab_S → Prop) (σ : ab_S) : Prop := ∃ q23, σ.2.2.2 19 1 = some q23 ∧ isG q23 ∧ (wX0_symbolAt q23 a0 (0 : Int32) (fun u25 σ24 => ∃ q26, σ24.2.2.2 19 1 = some q26 ∧ isG q26 ∧ (vp_in u25 12 ∧ (wX4_first a0 ((σ24.2.1 (q26 + 17) u25.toNatClampNeg) + (1 : Int32)) (fun u28 σ27 => wX4_first a0 (1 : Int32) (fun u30 σ29 => ∃ n, wX7_collectDefined_l44 a0 Q E n (0 : Int32) u25 u28 u30 σ29) E σ27) E σ24))) E σ)
set_option maxHeartbeats 4000000 in
set_option maxRecDepth 100000 in
theorem ceX7_collectDefined {l : Launch} (hl : l.stackTraces = false) (B : Nat) {a0 : Int32}  {Q : Int32 → ab_S → Prop} {E : String → ab_S → Prop} {σ : ab_S} (hW : Wire σ) (h : wX7_collectDefined a0 Q E σ) : ab_Mt l yX7_collectDefined mdX7_collectDefined B 2 42 0 0 [.ref 19, .int a0] σ (fun v σ' => Wire σ' ∧ ∃ r : Int32, v = some (.int r) ∧ Q r σ') (fun X σ' => Wire σ' ∧ E X σ') := by
  refine V_met hl ⟨rfl, rfl, by decide⟩ rfl dkX7_collectDefined (Nat.le_of_ble_eq_true rfl) ?_
  show V l mdX7_collectDefined B 2 42 0 0 (ab_End _ _) 0 [(0, .ref 19), (1, .int a0)] [] σ
  revert h hW
  revert σ
  have k_l44 : ∀ (n : Nat) (x2 : Int32) (x3 : Int32) (x4 : Int32) (x5 : Int32)  (σ : ab_S), Wire σ → wX7_collectDefined_l44 a0 Q E n x2 x3 x4 x5 σ → V l mdX7_collectDefined B 2 42 0 0 (ab_End (fun v σ' => Wire σ' ∧ ∃ r : Int32, v = some (.int r) ∧ Q r σ') (fun X σ' => Wire σ' ∧ E X σ')) 44 [(0, .ref 19), (1, .int a0), (2, .int x2), (3, .int x3), (4, .int x4), (5, .int x5)] [] σ := by
    have step : ∀ (Bk : Int32 → Int32 → Int32 → Int32 → ab_S → Prop) (k_Bk : ∀ (x2 : Int32) (x3 : Int32) (x4 : Int32) (x5 : Int32)  (σ : ab_S), Wire σ → Bk x2 x3 x4 x5 σ → V l mdX7_collectDefined B 2 42 0 0 (ab_End (fun v σ' => Wire σ' ∧ ∃ r : Int32, v = some (.int r) ∧ Q r σ') (fun X σ' => Wire σ' ∧ E X σ')) 44 [(0, .ref 19), (1, .int a0), (2, .int x2), (3, .int x3), (4, .int x4), (5, .int x5)] [] σ), ∀ (x2 : Int32) (x3 : Int32) (x4 : Int32) (x5 : Int32)  (σ : ab_S), Wire σ → wX7_collectDefined_l44_b a0 Q E Bk x2 x3 x4 x5 σ → V l mdX7_collectDefined B 2 42 0 0 (ab_End (fun v σ' => Wire σ' ∧ ∃ r : Int32, v = some (.int r) ∧ Q r σ') (fun X σ' => Wire σ' ∧ E X σ')) 44 [(0, .ref 19), (1, .int a0), (2, .int x2), (3, .int x3), (4, .int x4), (5, .int x5)] [] σ := by
      intro Bk k_Bk
      have k_j184 : ∀ (x2 : Int32) (x3 : Int32) (x4 : Int32) (x5 : Int32)  (σ : ab_S), Wire σ → wX7_collectDefined_j184 a0 Q E Bk x2 x3 x4 x5 σ → V l mdX7_collectDefined B 2 42 0 0 (ab_End (fun v σ' => Wire σ' ∧ ∃ r : Int32, v = some (.int r) ∧ Q r σ') (fun X σ' => Wire σ' ∧ E X σ')) 184 [(0, .ref 19), (1, .int a0), (2, .int x2), (3, .int x3), (4, .int x4), (5, .int x5)] [] σ := by
        intro x2 x3 x4 x5  σ hW h
        obtain ⟨v1, ev1⟩ : ∃ z : Int32, z = (x5 + 1) := ⟨_, rfl⟩
        replace h := h v1 ev1
        refine V_iinc 97 5 (v := v1) (lv' := [(5, .int v1), (0, .ref 19), (1, .int a0), (2, .int x2), (3, .int x3), (4, .int x4)]) rfl rfl ((in_1 _).trans ev1.symm) (by decide) rfl ?_
        refine V_goto 98 (tgt := 44) rfl (by decide) ?_
        refine V_sub [1, 2, 3, 4, 5, 0] (lv' := [(0, .ref 19), (1, .int a0), (2, .int x2), (3, .int x3), (4, .int x4), (5, .int v1)]) rfl ?_
        exact k_Bk x2 x3 x4 v1  σ hW h
      have k_j158 : ∀ (x2 : Int32) (x3 : Int32) (x4 : Int32) (x5 : Int32)  (σ : ab_S), Wire σ → wX7_collectDefined_j158 a0 Q E Bk x2 x3 x4 x5 σ → V l mdX7_collectDefined B 2 42 0 0 (ab_End (fun v σ' => Wire σ' ∧ ∃ r : Int32, v = some (.int r) ∧ Q r σ') (fun X σ' => Wire σ' ∧ E X σ')) 158 [(0, .ref 19), (1, .int a0), (2, .int x2), (3, .int x3), (4, .int x4), (5, .int x5)] [] σ := by
        intro x2 x3 x4 x5  σ hW h
        refine V_goto 82 (tgt := 184) rfl (by decide) ?_
        exact k_j184 x2 x3 x4 x5 σ hW h
      have k_l118 : ∀ (n : Nat) (x2 : Int32) (x3 : Int32) (x4 : Int32) (x5 : Int32) (x6 : Int32) (x8 : Int32) (x9 : Int32)  (σ : ab_S), Wire σ → wX7_collectDefined_l118 a0 Q E (wX7_collectDefined_j158 a0 Q E Bk) n x2 x3 x4 x5 x6 x8 x9 σ → V l mdX7_collectDefined B 2 42 0 0 (ab_End (fun v σ' => Wire σ' ∧ ∃ r : Int32, v = some (.int r) ∧ Q r σ') (fun X σ' => Wire σ' ∧ E X σ')) 118 [(0, .ref 19), (1, .int a0), (2, .int x2), (3, .int x3), (4, .int x4), (5, .int x5), (6, .int x6), (8, .int x8), (9, .int x9)] [] σ := by
        have step : ∀ (K158 : Int32 → Int32 → Int32 → Int32 → ab_S → Prop) (k_K158 : ∀ (x2 : Int32) (x3 : Int32) (x4 : Int32) (x5 : Int32)  (σ : ab_S), Wire σ → K158 x2 x3 x4 x5 σ → V l mdX7_collectDefined B 2 42 0 0 (ab_End (fun v σ' => Wire σ' ∧ ∃ r : Int32, v = some (.int r) ∧ Q r σ') (fun X σ' => Wire σ' ∧ E X σ')) 158 [(0, .ref 19), (1, .int a0), (2, .int x2), (3, .int x3), (4, .int x4), (5, .int x5)] [] σ), ∀ (Bk : Int32 → Int32 → Int32 → Int32 → Int32 → Int32 → Int32 → ab_S → Prop) (k_Bk : ∀ (x2 : Int32) (x3 : Int32) (x4 : Int32) (x5 : Int32) (x6 : Int32) (x8 : Int32) (x9 : Int32)  (σ : ab_S), Wire σ → Bk x2 x3 x4 x5 x6 x8 x9 σ → V l mdX7_collectDefined B 2 42 0 0 (ab_End (fun v σ' => Wire σ' ∧ ∃ r : Int32, v = some (.int r) ∧ Q r σ') (fun X σ' => Wire σ' ∧ E X σ')) 118 [(0, .ref 19), (1, .int a0), (2, .int x2), (3, .int x3), (4, .int x4), (5, .int x5), (6, .int x6), (8, .int x8), (9, .int x9)] [] σ), ∀ (x2 : Int32) (x3 : Int32) (x4 : Int32) (x5 : Int32) (x6 : Int32) (x8 : Int32) (x9 : Int32)  (σ : ab_S), Wire σ → wX7_collectDefined_l118_b a0 Q E K158 Bk x2 x3 x4 x5 x6 x8 x9 σ → V l mdX7_collectDefined B 2 42 0 0 (ab_End (fun v σ' => Wire σ' ∧ ∃ r : Int32, v = some (.int r) ∧ Q r σ') (fun X σ' => Wire σ' ∧ E X σ')) 118 [(0, .ref 19), (1, .int a0), (2, .int x2), (3, .int x3), (4, .int x4), (5, .int x5), (6, .int x6), (8, .int x8), (9, .int x9)] [] σ := by
          intro K158 k_K158 Bk k_Bk
          intro x2 x3 x4 x5 x6 x8 x9  σ hW h
          refine V_iload 61 8 rfl rfl ?_
          refine V_aload_n 62 0 rfl rfl rfl ?_
          obtain ⟨q2, eq2, hq2, h⟩ := h
          refine V_getR 63 1 rfl clX7 flX7_25 (by decide) (wsh hW rfl) (fun _ => rfl) eq2 ?_
          refine V_get (v := .int (σ.2.1 q2 0)) 64 0 rfl clX0 flX7_36 (by decide) (wG hW hq2) (fun _ => rfl) ?_
          refine V_icmp_ge 65 (tgt := 158) rfl (by decide) (fun hc => ?_) (fun hc => ?_)
          · replace h := h.1 hc
            refine V_sub [0, 1, 2, 3, 4, 5] (lv' := [(0, .ref 19), (1, .int a0), (2, .int x2), (3, .int x3), (4, .int x4), (5, .int x5)]) rfl ?_
            exact k_K158 x2 x3 x4 x5  σ hW h
          · replace h := h.2 hc
            refine V_pc 130 rfl ?_
            refine V_iload_n 66 2 rfl rfl rfl ?_
            refine V_aload_n 67 0 rfl rfl rfl ?_
            refine V_iload 68 6 rfl rfl ?_
            refine V_iload 69 8 rfl rfl ?_
            refine V_iadd 70 rfl ?_
            refine V_aload_n 71 0 rfl rfl rfl ?_
            refine V_pc 138 rfl ?_
            refine V_getR 72 2 rfl clX7 flX7_9 (by decide) (wsh hW rfl) (fun _ => rfl) (wrf hW 27 rfl) ?_
            refine V_iload 73 7 rfl rfl ?_
            refine V_iload 74 8 rfl rfl ?_
            refine V_iadd 75 rfl ?_
            obtain ⟨hin, h⟩ := h
            refine V_iald 76 rfl (wsh hW rfl) hin ?_
            refine V_callV 77 2 (as := [.int (x6 + x9), .int (σ.2.1 20 (x8 + x9).toNatClampNeg)]) (rest := [.int x2]) rfl mlX7_98 yvX7_addDefined rfl rfl clX7 (wsh hW rfl) (by decide) (by decide) (Nat.le_of_ble_eq_true rfl) (by decide) (by decide) (fun B9 => ceX7_addDefined hl B9 hW h) (fun X9 τ9 h9 => VX_out rfl h9) ?_
            rintro v9 σ3 ⟨hW, u4, rfl, h⟩
            refine V_ior 78 rfl ?_
            refine V_topi (fun v5 ev5 => ?_)
            replace h := h v5 ev5
            refine V_istore_n 79 (lv' := [(2, .int v5), (0, .ref 19), (1, .int a0), (3, .int x3), (4, .int x4), (5, .int x5), (6, .int x6), (8, .int x8), (9, .int x9)]) rfl rfl (by decide) rfl ?_
            obtain ⟨v6, ev6⟩ : ∃ z : Int32, z = (x9 + 1) := ⟨_, rfl⟩
            replace h := h v6 ev6
            refine V_iinc 80 8 (v := v6) (lv' := [(9, .int v6), (2, .int v5), (0, .ref 19), (1, .int a0), (3, .int x3), (4, .int x4), (5, .int x5), (6, .int x6), (8, .int x8)]) rfl rfl ((in_1 _).trans ev6.symm) (by decide) rfl ?_
            refine V_goto 81 (tgt := 118) rfl (by decide) ?_
            refine V_sub [2, 3, 1, 4, 5, 6, 7, 8, 0] (lv' := [(0, .ref 19), (1, .int a0), (2, .int v5), (3, .int x3), (4, .int x4), (5, .int x5), (6, .int x6), (8, .int x8), (9, .int v6)]) rfl ?_
            exact k_Bk v5 x3 x4 x5 x6 x8 v6  σ3 hW h
        intro n
        induction n with
        | zero => intro x2 x3 x4 x5 x6 x8 x9  σ hW h; exact absurd h id
        | succ n ih => exact step _ k_j158 _ ih
      intro x2 x3 x4 x5  σ hW h
      refine V_iload 26 5 rfl rfl ?_
      refine V_iload 27 4 rfl rfl ?_
      refine V_icmp_ge 28 (tgt := 190) rfl (by decide) (fun hc => ?_) (fun hc => ?_)
      · replace h := h.1 hc
        refine V_iload_n 99 2 rfl rfl rfl ?_
        exact V_zret 100 rfl rfl (nb1 h.1) ⟨hW, _, rfl, h.2⟩
      · replace h := h.2 hc
        refine V_pc 51 rfl ?_
        refine V_iload_n 29 3 rfl rfl rfl ?_
        refine V_aload_n 30 0 rfl rfl rfl ?_
        refine V_getR 31 0 rfl clX7 flX7_21 (by decide) (wsh hW rfl) (fun _ => rfl) (wrf hW 26 rfl) ?_
        refine V_getR 32 1 rfl clX4 flX7_82 (by decide) (wsh hW rfl) (fun _ => rfl) (wrf hW 20 rfl) ?_
        refine V_iload 33 5 rfl rfl ?_
        obtain ⟨hin, h⟩ := h
        refine V_iald 34 rfl (wsh hW rfl) hin ?_
        refine V_pc 62 rfl ?_
        refine V_callS 35 2 (as := [.int x3, .int (σ.2.1 13 x5.toNatClampNeg)]) (rest := []) rfl mlX7_85 yvX7_rowOf rfl rfl (by decide) (by decide) (Nat.le_of_ble_eq_true rfl) (by decide) (by decide) (fun B9 => ceX7_rowOf hl B9 hW h) (fun X9 τ9 h9 => VX_out rfl h9) ?_
        rintro v9 σ7 ⟨hW, u8, rfl, h⟩
        refine V_istore 36 (lv' := [(6, .int u8), (0, .ref 19), (1, .int a0), (2, .int x2), (3, .int x3), (4, .int x4), (5, .int x5)]) rfl (by decide) rfl ?_
        refine V_aload_n 37 1 rfl rfl rfl ?_
        obtain ⟨q9, eq9, hq9, h⟩ := h
        refine V_getR 38 1 rfl clX7 flX7_25 (by decide) (wsh hW rfl) (fun _ => rfl) eq9 ?_
        refine V_iload_n 39 2 rfl rfl rfl ?_
        refine V_aload_n 40 1 rfl rfl rfl ?_
        refine V_pc 73 rfl ?_
        refine V_getR 41 0 rfl clX7 flX7_21 (by decide) (wsh hW rfl) (fun _ => rfl) (wrf hW 26 rfl) ?_
        refine V_iload 42 6 rfl rfl ?_
        refine V_callV 43 1 (as := [.int x5]) (rest := [.int a0, .ref q9]) rfl mlX7_88 yvX4_occurrenceOf rfl rfl clX4 (wsh hW rfl) (by decide) (by decide) (Nat.le_of_ble_eq_true rfl) (by decide) (by decide) (fun B9 => ceX4_occurrenceOf hl B9 hW h) (fun X9 τ9 h9 => VX_out rfl h9) ?_
        rintro v9 σ10 ⟨hW, u11, rfl, h⟩
        refine V_callV 44 2 (as := [.int a0, .int u11]) (rest := []) rfl mlX7_54 yvX0_symbolAt rfl rfl clX0 (wG hW hq9) (by decide) (by decide) (Nat.le_of_ble_eq_true rfl) (by decide) (by decide) (fun B9 => ceX0_symbolAt hl B9 hq9 hW h) (fun X9 τ9 h9 => VX_out rfl h9) ?_
        rintro v9 σ12 ⟨hW, u13, rfl, h⟩
        refine V_istore 45 (lv' := [(7, .int u13), (6, .int u8), (0, .ref 19), (1, .int a0), (2, .int x2), (3, .int x3), (4, .int x4), (5, .int x5)]) rfl (by decide) rfl ?_
        refine V_aload_n 46 2 rfl rfl rfl ?_
        refine V_getR 47 0 rfl clX7 flX7_21 (by decide) (wsh hW rfl) (fun _ => rfl) (wrf hW 26 rfl) ?_
        refine V_iload 48 7 rfl rfl ?_
        refine V_callV 49 1 (as := [.int x5]) (rest := []) rfl mlX7_92 yvX4_isVisit rfl rfl clX4 (wsh hW rfl) (by decide) (by decide) (Nat.le_of_ble_eq_true rfl) (by decide) (by decide) (fun B9 => ceX4_isVisit hl B9 hW h) (fun X9 τ9 h9 => VX_out rfl h9) ?_
        rintro v9 σ14 ⟨hW, u15, rfl, h⟩
        refine V_if_eq 50 (tgt := 161) rfl (by decide) (fun hc => ?_) (fun hc => ?_)
        · replace h := h.1 hc
          refine V_iload_n 83 4 rfl rfl rfl ?_
          refine V_aload_n 84 2 rfl rfl rfl ?_
          refine V_iload 85 1 rfl rfl ?_
          refine V_iload 86 0 rfl rfl ?_
          refine V_iadd 87 rfl ?_
          refine V_iconst 88 (v := (1 : Int32)) rfl (by decide) ?_
          refine V_pc 169 rfl ?_
          refine V_aload_n 89 2 rfl rfl rfl ?_
          refine V_getR 90 0 rfl clX7 flX7_21 (by decide) (wsh hW rfl) (fun _ => rfl) (wrf hW 26 rfl) ?_
          refine V_iload 91 7 rfl rfl ?_
          refine V_callV 92 1 (as := [.int x5]) (rest := [.int (1 : Int32), .int (u8 + u13), .ref 19, .int x2]) rfl mlX7_102 yvX4_attributeOf rfl rfl clX4 (wsh hW rfl) (by decide) (by decide) (Nat.le_of_ble_eq_true rfl) (by decide) (by decide) (fun B9 => ceX4_attributeOf hl B9 hW h) (fun X9 τ9 h9 => VX_out rfl h9) ?_
          rintro v9 σ16 ⟨hW, u17, rfl, h⟩
          refine V_ishl 93 rfl ?_
          refine V_callV 94 2 (as := [.int (u8 + u13), .int ((1 : Int32) <<< (u17 &&& 31))]) (rest := [.int x2]) rfl mlX7_98 yvX7_addDefined rfl rfl clX7 (wsh hW rfl) (by decide) (by decide) (Nat.le_of_ble_eq_true rfl) (by decide) (by decide) (fun B9 => ceX7_addDefined hl B9 hW h) (fun X9 τ9 h9 => VX_out rfl h9) ?_
          rintro v9 σ18 ⟨hW, u19, rfl, h⟩
          refine V_ior 95 rfl ?_
          refine V_topi (fun v20 ev20 => ?_)
          replace h := h v20 ev20
          refine V_istore_n 96 (lv' := [(2, .int v20), (7, .int u13), (6, .int u8), (0, .ref 19), (1, .int a0), (3, .int x3), (4, .int x4), (5, .int x5)]) rfl rfl (by decide) rfl ?_
          refine V_sub [3, 4, 0, 5, 6, 7] (lv' := [(0, .ref 19), (1, .int a0), (2, .int v20), (3, .int x3), (4, .int x4), (5, .int x5)]) rfl ?_
          exact k_j184 v20 x3 x4 x5 σ18 hW h
        · replace h := h.2 hc
          refine V_pc 98 rfl ?_
          refine V_iload 51 0 rfl rfl ?_
          refine V_aload_n 52 2 rfl rfl rfl ?_
          refine V_getR 53 0 rfl clX7 flX7_21 (by decide) (wsh hW rfl) (fun _ => rfl) (wrf hW 26 rfl) ?_
          refine V_getR 54 2 rfl clX4 flX7_95 (by decide) (wsh hW rfl) (fun _ => rfl) (wrf hW 21 rfl) ?_
          refine V_iload 55 7 rfl rfl ?_
          obtain ⟨hin, h⟩ := h
          refine V_iald 56 rfl (wsh hW rfl) hin ?_
          refine V_pc 110 rfl ?_
          refine V_callS 57 2 (as := [.int u13, .int (σ14.2.1 14 x5.toNatClampNeg)]) (rest := []) rfl mlX7_85 yvX7_rowOf rfl rfl (by decide) (by decide) (Nat.le_of_ble_eq_true rfl) (by decide) (by decide) (fun B9 => ceX7_rowOf hl B9 hW h) (fun X9 τ9 h9 => VX_out rfl h9) ?_
          rintro v9 σ21 ⟨hW, u22, rfl, h⟩
          refine V_istore 58 (lv' := [(8, .int u22), (7, .int u13), (6, .int u8), (0, .ref 19), (1, .int a0), (2, .int x2), (3, .int x3), (4, .int x4), (5, .int x5)]) rfl (by decide) rfl ?_
          refine V_iconst 59 (v := (0 : Int32)) rfl (by decide) ?_
          refine V_istore 60 (lv' := [(9, .int (0 : Int32)), (8, .int u22), (7, .int u13), (6, .int u8), (0, .ref 19), (1, .int a0), (2, .int x2), (3, .int x3), (4, .int x4), (5, .int x5)]) rfl (by decide) rfl ?_
          refine V_sub [4, 5, 6, 7, 8, 9, 3, 1, 0] (lv' := [(0, .ref 19), (1, .int a0), (2, .int x2), (3, .int x3), (4, .int x4), (5, .int x5), (6, .int u8), (8, .int u22), (9, .int (0 : Int32))]) rfl ?_
          obtain ⟨n, h⟩ := h
          exact k_l118 n x2 x3 x4 x5 u8 u22 (0 : Int32) σ21 hW h
    intro n
    induction n with
    | zero => intro x2 x3 x4 x5  σ hW h; exact absurd h id
    | succ n ih => exact step  _ ih
  intro σ hW h
  refine V_iconst 0 (v := (0 : Int32)) rfl (by decide) ?_
  refine V_istore_n 1 (lv' := [(2, .int (0 : Int32)), (0, .ref 19), (1, .int a0)]) rfl rfl (by decide) rfl ?_
  refine V_aload_n 2 1 rfl rfl rfl ?_
  obtain ⟨q23, eq23, hq23, h⟩ := h
  refine V_getR 3 1 rfl clX7 flX7_25 (by decide) (wsh hW rfl) (fun _ => rfl) eq23 ?_
  refine V_iload_n 4 2 rfl rfl rfl ?_
  refine V_iconst 5 (v := (0 : Int32)) rfl (by decide) ?_
  refine V_pc 8 rfl ?_
  refine V_callV 6 2 (as := [.int a0, .int (0 : Int32)]) (rest := []) rfl mlX7_54 yvX0_symbolAt rfl rfl clX0 (wG hW hq23) (by decide) (by decide) (Nat.le_of_ble_eq_true rfl) (by decide) (by decide) (fun B9 => ceX0_symbolAt hl B9 hq23 hW h) (fun X9 τ9 h9 => VX_out rfl h9) ?_
  rintro v9 σ24 ⟨hW, u25, rfl, h⟩
  refine V_istore_n 7 (lv' := [(3, .int u25), (2, .int (0 : Int32)), (0, .ref 19), (1, .int a0)]) rfl rfl (by decide) rfl ?_
  refine V_aload_n 8 2 rfl rfl rfl ?_
  refine V_getR 9 0 rfl clX7 flX7_21 (by decide) (wsh hW rfl) (fun _ => rfl) (wrf hW 26 rfl) ?_
  refine V_iload_n 10 3 rfl rfl rfl ?_
  refine V_aload_n 11 2 rfl rfl rfl ?_
  refine V_pc 18 rfl ?_
  obtain ⟨q26, eq26, hq26, h⟩ := h
  refine V_getR 12 1 rfl clX7 flX7_25 (by decide) (wsh hW rfl) (fun _ => rfl) eq26 ?_
  refine V_getR 13 19 rfl clX0 flX7_74 (by decide) (wG hW hq26) (fun _ => rfl) (wG_f19 hW hq26) ?_
  refine V_iload_n 14 0 rfl rfl rfl ?_
  obtain ⟨hin, h⟩ := h
  refine V_iald 15 rfl (wG_a17 hW hq26) hin ?_
  refine V_iconst 16 (v := (1 : Int32)) rfl (by decide) ?_
  refine V_iadd 17 rfl ?_
  refine V_pc 28 rfl ?_
  refine V_callV 18 2 (as := [.int a0, .int ((σ24.2.1 (q26 + 17) u25.toNatClampNeg) + (1 : Int32))]) (rest := []) rfl mlX7_77 yvX4_first rfl rfl clX4 (wsh hW rfl) (by decide) (by decide) (Nat.le_of_ble_eq_true rfl) (by decide) (by decide) (fun B9 => ceX4_first hl B9 hW h) (fun X9 τ9 h9 => VX_out rfl h9) ?_
  rintro v9 σ27 ⟨hW, u28, rfl, h⟩
  refine V_istore 19 (lv' := [(4, .int u28), (3, .int u25), (2, .int (0 : Int32)), (0, .ref 19), (1, .int a0)]) rfl (by decide) rfl ?_
  refine V_aload_n 20 3 rfl rfl rfl ?_
  refine V_getR 21 0 rfl clX7 flX7_21 (by decide) (wsh hW rfl) (fun _ => rfl) (wrf hW 26 rfl) ?_
  refine V_iload_n 22 4 rfl rfl rfl ?_
  refine V_iconst 23 (v := (1 : Int32)) rfl (by decide) ?_
  refine V_pc 39 rfl ?_
  refine V_callV 24 2 (as := [.int a0, .int (1 : Int32)]) (rest := []) rfl mlX7_77 yvX4_first rfl rfl clX4 (wsh hW rfl) (by decide) (by decide) (Nat.le_of_ble_eq_true rfl) (by decide) (by decide) (fun B9 => ceX4_first hl B9 hW h) (fun X9 τ9 h9 => VX_out rfl h9) ?_
  rintro v9 σ29 ⟨hW, u30, rfl, h⟩
  refine V_istore 25 (lv' := [(5, .int u30), (4, .int u28), (3, .int u25), (2, .int (0 : Int32)), (0, .ref 19), (1, .int a0)]) rfl (by decide) rfl ?_
  refine V_sub [4, 5, 3, 2, 1, 0] (lv' := [(0, .ref 19), (1, .int a0), (2, .int (0 : Int32)), (3, .int u25), (4, .int u28), (5, .int u30)]) rfl ?_
  obtain ⟨n, h⟩ := h
  exact k_l44 n (0 : Int32) u25 u28 u30 σ29 hW h

def wX7_findDefined_j57 (Q : ab_S → Prop) (E : String → ab_S → Prop) (Bk : Int32 → Int32 → ab_S → Prop) (x1 : Int32) (x2 : Int32) (σ : ab_S) : Prop := ∀ v1 : Int32, v1 = (x2 + 1) → Bk x1 v1 σ
def wX7_findDefined_l32_b (Q : ab_S → Prop) (E : String → ab_S → Prop) (K57 : Int32 → Int32 → ab_S → Prop) (Bk : Int32 → Int32 → Int32 → ab_S → Prop) (x1 : Int32) (x2 : Int32) (x3 : Int32) (σ : ab_S) : Prop := ∃ q2, σ.2.2.2 19 1 = some q2 ∧ isG q2 ∧ ((((σ.2.1 q2 5) ≤ x3) → K57 x1 x2 σ) ∧ (¬ ((σ.2.1 q2 5) ≤ x3) → wX7_collectDefined x3 (fun u4 σ3 => ∀ v5 : Int32, v5 = (x1 ||| u4) → ∀ v6 : Int32, v6 = (x3 + 1) → Bk v5 x2 v6 σ3) E σ))
def wX7_findDefined_l32 (Q : ab_S → Prop) (E : String → ab_S → Prop) (K57 : Int32 → Int32 → ab_S → Prop) : Nat → Int32 → Int32 → Int32 → ab_S → Prop
  | 0, _, _, _, _ => False
  | n + 1, x1, x2, x3, σ => wX7_findDefined_l32_b Q E K57 (wX7_findDefined_l32 Q E K57 n) x1 x2 x3 σ
def wX7_findDefined_l12_b (Q : ab_S → Prop) (E : String → ab_S → Prop) (Bk : Int32 → Int32 → ab_S → Prop) (x1 : Int32) (x2 : Int32) (σ : ab_S) : Prop := ((x1 = 0) → Q σ) ∧ (¬ (x1 = 0) → ((((nI 1008) * (8 : Int32)) < x2) → Q σ) ∧ (¬ (((nI 1008) * (8 : Int32)) < x2) → ∃ n, wX7_findDefined_l32 Q E (wX7_findDefined_j57 Q E Bk) n (0 : Int32) x2 (0 : Int32) σ))
def wX7_findDefined_l12 (Q : ab_S → Prop) (E : String → ab_S → Prop) : Nat → Int32 → Int32 → ab_S → Prop
  | 0, _, _, _ => False
  | n + 1, x1, x2, σ => wX7_findDefined_l12_b Q E (wX7_findDefined_l12 Q E n) x1 x2 σ
def wX7_findDefined  (Q : ab_S → Prop) (E : String → ab_S → Prop) (σ : ab_S) : Prop := wJ7_fill_53178 20 1008 (0 : Int32) (fun σ7 => ∃ n, wX7_findDefined_l12 Q E n (1 : Int32) (0 : Int32) σ7) E σ
set_option maxHeartbeats 4000000 in
set_option maxRecDepth 100000 in
theorem ceX7_findDefined {l : Launch} (hl : l.stackTraces = false) (B : Nat)   {Q : ab_S → Prop} {E : String → ab_S → Prop} {σ : ab_S} (hW : Wire σ) (h : wX7_findDefined  Q E σ) : ab_Mt l yX7_findDefined mdX7_findDefined B 3 71 0 0 [.ref 19] σ (fun v σ' => Wire σ' ∧ v = none ∧ Q σ') (fun X σ' => Wire σ' ∧ E X σ') := by
  refine V_met hl ⟨rfl, rfl, by decide⟩ rfl dkX7_findDefined (Nat.le_of_ble_eq_true rfl) ?_
  show V l mdX7_findDefined B 3 71 0 0 (ab_End _ _) 0 [(0, .ref 19)] [] σ
  revert h hW
  revert σ
  have k_l12 : ∀ (n : Nat) (x1 : Int32) (x2 : Int32)  (σ : ab_S), Wire σ → wX7_findDefined_l12 Q E n x1 x2 σ → V l mdX7_findDefined B 3 71 0 0 (ab_End (fun v σ' => Wire σ' ∧ v = none ∧ Q σ') (fun X σ' => Wire σ' ∧ E X σ')) 12 [(0, .ref 19), (1, .int x1), (2, .int x2)] [] σ := by
    have step : ∀ (Bk : Int32 → Int32 → ab_S → Prop) (k_Bk : ∀ (x1 : Int32) (x2 : Int32)  (σ : ab_S), Wire σ → Bk x1 x2 σ → V l mdX7_findDefined B 3 71 0 0 (ab_End (fun v σ' => Wire σ' ∧ v = none ∧ Q σ') (fun X σ' => Wire σ' ∧ E X σ')) 12 [(0, .ref 19), (1, .int x1), (2, .int x2)] [] σ), ∀ (x1 : Int32) (x2 : Int32)  (σ : ab_S), Wire σ → wX7_findDefined_l12_b Q E Bk x1 x2 σ → V l mdX7_findDefined B 3 71 0 0 (ab_End (fun v σ' => Wire σ' ∧ v = none ∧ Q σ') (fun X σ' => Wire σ' ∧ E X σ')) 12 [(0, .ref 19), (1, .int x1), (2, .int x2)] [] σ := by
      intro Bk k_Bk
      have k_j57 : ∀ (x1 : Int32) (x2 : Int32)  (σ : ab_S), Wire σ → wX7_findDefined_j57 Q E Bk x1 x2 σ → V l mdX7_findDefined B 3 71 0 0 (ab_End (fun v σ' => Wire σ' ∧ v = none ∧ Q σ') (fun X σ' => Wire σ' ∧ E X σ')) 57 [(0, .ref 19), (1, .int x1), (2, .int x2)] [] σ := by
        intro x1 x2  σ hW h
        obtain ⟨v1, ev1⟩ : ∃ z : Int32, z = (x2 + 1) := ⟨_, rfl⟩
        replace h := h v1 ev1
        refine V_iinc 34 2 (v := v1) (lv' := [(2, .int v1), (0, .ref 19), (1, .int x1)]) rfl rfl ((in_1 _).trans ev1.symm) (by decide) rfl ?_
        refine V_goto 35 (tgt := 12) rfl (by decide) ?_
        refine V_sub [1, 2, 0] (lv' := [(0, .ref 19), (1, .int x1), (2, .int v1)]) rfl ?_
        exact k_Bk x1 v1  σ hW h
      have k_l32 : ∀ (n : Nat) (x1 : Int32) (x2 : Int32) (x3 : Int32)  (σ : ab_S), Wire σ → wX7_findDefined_l32 Q E (wX7_findDefined_j57 Q E Bk) n x1 x2 x3 σ → V l mdX7_findDefined B 3 71 0 0 (ab_End (fun v σ' => Wire σ' ∧ v = none ∧ Q σ') (fun X σ' => Wire σ' ∧ E X σ')) 32 [(0, .ref 19), (1, .int x1), (2, .int x2), (3, .int x3)] [] σ := by
        have step : ∀ (K57 : Int32 → Int32 → ab_S → Prop) (k_K57 : ∀ (x1 : Int32) (x2 : Int32)  (σ : ab_S), Wire σ → K57 x1 x2 σ → V l mdX7_findDefined B 3 71 0 0 (ab_End (fun v σ' => Wire σ' ∧ v = none ∧ Q σ') (fun X σ' => Wire σ' ∧ E X σ')) 57 [(0, .ref 19), (1, .int x1), (2, .int x2)] [] σ), ∀ (Bk : Int32 → Int32 → Int32 → ab_S → Prop) (k_Bk : ∀ (x1 : Int32) (x2 : Int32) (x3 : Int32)  (σ : ab_S), Wire σ → Bk x1 x2 x3 σ → V l mdX7_findDefined B 3 71 0 0 (ab_End (fun v σ' => Wire σ' ∧ v = none ∧ Q σ') (fun X σ' => Wire σ' ∧ E X σ')) 32 [(0, .ref 19), (1, .int x1), (2, .int x2), (3, .int x3)] [] σ), ∀ (x1 : Int32) (x2 : Int32) (x3 : Int32)  (σ : ab_S), Wire σ → wX7_findDefined_l32_b Q E K57 Bk x1 x2 x3 σ → V l mdX7_findDefined B 3 71 0 0 (ab_End (fun v σ' => Wire σ' ∧ v = none ∧ Q σ') (fun X σ' => Wire σ' ∧ E X σ')) 32 [(0, .ref 19), (1, .int x1), (2, .int x2), (3, .int x3)] [] σ := by
          intro K57 k_K57 Bk k_Bk
          intro x1 x2 x3  σ hW h
          refine V_iload_n 21 3 rfl rfl rfl ?_
          refine V_aload_n 22 0 rfl rfl rfl ?_
          obtain ⟨q2, eq2, hq2, h⟩ := h
          refine V_getR 23 1 rfl clX7 flX7_25 (by decide) (wsh hW rfl) (fun _ => rfl) eq2 ?_
          refine V_get (v := .int (σ.2.1 q2 5)) 24 5 rfl clX0 flX7_67 (by decide) (wG hW hq2) (fun _ => rfl) ?_
          refine V_icmp_ge 25 (tgt := 57) rfl (by decide) (fun hc => ?_) (fun hc => ?_)
          · replace h := h.1 hc
            refine V_sub [0, 1, 2] (lv' := [(0, .ref 19), (1, .int x1), (2, .int x2)]) rfl ?_
            exact k_K57 x1 x2  σ hW h
          · replace h := h.2 hc
            refine V_pc 43 rfl ?_
            refine V_iload_n 26 1 rfl rfl rfl ?_
            refine V_aload_n 27 0 rfl rfl rfl ?_
            refine V_iload_n 28 3 rfl rfl rfl ?_
            refine V_callV 29 1 (as := [.int x3]) (rest := [.int x1]) rfl mlX7_70 yvX7_collectDefined rfl rfl clX7 (wsh hW rfl) (by decide) (by decide) (Nat.le_of_ble_eq_true rfl) (by decide) (by decide) (fun B9 => ceX7_collectDefined hl B9 hW h) (fun X9 τ9 h9 => VX_out rfl h9) ?_
            rintro v9 σ3 ⟨hW, u4, rfl, h⟩
            refine V_ior 30 rfl ?_
            refine V_topi (fun v5 ev5 => ?_)
            replace h := h v5 ev5
            refine V_istore_n 31 (lv' := [(1, .int v5), (0, .ref 19), (2, .int x2), (3, .int x3)]) rfl rfl (by decide) rfl ?_
            obtain ⟨v6, ev6⟩ : ∃ z : Int32, z = (x3 + 1) := ⟨_, rfl⟩
            replace h := h v6 ev6
            refine V_iinc 32 3 (v := v6) (lv' := [(3, .int v6), (1, .int v5), (0, .ref 19), (2, .int x2)]) rfl rfl ((in_1 _).trans ev6.symm) (by decide) rfl ?_
            refine V_goto 33 (tgt := 32) rfl (by decide) ?_
            refine V_sub [2, 1, 3, 0] (lv' := [(0, .ref 19), (1, .int v5), (2, .int x2), (3, .int v6)]) rfl ?_
            exact k_Bk v5 x2 v6  σ3 hW h
        intro n
        induction n with
        | zero => intro x1 x2 x3  σ hW h; exact absurd h id
        | succ n ih => exact step _ k_j57 _ ih
      intro x1 x2  σ hW h
      refine V_iload_n 8 1 rfl rfl rfl ?_
      refine V_if_eq 9 (tgt := 63) rfl (by decide) (fun hc => ?_) (fun hc => ?_)
      · replace h := h.1 hc
        exact V_vret 36 rfl rfl ⟨hW, rfl, h⟩
      · replace h := h.2 hc
        refine V_pc 16 rfl ?_
        refine V_iload_n 10 2 rfl rfl rfl ?_
        refine V_aload_n 11 0 rfl rfl rfl ?_
        refine V_getR 12 2 rfl clX7 flX7_9 (by decide) (wsh hW rfl) (fun _ => rfl) (wrf hW 27 rfl) ?_
        refine V_alenI 13 0 rfl (wsh hW rfl) (by decide) (by decide) (fun _ => rfl) ?_
        refine V_bipush 14 (v := (8 : Int32)) rfl (by decide) ?_
        refine V_imul 15 rfl ?_
        refine V_pc 25 rfl ?_
        refine V_icmp_gt 16 (tgt := 63) rfl (by decide) (fun hc => ?_) (fun hc => ?_)
        · replace h := h.1 hc
          exact V_vret 36 rfl rfl ⟨hW, rfl, h⟩
        · replace h := h.2 hc
          refine V_pc 28 rfl ?_
          refine V_iconst 17 (v := (0 : Int32)) rfl (by decide) ?_
          refine V_istore_n 18 (lv' := [(1, .int (0 : Int32)), (0, .ref 19), (2, .int x2)]) rfl rfl (by decide) rfl ?_
          refine V_iconst 19 (v := (0 : Int32)) rfl (by decide) ?_
          refine V_istore_n 20 (lv' := [(3, .int (0 : Int32)), (1, .int (0 : Int32)), (0, .ref 19), (2, .int x2)]) rfl rfl (by decide) rfl ?_
          refine V_sub [2, 1, 3, 0] (lv' := [(0, .ref 19), (1, .int (0 : Int32)), (2, .int x2), (3, .int (0 : Int32))]) rfl ?_
          obtain ⟨n, h⟩ := h
          exact k_l32 n (0 : Int32) x2 (0 : Int32) σ hW h
    intro n
    induction n with
    | zero => intro x1 x2  σ hW h; exact absurd h id
    | succ n ih => exact step  _ ih
  intro σ hW h
  refine V_aload_n 0 0 rfl rfl rfl ?_
  refine V_getR 1 2 rfl clX7 flX7_9 (by decide) (wsh hW rfl) (fun _ => rfl) (wrf hW 27 rfl) ?_
  refine V_iconst 2 (v := (0 : Int32)) rfl (by decide) ?_
  refine V_callS 3 2 (as := [.ref 20, .int (0 : Int32)]) (rest := []) rfl mlX7_61 yvJ7_fill_53178 rfl rfl (by decide) (by decide) (Nat.le_of_ble_eq_true rfl) (by decide) (by decide) (fun B9 => ceJ7_fill_53178 hl B9 rfl hW h) (fun X9 τ9 h9 => VX_out rfl h9) ?_
  rintro v9 σ7 ⟨hW, rfl, h⟩
  refine V_iconst 4 (v := (1 : Int32)) rfl (by decide) ?_
  refine V_istore_n 5 (lv' := [(1, .int (1 : Int32)), (0, .ref 19)]) rfl rfl (by decide) rfl ?_
  refine V_iconst 6 (v := (0 : Int32)) rfl (by decide) ?_
  refine V_istore_n 7 (lv' := [(2, .int (0 : Int32)), (1, .int (1 : Int32)), (0, .ref 19)]) rfl rfl (by decide) rfl ?_
  refine V_sub [2, 1, 0] (lv' := [(0, .ref 19), (1, .int (1 : Int32)), (2, .int (0 : Int32))]) rfl ?_
  obtain ⟨n, h⟩ := h
  exact k_l12 n (1 : Int32) (0 : Int32) σ7 hW h

def wX7_names (a0 : Int32) (a1 : Int32) (a2 : Int32) (Q : Int32 → ab_S → Prop) (E : String → ab_S → Prop) (σ : ab_S) : Prop := ∃ q1, σ.2.2.2 19 1 = some q1 ∧ isG q1 ∧ (vp_in ((a0 * (32 : Int32)) + a1) 960 ∧ (((((((σ.2.1 (q1 + 10) ((a0 * (32 : Int32)) + a1).toNatClampNeg).toUInt32 >>> (a2.toUInt32 &&& Int32.toUInt32 31)).toInt32) &&& (1 : Int32)) = 0) → Q (0 : Int32) σ) ∧ (¬ (((((σ.2.1 (q1 + 10) ((a0 * (32 : Int32)) + a1).toNatClampNeg).toUInt32 >>> (a2.toUInt32 &&& Int32.toUInt32 31)).toInt32) &&& (1 : Int32)) = 0) → Q (1 : Int32) σ)))
set_option maxHeartbeats 4000000 in
set_option maxRecDepth 100000 in
theorem ceX7_names {l : Launch} (hl : l.stackTraces = false) (B : Nat) {a0 : Int32} {a1 : Int32} {a2 : Int32}  {Q : Int32 → ab_S → Prop} {E : String → ab_S → Prop} {σ : ab_S} (hW : Wire σ) (h : wX7_names a0 a1 a2 Q E σ) : ab_Mt l yX7_names mdX7_names B 0 0 0 0 [.ref 19, .int a0, .int a1, .int a2] σ (fun v σ' => Wire σ' ∧ ∃ r : Int32, v = some (.int r) ∧ Q r σ') (fun X σ' => Wire σ' ∧ E X σ') := by
  refine V_met hl ⟨rfl, rfl, by decide⟩ rfl dkX7_names (Nat.le_of_ble_eq_true rfl) ?_
  show V l mdX7_names B 0 0 0 0 (ab_End _ _) 0 [(0, .ref 19), (1, .int a0), (2, .int a1), (3, .int a2)] [] σ
  refine V_aload_n 0 0 rfl rfl rfl ?_
  obtain ⟨q1, eq1, hq1, h⟩ := h
  refine V_getR 1 1 rfl clX7 flX7_25 (by decide) (wsh hW rfl) (fun _ => rfl) eq1 ?_
  refine V_getR 2 11 rfl clX0 flX7_142 (by decide) (wG hW hq1) (fun _ => rfl) (wG_f11 hW hq1) ?_
  refine V_iload_n 3 1 rfl rfl rfl ?_
  refine V_bipush 4 (v := (32 : Int32)) rfl (by decide) ?_
  refine V_imul 5 rfl ?_
  refine V_pc 11 rfl ?_
  refine V_iload_n 6 2 rfl rfl rfl ?_
  refine V_iadd 7 rfl ?_
  obtain ⟨hin, h⟩ := h
  refine V_iald 8 rfl (wG_a10 hW hq1) hin ?_
  refine V_iload_n 9 3 rfl rfl rfl ?_
  refine V_iushr 10 rfl ?_
  refine V_iconst 11 (v := (1 : Int32)) rfl (by decide) ?_
  refine V_pc 17 rfl ?_
  refine V_iand 12 rfl ?_
  refine V_if_eq 13 (tgt := 25) rfl (by decide) (fun hc => ?_) (fun hc => ?_)
  · replace h := h.1 hc
    refine V_iconst 16 (v := (0 : Int32)) rfl (by decide) ?_
    exact V_zret 17 rfl rfl rfl ⟨hW, _, rfl, h⟩
  · replace h := h.2 hc
    refine V_pc 21 rfl ?_
    refine V_iconst 14 (v := (1 : Int32)) rfl (by decide) ?_
    refine V_goto 15 (tgt := 26) rfl (by decide) ?_
    exact V_zret 17 rfl rfl rfl ⟨hW, _, rfl, h⟩

def wX7_namedOnlyIn_j45 (a0 : Int32) (a1 : Int32) (a2 : Int32) (Q : Int32 → ab_S → Prop) (E : String → ab_S → Prop) (Bk : Int32 → ab_S → Prop) (x4 : Int32) (σ : ab_S) : Prop := ∀ v1 : Int32, v1 = (x4 + 1) → Bk v1 σ
def wX7_namedOnlyIn_l3_b (a0 : Int32) (a1 : Int32) (a2 : Int32) (Q : Int32 → ab_S → Prop) (E : String → ab_S → Prop) (Bk : Int32 → ab_S → Prop) (x4 : Int32) (σ : ab_S) : Prop := (((32 : Int32) ≤ x4) → Q (1 : Int32) σ) ∧ (¬ ((32 : Int32) ≤ x4) → wX7_names a0 x4 a1 (fun u3 σ2 => ((u3 = 0) → wX7_namedOnlyIn_j45 a0 a1 a2 Q E Bk x4 σ2) ∧ (¬ (u3 = 0) → wX4_entryOfRule a0 x4 (fun u5 σ4 => vp_in u5 1410 ∧ ((((σ4.2.1 13 u5.toNatClampNeg) = a2) → wX7_namedOnlyIn_j45 a0 a1 a2 Q E Bk x4 σ4) ∧ (¬ ((σ4.2.1 13 u5.toNatClampNeg) = a2) → Q (0 : Int32) σ4))) E σ2)) E σ)
def wX7_namedOnlyIn_l3 (a0 : Int32) (a1 : Int32) (a2 : Int32) (Q : Int32 → ab_S → Prop) (E : String → ab_S → Prop) : Nat → Int32 → ab_S → Prop
  | 0, _, _ => False
  | n + 1, x4, σ => wX7_namedOnlyIn_l3_b a0 a1 a2 Q E (wX7_namedOnlyIn_l3 a0 a1 a2 Q E n) x4 σ
def wX7_namedOnlyIn (a0 : Int32) (a1 : Int32) (a2 : Int32) (Q : Int32 → ab_S → Prop) (E : String → ab_S → Prop) (σ : ab_S) : Prop := ∃ n, wX7_namedOnlyIn_l3 a0 a1 a2 Q E n (0 : Int32) σ
set_option maxHeartbeats 4000000 in
set_option maxRecDepth 100000 in
theorem ceX7_namedOnlyIn {l : Launch} (hl : l.stackTraces = false) (B : Nat) {a0 : Int32} {a1 : Int32} {a2 : Int32}  {Q : Int32 → ab_S → Prop} {E : String → ab_S → Prop} {σ : ab_S} (hW : Wire σ) (h : wX7_namedOnlyIn a0 a1 a2 Q E σ) : ab_Mt l yX7_namedOnlyIn mdX7_namedOnlyIn B 1 23 0 0 [.ref 19, .int a0, .int a1, .int a2] σ (fun v σ' => Wire σ' ∧ ∃ r : Int32, v = some (.int r) ∧ Q r σ') (fun X σ' => Wire σ' ∧ E X σ') := by
  refine V_met hl ⟨rfl, rfl, by decide⟩ rfl dkX7_namedOnlyIn (Nat.le_of_ble_eq_true rfl) ?_
  show V l mdX7_namedOnlyIn B 1 23 0 0 (ab_End _ _) 0 [(0, .ref 19), (1, .int a0), (2, .int a1), (3, .int a2)] [] σ
  revert h hW
  revert σ
  have k_l3 : ∀ (n : Nat) (x4 : Int32)  (σ : ab_S), Wire σ → wX7_namedOnlyIn_l3 a0 a1 a2 Q E n x4 σ → V l mdX7_namedOnlyIn B 1 23 0 0 (ab_End (fun v σ' => Wire σ' ∧ ∃ r : Int32, v = some (.int r) ∧ Q r σ') (fun X σ' => Wire σ' ∧ E X σ')) 3 [(0, .ref 19), (1, .int a0), (2, .int a1), (3, .int a2), (4, .int x4)] [] σ := by
    have step : ∀ (Bk : Int32 → ab_S → Prop) (k_Bk : ∀ (x4 : Int32)  (σ : ab_S), Wire σ → Bk x4 σ → V l mdX7_namedOnlyIn B 1 23 0 0 (ab_End (fun v σ' => Wire σ' ∧ ∃ r : Int32, v = some (.int r) ∧ Q r σ') (fun X σ' => Wire σ' ∧ E X σ')) 3 [(0, .ref 19), (1, .int a0), (2, .int a1), (3, .int a2), (4, .int x4)] [] σ), ∀ (x4 : Int32)  (σ : ab_S), Wire σ → wX7_namedOnlyIn_l3_b a0 a1 a2 Q E Bk x4 σ → V l mdX7_namedOnlyIn B 1 23 0 0 (ab_End (fun v σ' => Wire σ' ∧ ∃ r : Int32, v = some (.int r) ∧ Q r σ') (fun X σ' => Wire σ' ∧ E X σ')) 3 [(0, .ref 19), (1, .int a0), (2, .int a1), (3, .int a2), (4, .int x4)] [] σ := by
      intro Bk k_Bk
      have k_j45 : ∀ (x4 : Int32)  (σ : ab_S), Wire σ → wX7_namedOnlyIn_j45 a0 a1 a2 Q E Bk x4 σ → V l mdX7_namedOnlyIn B 1 23 0 0 (ab_End (fun v σ' => Wire σ' ∧ ∃ r : Int32, v = some (.int r) ∧ Q r σ') (fun X σ' => Wire σ' ∧ E X σ')) 45 [(0, .ref 19), (1, .int a0), (2, .int a1), (3, .int a2), (4, .int x4)] [] σ := by
        intro x4  σ hW h
        obtain ⟨v1, ev1⟩ : ∃ z : Int32, z = (x4 + 1) := ⟨_, rfl⟩
        replace h := h v1 ev1
        refine V_iinc 24 4 (v := v1) (lv' := [(4, .int v1), (0, .ref 19), (1, .int a0), (2, .int a1), (3, .int a2)]) rfl rfl ((in_1 _).trans ev1.symm) (by decide) rfl ?_
        refine V_goto 25 (tgt := 3) rfl (by decide) ?_
        refine V_sub [1, 2, 3, 4, 0] (lv' := [(0, .ref 19), (1, .int a0), (2, .int a1), (3, .int a2), (4, .int v1)]) rfl ?_
        exact k_Bk v1  σ hW h
      intro x4  σ hW h
      refine V_iload 2 4 rfl rfl ?_
      refine V_bipush 3 (v := (32 : Int32)) rfl (by decide) ?_
      refine V_icmp_ge 4 (tgt := 51) rfl (by decide) (fun hc => ?_) (fun hc => ?_)
      · replace h := h.1 hc
        refine V_iconst 26 (v := (1 : Int32)) rfl (by decide) ?_
        exact V_zret 27 rfl rfl rfl ⟨hW, _, rfl, h⟩
      · replace h := h.2 hc
        refine V_pc 10 rfl ?_
        refine V_aload_n 5 0 rfl rfl rfl ?_
        refine V_iload_n 6 1 rfl rfl rfl ?_
        refine V_iload 7 4 rfl rfl ?_
        refine V_iload_n 8 2 rfl rfl rfl ?_
        refine V_callV 9 3 (as := [.int a0, .int x4, .int a1]) (rest := []) rfl mlX7_127 yvX7_names rfl rfl clX7 (wsh hW rfl) (by decide) (by decide) (Nat.le_of_ble_eq_true rfl) (by decide) (by decide) (fun B9 => ceX7_names hl B9 hW h) (fun X9 τ9 h9 => VX_out rfl h9) ?_
        rintro v9 σ2 ⟨hW, u3, rfl, h⟩
        refine V_if_eq 10 (tgt := 45) rfl (by decide) (fun hc => ?_) (fun hc => ?_)
        · replace h := h.1 hc
          exact k_j45 x4 σ2 hW h
        · replace h := h.2 hc
          refine V_pc 21 rfl ?_
          refine V_aload_n 11 0 rfl rfl rfl ?_
          refine V_getR 12 0 rfl clX7 flX7_21 (by decide) (wsh hW rfl) (fun _ => rfl) (wrf hW 26 rfl) ?_
          refine V_getR 13 1 rfl clX4 flX7_82 (by decide) (wsh hW rfl) (fun _ => rfl) (wrf hW 20 rfl) ?_
          refine V_aload_n 14 0 rfl rfl rfl ?_
          refine V_getR 15 0 rfl clX7 flX7_21 (by decide) (wsh hW rfl) (fun _ => rfl) (wrf hW 26 rfl) ?_
          refine V_iload_n 16 1 rfl rfl rfl ?_
          refine V_pc 33 rfl ?_
          refine V_iload 17 4 rfl rfl ?_
          refine V_callV 18 2 (as := [.int a0, .int x4]) (rest := [.ref 13]) rfl mlX7_124 yvX4_entryOfRule rfl rfl clX4 (wsh hW rfl) (by decide) (by decide) (Nat.le_of_ble_eq_true rfl) (by decide) (by decide) (fun B9 => ceX4_entryOfRule hl B9 hW h) (fun X9 τ9 h9 => VX_out rfl h9) ?_
          rintro v9 σ4 ⟨hW, u5, rfl, h⟩
          obtain ⟨hin, h⟩ := h
          refine V_iald 19 rfl (wsh hW rfl) hin ?_
          refine V_iload_n 20 3 rfl rfl rfl ?_
          refine V_icmp_eq 21 (tgt := 45) rfl (by decide) (fun hc => ?_) (fun hc => ?_)
          · replace h := h.1 hc
            exact k_j45 x4 σ4 hW h
          · replace h := h.2 hc
            refine V_pc 43 rfl ?_
            refine V_iconst 22 (v := (0 : Int32)) rfl (by decide) ?_
            exact V_zret 23 rfl rfl rfl ⟨hW, _, rfl, h⟩
    intro n
    induction n with
    | zero => intro x4  σ hW h; exact absurd h id
    | succ n ih => exact step  _ ih
  intro σ hW h
  refine V_iconst 0 (v := (0 : Int32)) rfl (by decide) ?_
  refine V_istore 1 (lv' := [(4, .int (0 : Int32)), (0, .ref 19), (1, .int a0), (2, .int a1), (3, .int a2)]) rfl (by decide) rfl ?_
  refine V_sub [1, 2, 3, 4, 0] (lv' := [(0, .ref 19), (1, .int a0), (2, .int a1), (3, .int a2), (4, .int (0 : Int32))]) rfl ?_
  obtain ⟨n, h⟩ := h
  exact k_l3 n (0 : Int32) σ hW h

def wX7_isShortAt_j80 (a0 : Int32) (a1 : Int32) (a2 : Int32) (Q : Int32 → ab_S → Prop) (E : String → ab_S → Prop) (x5 : Int32) (x7 : Int32) (y0 : Int32) (y1 : Int32) (σ : ab_S) : Prop := ((¬ y1 = y0) → wX4_entryOfRule a0 x5 (fun u2 σ1 => vp_in u2 1410 ∧ (((¬ (σ1.2.1 13 u2.toNatClampNeg) = x7) → Q (0 : Int32) σ1) ∧ (¬ (¬ (σ1.2.1 13 u2.toNatClampNeg) = x7) → Q (1 : Int32) σ1))) E σ) ∧ (¬ (¬ y1 = y0) → wX7_namedOnlyIn a0 x5 x7 (fun u4 σ3 => (u4 = 0 ∨ u4 = 1) ∧ Q u4 σ3) E σ)
def wX7_isShortAt_j59 (a0 : Int32) (a1 : Int32) (a2 : Int32) (Q : Int32 → ab_S → Prop) (E : String → ab_S → Prop) (x4 : Int32) (x5 : Int32) (y0 : Int32) (σ : ab_S) : Prop := ∃ q5, σ.2.2.2 19 1 = some q5 ∧ isG q5 ∧ (wX0_isDown q5 x4 a2 (fun u7 σ6 => ((¬ a1 = 0) → wX7_isShortAt_j80 a0 a1 a2 Q E x5 y0 (0 : Int32) u7 σ6) ∧ (¬ (¬ a1 = 0) → wX7_isShortAt_j80 a0 a1 a2 Q E x5 y0 (1 : Int32) u7 σ6)) E σ)
def wX7_isShortAt (a0 : Int32) (a1 : Int32) (a2 : Int32) (Q : Int32 → ab_S → Prop) (E : String → ab_S → Prop) (σ : ab_S) : Prop := ∃ q8, σ.2.2.2 19 1 = some q8 ∧ isG q8 ∧ (wX0_symbolAt q8 a0 a1 (fun u10 σ9 => ∀ v11 : Int32, v11 = ((a1 * (8 : Int32)) + a2) → ∃ q12, σ9.2.2.2 19 1 = some q12 ∧ isG q12 ∧ (wX0_visitOf q12 u10 a2 (fun u14 σ13 => ((¬ a1 = 0) → wX4_entryOfVisit a0 a1 u14 (fun u16 σ15 => vp_in u16 1410 ∧ (wX7_isShortAt_j59 a0 a1 a2 Q E u10 v11 (σ15.2.1 13 u16.toNatClampNeg) σ15)) E σ13) ∧ (¬ (¬ a1 = 0) → wX7_isShortAt_j59 a0 a1 a2 Q E u10 v11 u14 σ13)) E σ9)) E σ)
set_option maxHeartbeats 4000000 in
set_option maxRecDepth 100000 in
theorem ceX7_isShortAt {l : Launch} (hl : l.stackTraces = false) (B : Nat) {a0 : Int32} {a1 : Int32} {a2 : Int32}  {Q : Int32 → ab_S → Prop} {E : String → ab_S → Prop} {σ : ab_S} (hW : Wire σ) (h : wX7_isShortAt a0 a1 a2 Q E σ) : ab_Mt l yX7_isShortAt mdX7_isShortAt B 2 47 0 0 [.ref 19, .int a0, .int a1, .int a2] σ (fun v σ' => Wire σ' ∧ ∃ r : Int32, v = some (.int r) ∧ Q r σ') (fun X σ' => Wire σ' ∧ E X σ') := by
  refine V_met hl ⟨rfl, rfl, by decide⟩ rfl dkX7_isShortAt (Nat.le_of_ble_eq_true rfl) ?_
  show V l mdX7_isShortAt B 2 47 0 0 (ab_End _ _) 0 [(0, .ref 19), (1, .int a0), (2, .int a1), (3, .int a2)] [] σ
  revert h hW
  revert σ
  have k_j80 : ∀ (x5 : Int32) (x7 : Int32) (y0 : Int32) (y1 : Int32)  (σ : ab_S), Wire σ → wX7_isShortAt_j80 a0 a1 a2 Q E x5 x7 y0 y1 σ → V l mdX7_isShortAt B 2 47 0 0 (ab_End (fun v σ' => Wire σ' ∧ ∃ r : Int32, v = some (.int r) ∧ Q r σ') (fun X σ' => Wire σ' ∧ E X σ')) 80 [(0, .ref 19), (1, .int a0), (5, .int x5), (7, .int x7)] [.int y0, .int y1] σ := by
    intro x5 x7 y0 y1  σ hW h
    refine V_icmp_ne 43 (tgt := 93) rfl (by decide) (fun hc => ?_) (fun hc => ?_)
    · replace h := h.1 hc
      refine V_aload_n 50 0 rfl rfl rfl ?_
      refine V_getR 51 0 rfl clX7 flX7_21 (by decide) (wsh hW rfl) (fun _ => rfl) (wrf hW 26 rfl) ?_
      refine V_getR 52 1 rfl clX4 flX7_82 (by decide) (wsh hW rfl) (fun _ => rfl) (wrf hW 20 rfl) ?_
      refine V_aload_n 53 0 rfl rfl rfl ?_
      refine V_getR 54 0 rfl clX7 flX7_21 (by decide) (wsh hW rfl) (fun _ => rfl) (wrf hW 26 rfl) ?_
      refine V_iload_n 55 1 rfl rfl rfl ?_
      refine V_pc 105 rfl ?_
      refine V_iload 56 2 rfl rfl ?_
      refine V_callV 57 2 (as := [.int a0, .int x5]) (rest := [.ref 13]) rfl mlX7_124 yvX4_entryOfRule rfl rfl clX4 (wsh hW rfl) (by decide) (by decide) (Nat.le_of_ble_eq_true rfl) (by decide) (by decide) (fun B9 => ceX4_entryOfRule hl B9 hW h) (fun X9 τ9 h9 => VX_out rfl h9) ?_
      rintro v9 σ1 ⟨hW, u2, rfl, h⟩
      obtain ⟨hin, h⟩ := h
      refine V_iald 58 rfl (wsh hW rfl) hin ?_
      refine V_iload 59 3 rfl rfl ?_
      refine V_icmp_ne 60 (tgt := 120) rfl (by decide) (fun hc => ?_) (fun hc => ?_)
      · replace h := h.1 hc
        refine V_iconst 63 (v := (0 : Int32)) rfl (by decide) ?_
        exact V_zret 64 rfl rfl rfl ⟨hW, _, rfl, h⟩
      · replace h := h.2 hc
        refine V_pc 116 rfl ?_
        refine V_iconst 61 (v := (1 : Int32)) rfl (by decide) ?_
        refine V_goto 62 (tgt := 121) rfl (by decide) ?_
        exact V_zret 64 rfl rfl rfl ⟨hW, _, rfl, h⟩
    · replace h := h.2 hc
      refine V_pc 83 rfl ?_
      refine V_aload_n 44 0 rfl rfl rfl ?_
      refine V_iload_n 45 1 rfl rfl rfl ?_
      refine V_iload 46 2 rfl rfl ?_
      refine V_iload 47 3 rfl rfl ?_
      refine V_callV 48 3 (as := [.int a0, .int x5, .int x7]) (rest := []) rfl mlX7_121 yvX7_namedOnlyIn rfl rfl clX7 (wsh hW rfl) (by decide) (by decide) (Nat.le_of_ble_eq_true rfl) (by decide) (by decide) (fun B9 => ceX7_namedOnlyIn hl B9 hW h) (fun X9 τ9 h9 => VX_out rfl h9) ?_
      rintro v9 σ3 ⟨hW, u4, rfl, h⟩
      exact V_zret 49 rfl rfl (nb1 h.1) ⟨hW, _, rfl, h.2⟩
  have k_j59 : ∀ (x4 : Int32) (x5 : Int32) (y0 : Int32)  (σ : ab_S), Wire σ → wX7_isShortAt_j59 a0 a1 a2 Q E x4 x5 y0 σ → V l mdX7_isShortAt B 2 47 0 0 (ab_End (fun v σ' => Wire σ' ∧ ∃ r : Int32, v = some (.int r) ∧ Q r σ') (fun X σ' => Wire σ' ∧ E X σ')) 59 [(0, .ref 19), (1, .int a0), (2, .int a1), (3, .int a2), (4, .int x4), (5, .int x5)] [.int y0] σ := by
    intro x4 x5 y0  σ hW h
    refine V_istore 32 (lv' := [(7, .int y0), (0, .ref 19), (1, .int a0), (2, .int a1), (3, .int a2), (4, .int x4), (5, .int x5)]) rfl (by decide) rfl ?_
    refine V_aload_n 33 1 rfl rfl rfl ?_
    obtain ⟨q5, eq5, hq5, h⟩ := h
    refine V_getR 34 1 rfl clX7 flX7_25 (by decide) (wsh hW rfl) (fun _ => rfl) eq5 ?_
    refine V_iload 35 5 rfl rfl ?_
    refine V_iload_n 36 4 rfl rfl rfl ?_
    refine V_callV 37 2 (as := [.int x4, .int a2]) (rest := []) rfl mlX7_118 yvX0_isDown rfl rfl clX0 (wG hW hq5) (by decide) (by decide) (Nat.le_of_ble_eq_true rfl) (by decide) (by decide) (fun B9 => ceX0_isDown hl B9 hq5 hW h) (fun X9 τ9 h9 => VX_out rfl h9) ?_
    rintro v9 σ6 ⟨hW, u7, rfl, h⟩
    refine V_iload_n 38 3 rfl rfl rfl ?_
    refine V_if_ne 39 (tgt := 79) rfl (by decide) (fun hc => ?_) (fun hc => ?_)
    · replace h := h.1 hc
      refine V_iconst 42 (v := (0 : Int32)) rfl (by decide) ?_
      refine V_sub [1, 2, 6, 0] (lv' := [(0, .ref 19), (1, .int a0), (5, .int x5), (7, .int y0)]) rfl ?_
      exact k_j80 x5 y0 (0 : Int32) u7 σ6 hW h
    · replace h := h.2 hc
      refine V_pc 75 rfl ?_
      refine V_iconst 40 (v := (1 : Int32)) rfl (by decide) ?_
      refine V_goto 41 (tgt := 80) rfl (by decide) ?_
      refine V_sub [1, 2, 6, 0] (lv' := [(0, .ref 19), (1, .int a0), (5, .int x5), (7, .int y0)]) rfl ?_
      exact k_j80 x5 y0 (1 : Int32) u7 σ6 hW h
  intro σ hW h
  refine V_aload_n 0 0 rfl rfl rfl ?_
  obtain ⟨q8, eq8, hq8, h⟩ := h
  refine V_getR 1 1 rfl clX7 flX7_25 (by decide) (wsh hW rfl) (fun _ => rfl) eq8 ?_
  refine V_iload_n 2 1 rfl rfl rfl ?_
  refine V_iload_n 3 2 rfl rfl rfl ?_
  refine V_callV 4 2 (as := [.int a0, .int a1]) (rest := []) rfl mlX7_54 yvX0_symbolAt rfl rfl clX0 (wG hW hq8) (by decide) (by decide) (Nat.le_of_ble_eq_true rfl) (by decide) (by decide) (fun B9 => ceX0_symbolAt hl B9 hq8 hW h) (fun X9 τ9 h9 => VX_out rfl h9) ?_
  rintro v9 σ9 ⟨hW, u10, rfl, h⟩
  refine V_istore 5 (lv' := [(4, .int u10), (0, .ref 19), (1, .int a0), (2, .int a1), (3, .int a2)]) rfl (by decide) rfl ?_
  refine V_iload_n 6 3 rfl rfl rfl ?_
  refine V_bipush 7 (v := (8 : Int32)) rfl (by decide) ?_
  refine V_imul 8 rfl ?_
  refine V_iload_n 9 4 rfl rfl rfl ?_
  refine V_pc 16 rfl ?_
  refine V_iadd 10 rfl ?_
  refine V_topi (fun v11 ev11 => ?_)
  replace h := h v11 ev11
  refine V_istore 11 (lv' := [(5, .int v11), (4, .int u10), (0, .ref 19), (1, .int a0), (2, .int a1), (3, .int a2)]) rfl (by decide) rfl ?_
  refine V_aload_n 12 2 rfl rfl rfl ?_
  obtain ⟨q12, eq12, hq12, h⟩ := h
  refine V_getR 13 1 rfl clX7 flX7_25 (by decide) (wsh hW rfl) (fun _ => rfl) eq12 ?_
  refine V_iload 14 1 rfl rfl ?_
  refine V_iload_n 15 5 rfl rfl rfl ?_
  refine V_pc 26 rfl ?_
  refine V_callV 16 2 (as := [.int u10, .int a2]) (rest := []) rfl mlX7_112 yvX0_visitOf rfl rfl clX0 (wG hW hq12) (by decide) (by decide) (Nat.le_of_ble_eq_true rfl) (by decide) (by decide) (fun B9 => ceX0_visitOf hl B9 hq12 hW h) (fun X9 τ9 h9 => VX_out rfl h9) ?_
  rintro v9 σ13 ⟨hW, u14, rfl, h⟩
  refine V_istore 17 (lv' := [(6, .int u14), (5, .int v11), (4, .int u10), (0, .ref 19), (1, .int a0), (2, .int a1), (3, .int a2)]) rfl (by decide) rfl ?_
  refine V_iload_n 18 5 rfl rfl rfl ?_
  refine V_if_ne 19 (tgt := 40) rfl (by decide) (fun hc => ?_) (fun hc => ?_)
  · replace h := h.1 hc
    refine V_aload_n 22 3 rfl rfl rfl ?_
    refine V_getR 23 0 rfl clX7 flX7_21 (by decide) (wsh hW rfl) (fun _ => rfl) (wrf hW 26 rfl) ?_
    refine V_getR 24 1 rfl clX4 flX7_82 (by decide) (wsh hW rfl) (fun _ => rfl) (wrf hW 20 rfl) ?_
    refine V_aload_n 25 3 rfl rfl rfl ?_
    refine V_getR 26 0 rfl clX7 flX7_21 (by decide) (wsh hW rfl) (fun _ => rfl) (wrf hW 26 rfl) ?_
    refine V_iload_n 27 4 rfl rfl rfl ?_
    refine V_pc 52 rfl ?_
    refine V_iload_n 28 5 rfl rfl rfl ?_
    refine V_iload 29 0 rfl rfl ?_
    refine V_callV 30 3 (as := [.int a0, .int a1, .int u14]) (rest := [.ref 13]) rfl mlX7_115 yvX4_entryOfVisit rfl rfl clX4 (wsh hW rfl) (by decide) (by decide) (Nat.le_of_ble_eq_true rfl) (by decide) (by decide) (fun B9 => ceX4_entryOfVisit hl B9 hW h) (fun X9 τ9 h9 => VX_out rfl h9) ?_
    rintro v9 σ15 ⟨hW, u16, rfl, h⟩
    obtain ⟨hin, h⟩ := h
    refine V_iald 31 rfl (wsh hW rfl) hin ?_
    refine V_sub [3, 4, 5, 6, 2, 1] (lv' := [(0, .ref 19), (1, .int a0), (2, .int a1), (3, .int a2), (4, .int u10), (5, .int v11)]) rfl ?_
    exact k_j59 u10 v11 (σ15.2.1 13 u16.toNatClampNeg) σ15 hW h
  · replace h := h.2 hc
    refine V_pc 35 rfl ?_
    refine V_iload 20 0 rfl rfl ?_
    refine V_goto 21 (tgt := 59) rfl (by decide) ?_
    refine V_sub [3, 4, 5, 6, 2, 1] (lv' := [(0, .ref 19), (1, .int a0), (2, .int a1), (3, .int a2), (4, .int u10), (5, .int v11)]) rfl ?_
    exact k_j59 u10 v11 u14 σ13 hW h

def wX7_lastNaming_j38 (a0 : Int32) (a1 : Int32) (Q : Int32 → ab_S → Prop) (E : String → ab_S → Prop) (Bk : Int32 → Int32 → ab_S → Prop) (x3 : Int32) (x4 : Int32) (σ : ab_S) : Prop := ∀ v1 : Int32, v1 = (x4 + 1) → Bk x3 v1 σ
def wX7_lastNaming_l5_b (a0 : Int32) (a1 : Int32) (Q : Int32 → ab_S → Prop) (E : String → ab_S → Prop) (Bk : Int32 → Int32 → ab_S → Prop) (x3 : Int32) (x4 : Int32) (σ : ab_S) : Prop := (((32 : Int32) ≤ x4) → Q x3 σ) ∧ (¬ ((32 : Int32) ≤ x4) → wX7_names a0 x4 a1 (fun u3 σ2 => ((u3 = 0) → wX7_lastNaming_j38 a0 a1 Q E Bk x3 x4 σ2) ∧ (¬ (u3 = 0) → wX4_entryOfRule a0 x4 (fun u5 σ4 => ∀ v6 : Int32, v6 = (if x3 < u5 then u5 else x3) → wX7_lastNaming_j38 a0 a1 Q E Bk v6 x4 σ4) E σ2)) E σ)
def wX7_lastNaming_l5 (a0 : Int32) (a1 : Int32) (Q : Int32 → ab_S → Prop) (E : String → ab_S → Prop) : Nat → Int32 → Int32 → ab_S → Prop
  | 0, _, _, _ => False
  | n + 1, x3, x4, σ => wX7_lastNaming_l5_b a0 a1 Q E (wX7_lastNaming_l5 a0 a1 Q E n) x3 x4 σ
def wX7_lastNaming (a0 : Int32) (a1 : Int32) (Q : Int32 → ab_S → Prop) (E : String → ab_S → Prop) (σ : ab_S) : Prop := ∃ n, wX7_lastNaming_l5 a0 a1 Q E n (-1 : Int32) (0 : Int32) σ
set_option maxHeartbeats 4000000 in
set_option maxRecDepth 100000 in
theorem ceX7_lastNaming {l : Launch} (hl : l.stackTraces = false) (B : Nat) {a0 : Int32} {a1 : Int32}  {Q : Int32 → ab_S → Prop} {E : String → ab_S → Prop} {σ : ab_S} (hW : Wire σ) (h : wX7_lastNaming a0 a1 Q E σ) : ab_Mt l yX7_lastNaming mdX7_lastNaming B 1 30 0 0 [.ref 19, .int a0, .int a1] σ (fun v σ' => Wire σ' ∧ ∃ r : Int32, v = some (.int r) ∧ Q r σ') (fun X σ' => Wire σ' ∧ E X σ') := by
  refine V_met hl ⟨rfl, rfl, by decide⟩ rfl dkX7_lastNaming (Nat.le_of_ble_eq_true rfl) ?_
  show V l mdX7_lastNaming B 1 30 0 0 (ab_End _ _) 0 [(0, .ref 19), (1, .int a0), (2, .int a1)] [] σ
  revert h hW
  revert σ
  have k_l5 : ∀ (n : Nat) (x3 : Int32) (x4 : Int32)  (σ : ab_S), Wire σ → wX7_lastNaming_l5 a0 a1 Q E n x3 x4 σ → V l mdX7_lastNaming B 1 30 0 0 (ab_End (fun v σ' => Wire σ' ∧ ∃ r : Int32, v = some (.int r) ∧ Q r σ') (fun X σ' => Wire σ' ∧ E X σ')) 5 [(0, .ref 19), (1, .int a0), (2, .int a1), (3, .int x3), (4, .int x4)] [] σ := by
    have step : ∀ (Bk : Int32 → Int32 → ab_S → Prop) (k_Bk : ∀ (x3 : Int32) (x4 : Int32)  (σ : ab_S), Wire σ → Bk x3 x4 σ → V l mdX7_lastNaming B 1 30 0 0 (ab_End (fun v σ' => Wire σ' ∧ ∃ r : Int32, v = some (.int r) ∧ Q r σ') (fun X σ' => Wire σ' ∧ E X σ')) 5 [(0, .ref 19), (1, .int a0), (2, .int a1), (3, .int x3), (4, .int x4)] [] σ), ∀ (x3 : Int32) (x4 : Int32)  (σ : ab_S), Wire σ → wX7_lastNaming_l5_b a0 a1 Q E Bk x3 x4 σ → V l mdX7_lastNaming B 1 30 0 0 (ab_End (fun v σ' => Wire σ' ∧ ∃ r : Int32, v = some (.int r) ∧ Q r σ') (fun X σ' => Wire σ' ∧ E X σ')) 5 [(0, .ref 19), (1, .int a0), (2, .int a1), (3, .int x3), (4, .int x4)] [] σ := by
      intro Bk k_Bk
      have k_j38 : ∀ (x3 : Int32) (x4 : Int32)  (σ : ab_S), Wire σ → wX7_lastNaming_j38 a0 a1 Q E Bk x3 x4 σ → V l mdX7_lastNaming B 1 30 0 0 (ab_End (fun v σ' => Wire σ' ∧ ∃ r : Int32, v = some (.int r) ∧ Q r σ') (fun X σ' => Wire σ' ∧ E X σ')) 38 [(0, .ref 19), (1, .int a0), (2, .int a1), (3, .int x3), (4, .int x4)] [] σ := by
        intro x3 x4  σ hW h
        obtain ⟨v1, ev1⟩ : ∃ z : Int32, z = (x4 + 1) := ⟨_, rfl⟩
        replace h := h v1 ev1
        refine V_iinc 21 4 (v := v1) (lv' := [(4, .int v1), (0, .ref 19), (1, .int a0), (2, .int a1), (3, .int x3)]) rfl rfl ((in_1 _).trans ev1.symm) (by decide) rfl ?_
        refine V_goto 22 (tgt := 5) rfl (by decide) ?_
        refine V_sub [1, 2, 3, 4, 0] (lv' := [(0, .ref 19), (1, .int a0), (2, .int a1), (3, .int x3), (4, .int v1)]) rfl ?_
        exact k_Bk x3 v1  σ hW h
      intro x3 x4  σ hW h
      refine V_iload 4 4 rfl rfl ?_
      refine V_bipush 5 (v := (32 : Int32)) rfl (by decide) ?_
      refine V_icmp_ge 6 (tgt := 44) rfl (by decide) (fun hc => ?_) (fun hc => ?_)
      · replace h := h.1 hc
        refine V_iload_n 23 3 rfl rfl rfl ?_
        exact V_iret 24 rfl rfl ⟨hW, _, rfl, h⟩
      · replace h := h.2 hc
        refine V_pc 12 rfl ?_
        refine V_aload_n 7 0 rfl rfl rfl ?_
        refine V_iload_n 8 1 rfl rfl rfl ?_
        refine V_iload 9 4 rfl rfl ?_
        refine V_iload_n 10 2 rfl rfl rfl ?_
        refine V_callV 11 3 (as := [.int a0, .int x4, .int a1]) (rest := []) rfl mlX7_127 yvX7_names rfl rfl clX7 (wsh hW rfl) (by decide) (by decide) (Nat.le_of_ble_eq_true rfl) (by decide) (by decide) (fun B9 => ceX7_names hl B9 hW h) (fun X9 τ9 h9 => VX_out rfl h9) ?_
        rintro v9 σ2 ⟨hW, u3, rfl, h⟩
        refine V_if_eq 12 (tgt := 38) rfl (by decide) (fun hc => ?_) (fun hc => ?_)
        · replace h := h.1 hc
          exact k_j38 x3 x4 σ2 hW h
        · replace h := h.2 hc
          refine V_pc 23 rfl ?_
          refine V_iload_n 13 3 rfl rfl rfl ?_
          refine V_aload_n 14 0 rfl rfl rfl ?_
          refine V_getR 15 0 rfl clX7 flX7_21 (by decide) (wsh hW rfl) (fun _ => rfl) (wrf hW 26 rfl) ?_
          refine V_iload_n 16 1 rfl rfl rfl ?_
          refine V_iload 17 4 rfl rfl ?_
          refine V_callV 18 2 (as := [.int a0, .int x4]) (rest := [.int x3]) rfl mlX7_124 yvX4_entryOfRule rfl rfl clX4 (wsh hW rfl) (by decide) (by decide) (Nat.le_of_ble_eq_true rfl) (by decide) (by decide) (fun B9 => ceX4_entryOfRule hl B9 hW h) (fun X9 τ9 h9 => VX_out rfl h9) ?_
          rintro v9 σ4 ⟨hW, u5, rfl, h⟩
          refine V_max 19 rfl mlX7_137 mx_1 mx_2 mx_3 (by decide) (Nat.le_of_ble_eq_true rfl) ?_
          refine V_topi (fun v6 ev6 => ?_)
          replace h := h v6 ev6
          refine V_istore_n 20 (lv' := [(3, .int v6), (0, .ref 19), (1, .int a0), (2, .int a1), (4, .int x4)]) rfl rfl (by decide) rfl ?_
          refine V_sub [1, 2, 3, 0, 4] (lv' := [(0, .ref 19), (1, .int a0), (2, .int a1), (3, .int v6), (4, .int x4)]) rfl ?_
          exact k_j38 v6 x4 σ4 hW h
    intro n
    induction n with
    | zero => intro x3 x4  σ hW h; exact absurd h id
    | succ n ih => exact step  _ ih
  intro σ hW h
  refine V_iconst 0 (v := (-1 : Int32)) rfl (by decide) ?_
  refine V_istore_n 1 (lv' := [(3, .int (-1 : Int32)), (0, .ref 19), (1, .int a0), (2, .int a1)]) rfl rfl (by decide) rfl ?_
  refine V_iconst 2 (v := (0 : Int32)) rfl (by decide) ?_
  refine V_istore 3 (lv' := [(4, .int (0 : Int32)), (3, .int (-1 : Int32)), (0, .ref 19), (1, .int a0), (2, .int a1)]) rfl (by decide) rfl ?_
  refine V_sub [2, 3, 4, 1, 0] (lv' := [(0, .ref 19), (1, .int a0), (2, .int a1), (3, .int (-1 : Int32)), (4, .int (0 : Int32))]) rfl ?_
  obtain ⟨n, h⟩ := h
  exact k_l5 n (-1 : Int32) (0 : Int32) σ hW h

def wX7_isFree_j92 (a0 : Int32) (a1 : Int32) (a2 : Int32) (a3 : Int32) (a4 : Int32) (Q : Int32 → ab_S → Prop) (E : String → ab_S → Prop) (Bk : Int32 → ab_S → Prop) (x6 : Int32) (x8 : Int32) (σ : ab_S) : Prop := (((((x8.toUInt32 >>> (a4.toUInt32 &&& Int32.toUInt32 31)).toInt32) &&& (1 : Int32)) = 0) → ∀ v1 : Int32, v1 = (x6 + 1) → Bk v1 σ) ∧ (¬ ((((x8.toUInt32 >>> (a4.toUInt32 &&& Int32.toUInt32 31)).toInt32) &&& (1 : Int32)) = 0) → Q (0 : Int32) σ)
def wX7_isFree_j90 (a0 : Int32) (a1 : Int32) (a2 : Int32) (a3 : Int32) (a4 : Int32) (Q : Int32 → ab_S → Prop) (E : String → ab_S → Prop) (Bk : Int32 → ab_S → Prop) (x6 : Int32) (y0 : Int32) (σ : ab_S) : Prop := wX7_isFree_j92 a0 a1 a2 a3 a4 Q E Bk x6 y0 σ
def wX7_isFree_l3_b (a0 : Int32) (a1 : Int32) (a2 : Int32) (a3 : Int32) (a4 : Int32) (Q : Int32 → ab_S → Prop) (E : String → ab_S → Prop) (Bk : Int32 → ab_S → Prop) (x6 : Int32) (σ : ab_S) : Prop := ((a2 ≤ x6) → Q (1 : Int32) σ) ∧ (¬ (a2 ≤ x6) → ∃ q2, σ.2.2.2 19 1 = some q2 ∧ isG q2 ∧ (wX4_occurrenceOf x6 (fun u4 σ3 => wX0_symbolAt q2 a0 u4 (fun u6 σ5 => wX4_isVisit x6 (fun u8 σ7 => ((u8 = 0) → ((¬ u6 = a3) → wX7_isFree_j90 a0 a1 a2 a3 a4 Q E Bk x6 (0 : Int32) σ7) ∧ (¬ (¬ u6 = a3) → wX4_attributeOf x6 (fun u10 σ9 => wX7_isFree_j90 a0 a1 a2 a3 a4 Q E Bk x6 ((1 : Int32) <<< (u10 &&& 31)) σ9) E σ7)) ∧ (¬ (u8 = 0) → vp_in x6 1410 ∧ (wX7_rowOf u6 (σ7.2.1 14 x6.toNatClampNeg) (fun u12 σ11 => vp_in (u12 + a3) 1008 ∧ (∀ v13 : Int32, v13 = (σ11.2.1 20 (u12 + a3).toNatClampNeg) → wX7_isFree_j92 a0 a1 a2 a3 a4 Q E Bk x6 v13 σ11)) E σ7))) E σ5) E σ3) E σ))
def wX7_isFree_l3 (a0 : Int32) (a1 : Int32) (a2 : Int32) (a3 : Int32) (a4 : Int32) (Q : Int32 → ab_S → Prop) (E : String → ab_S → Prop) : Nat → Int32 → ab_S → Prop
  | 0, _, _ => False
  | n + 1, x6, σ => wX7_isFree_l3_b a0 a1 a2 a3 a4 Q E (wX7_isFree_l3 a0 a1 a2 a3 a4 Q E n) x6 σ
def wX7_isFree (a0 : Int32) (a1 : Int32) (a2 : Int32) (a3 : Int32) (a4 : Int32) (Q : Int32 → ab_S → Prop) (E : String → ab_S → Prop) (σ : ab_S) : Prop := ∃ n, wX7_isFree_l3 a0 a1 a2 a3 a4 Q E n a1 σ
set_option maxHeartbeats 4000000 in
set_option maxRecDepth 100000 in
theorem ceX7_isFree {l : Launch} (hl : l.stackTraces = false) (B : Nat) {a0 : Int32} {a1 : Int32} {a2 : Int32} {a3 : Int32} {a4 : Int32}  {Q : Int32 → ab_S → Prop} {E : String → ab_S → Prop} {σ : ab_S} (hW : Wire σ) (h : wX7_isFree a0 a1 a2 a3 a4 Q E σ) : ab_Mt l yX7_isFree mdX7_isFree B 2 42 0 0 [.ref 19, .int a0, .int a1, .int a2, .int a3, .int a4] σ (fun v σ' => Wire σ' ∧ ∃ r : Int32, v = some (.int r) ∧ Q r σ') (fun X σ' => Wire σ' ∧ E X σ') := by
  refine V_met hl ⟨rfl, rfl, by decide⟩ rfl dkX7_isFree (Nat.le_of_ble_eq_true rfl) ?_
  show V l mdX7_isFree B 2 42 0 0 (ab_End _ _) 0 [(0, .ref 19), (1, .int a0), (2, .int a1), (3, .int a2), (4, .int a3), (5, .int a4)] [] σ
  revert h hW
  revert σ
  have k_l3 : ∀ (n : Nat) (x6 : Int32)  (σ : ab_S), Wire σ → wX7_isFree_l3 a0 a1 a2 a3 a4 Q E n x6 σ → V l mdX7_isFree B 2 42 0 0 (ab_End (fun v σ' => Wire σ' ∧ ∃ r : Int32, v = some (.int r) ∧ Q r σ') (fun X σ' => Wire σ' ∧ E X σ')) 3 [(0, .ref 19), (1, .int a0), (3, .int a2), (4, .int a3), (5, .int a4), (6, .int x6)] [] σ := by
    have step : ∀ (Bk : Int32 → ab_S → Prop) (k_Bk : ∀ (x6 : Int32)  (σ : ab_S), Wire σ → Bk x6 σ → V l mdX7_isFree B 2 42 0 0 (ab_End (fun v σ' => Wire σ' ∧ ∃ r : Int32, v = some (.int r) ∧ Q r σ') (fun X σ' => Wire σ' ∧ E X σ')) 3 [(0, .ref 19), (1, .int a0), (3, .int a2), (4, .int a3), (5, .int a4), (6, .int x6)] [] σ), ∀ (x6 : Int32)  (σ : ab_S), Wire σ → wX7_isFree_l3_b a0 a1 a2 a3 a4 Q E Bk x6 σ → V l mdX7_isFree B 2 42 0 0 (ab_End (fun v σ' => Wire σ' ∧ ∃ r : Int32, v = some (.int r) ∧ Q r σ') (fun X σ' => Wire σ' ∧ E X σ')) 3 [(0, .ref 19), (1, .int a0), (3, .int a2), (4, .int a3), (5, .int a4), (6, .int x6)] [] σ := by
      intro Bk k_Bk
      have k_j92 : ∀ (x6 : Int32) (x8 : Int32)  (σ : ab_S), Wire σ → wX7_isFree_j92 a0 a1 a2 a3 a4 Q E Bk x6 x8 σ → V l mdX7_isFree B 2 42 0 0 (ab_End (fun v σ' => Wire σ' ∧ ∃ r : Int32, v = some (.int r) ∧ Q r σ') (fun X σ' => Wire σ' ∧ E X σ')) 92 [(0, .ref 19), (1, .int a0), (3, .int a2), (4, .int a3), (5, .int a4), (6, .int x6), (8, .int x8)] [] σ := by
        intro x6 x8  σ hW h
        refine V_iload 45 6 rfl rfl ?_
        refine V_iload 46 4 rfl rfl ?_
        refine V_iushr 47 rfl ?_
        refine V_iconst 48 (v := (1 : Int32)) rfl (by decide) ?_
        refine V_iand 49 rfl ?_
        refine V_if_eq 50 (tgt := 104) rfl (by decide) (fun hc => ?_) (fun hc => ?_)
        · replace h := h.1 hc
          obtain ⟨v1, ev1⟩ : ∃ z : Int32, z = (x6 + 1) := ⟨_, rfl⟩
          replace h := h v1 ev1
          refine V_iinc 53 5 (v := v1) (lv' := [(6, .int v1), (0, .ref 19), (1, .int a0), (3, .int a2), (4, .int a3), (5, .int a4), (8, .int x8)]) rfl rfl ((in_1 _).trans ev1.symm) (by decide) rfl ?_
          refine V_goto 54 (tgt := 3) rfl (by decide) ?_
          refine V_sub [1, 2, 3, 4, 5, 0] (lv' := [(0, .ref 19), (1, .int a0), (3, .int a2), (4, .int a3), (5, .int a4), (6, .int v1)]) rfl ?_
          exact k_Bk v1  σ hW h
        · replace h := h.2 hc
          refine V_pc 102 rfl ?_
          refine V_iconst 51 (v := (0 : Int32)) rfl (by decide) ?_
          exact V_zret 52 rfl rfl rfl ⟨hW, _, rfl, h⟩
      have k_j90 : ∀ (x6 : Int32) (y0 : Int32)  (σ : ab_S), Wire σ → wX7_isFree_j90 a0 a1 a2 a3 a4 Q E Bk x6 y0 σ → V l mdX7_isFree B 2 42 0 0 (ab_End (fun v σ' => Wire σ' ∧ ∃ r : Int32, v = some (.int r) ∧ Q r σ') (fun X σ' => Wire σ' ∧ E X σ')) 90 [(0, .ref 19), (1, .int a0), (3, .int a2), (4, .int a3), (5, .int a4), (6, .int x6)] [.int y0] σ := by
        intro x6 y0  σ hW h
        refine V_istore 44 (lv' := [(8, .int y0), (0, .ref 19), (1, .int a0), (3, .int a2), (4, .int a3), (5, .int a4), (6, .int x6)]) rfl (by decide) rfl ?_
        refine V_sub [1, 2, 3, 4, 5, 6, 0] (lv' := [(0, .ref 19), (1, .int a0), (3, .int a2), (4, .int a3), (5, .int a4), (6, .int x6), (8, .int y0)]) rfl ?_
        exact k_j92 x6 y0 σ hW h
      intro x6  σ hW h
      refine V_iload 2 5 rfl rfl ?_
      refine V_iload_n 3 2 rfl rfl rfl ?_
      refine V_icmp_ge 4 (tgt := 110) rfl (by decide) (fun hc => ?_) (fun hc => ?_)
      · replace h := h.1 hc
        refine V_iconst 55 (v := (1 : Int32)) rfl (by decide) ?_
        exact V_zret 56 rfl rfl rfl ⟨hW, _, rfl, h⟩
      · replace h := h.2 hc
        refine V_pc 9 rfl ?_
        refine V_aload_n 5 0 rfl rfl rfl ?_
        obtain ⟨q2, eq2, hq2, h⟩ := h
        refine V_getR 6 1 rfl clX7 flX7_25 (by decide) (wsh hW rfl) (fun _ => rfl) eq2 ?_
        refine V_iload_n 7 1 rfl rfl rfl ?_
        refine V_aload_n 8 0 rfl rfl rfl ?_
        refine V_getR 9 0 rfl clX7 flX7_21 (by decide) (wsh hW rfl) (fun _ => rfl) (wrf hW 26 rfl) ?_
        refine V_iload 10 5 rfl rfl ?_
        refine V_pc 20 rfl ?_
        refine V_callV 11 1 (as := [.int x6]) (rest := [.int a0, .ref q2]) rfl mlX7_88 yvX4_occurrenceOf rfl rfl clX4 (wsh hW rfl) (by decide) (by decide) (Nat.le_of_ble_eq_true rfl) (by decide) (by decide) (fun B9 => ceX4_occurrenceOf hl B9 hW h) (fun X9 τ9 h9 => VX_out rfl h9) ?_
        rintro v9 σ3 ⟨hW, u4, rfl, h⟩
        refine V_callV 12 2 (as := [.int a0, .int u4]) (rest := []) rfl mlX7_54 yvX0_symbolAt rfl rfl clX0 (wG hW hq2) (by decide) (by decide) (Nat.le_of_ble_eq_true rfl) (by decide) (by decide) (fun B9 => ceX0_symbolAt hl B9 hq2 hW h) (fun X9 τ9 h9 => VX_out rfl h9) ?_
        rintro v9 σ5 ⟨hW, u6, rfl, h⟩
        refine V_istore 13 (lv' := [(7, .int u6), (0, .ref 19), (1, .int a0), (3, .int a2), (4, .int a3), (5, .int a4), (6, .int x6)]) rfl (by decide) rfl ?_
        refine V_aload_n 14 1 rfl rfl rfl ?_
        refine V_getR 15 0 rfl clX7 flX7_21 (by decide) (wsh hW rfl) (fun _ => rfl) (wrf hW 26 rfl) ?_
        refine V_iload 16 6 rfl rfl ?_
        refine V_callV 17 1 (as := [.int x6]) (rest := []) rfl mlX7_92 yvX4_isVisit rfl rfl clX4 (wsh hW rfl) (by decide) (by decide) (Nat.le_of_ble_eq_true rfl) (by decide) (by decide) (fun B9 => ceX4_isVisit hl B9 hW h) (fun X9 τ9 h9 => VX_out rfl h9) ?_
        rintro v9 σ7 ⟨hW, u8, rfl, h⟩
        refine V_if_eq 18 (tgt := 68) rfl (by decide) (fun hc => ?_) (fun hc => ?_)
        · replace h := h.1 hc
          refine V_iload 33 0 rfl rfl ?_
          refine V_iload 34 4 rfl rfl ?_
          refine V_icmp_ne 35 (tgt := 89) rfl (by decide) (fun hc => ?_) (fun hc => ?_)
          · replace h := h.1 hc
            refine V_iconst 43 (v := (0 : Int32)) rfl (by decide) ?_
            refine V_sub [1, 2, 3, 4, 5, 6] (lv' := [(0, .ref 19), (1, .int a0), (3, .int a2), (4, .int a3), (5, .int a4), (6, .int x6)]) rfl ?_
            exact k_j90 x6 (0 : Int32) σ7 hW h
          · replace h := h.2 hc
            refine V_pc 75 rfl ?_
            refine V_iconst 36 (v := (1 : Int32)) rfl (by decide) ?_
            refine V_aload_n 37 1 rfl rfl rfl ?_
            refine V_getR 38 0 rfl clX7 flX7_21 (by decide) (wsh hW rfl) (fun _ => rfl) (wrf hW 26 rfl) ?_
            refine V_iload 39 6 rfl rfl ?_
            refine V_callV 40 1 (as := [.int x6]) (rest := [.int (1 : Int32)]) rfl mlX7_102 yvX4_attributeOf rfl rfl clX4 (wsh hW rfl) (by decide) (by decide) (Nat.le_of_ble_eq_true rfl) (by decide) (by decide) (fun B9 => ceX4_attributeOf hl B9 hW h) (fun X9 τ9 h9 => VX_out rfl h9) ?_
            rintro v9 σ9 ⟨hW, u10, rfl, h⟩
            refine V_ishl 41 rfl ?_
            refine V_goto 42 (tgt := 90) rfl (by decide) ?_
            refine V_sub [1, 2, 3, 4, 5, 6] (lv' := [(0, .ref 19), (1, .int a0), (3, .int a2), (4, .int a3), (5, .int a4), (6, .int x6)]) rfl ?_
            exact k_j90 x6 ((1 : Int32) <<< (u10 &&& 31)) σ9 hW h
        · replace h := h.2 hc
          refine V_pc 40 rfl ?_
          refine V_aload_n 19 1 rfl rfl rfl ?_
          refine V_getR 20 2 rfl clX7 flX7_9 (by decide) (wsh hW rfl) (fun _ => rfl) (wrf hW 27 rfl) ?_
          refine V_iload 21 0 rfl rfl ?_
          refine V_aload_n 22 1 rfl rfl rfl ?_
          refine V_getR 23 0 rfl clX7 flX7_21 (by decide) (wsh hW rfl) (fun _ => rfl) (wrf hW 26 rfl) ?_
          refine V_getR 24 2 rfl clX4 flX7_95 (by decide) (wsh hW rfl) (fun _ => rfl) (wrf hW 21 rfl) ?_
          refine V_pc 53 rfl ?_
          refine V_iload 25 6 rfl rfl ?_
          obtain ⟨hin, h⟩ := h
          refine V_iald 26 rfl (wsh hW rfl) hin ?_
          refine V_callS 27 2 (as := [.int u6, .int (σ7.2.1 14 x6.toNatClampNeg)]) (rest := [.ref 20]) rfl mlX7_85 yvX7_rowOf rfl rfl (by decide) (by decide) (Nat.le_of_ble_eq_true rfl) (by decide) (by decide) (fun B9 => ceX7_rowOf hl B9 hW h) (fun X9 τ9 h9 => VX_out rfl h9) ?_
          rintro v9 σ11 ⟨hW, u12, rfl, h⟩
          refine V_iload 28 4 rfl rfl ?_
          refine V_iadd 29 rfl ?_
          obtain ⟨hin, h⟩ := h
          refine V_iald 30 rfl (wsh hW rfl) hin ?_
          refine V_topi (fun v13 ev13 => ?_)
          replace h := h v13 ev13
          refine V_istore 31 (lv' := [(8, .int v13), (7, .int u6), (0, .ref 19), (1, .int a0), (3, .int a2), (4, .int a3), (5, .int a4), (6, .int x6)]) rfl (by decide) rfl ?_
          refine V_goto 32 (tgt := 92) rfl (by decide) ?_
          refine V_sub [2, 3, 4, 5, 6, 7, 0] (lv' := [(0, .ref 19), (1, .int a0), (3, .int a2), (4, .int a3), (5, .int a4), (6, .int x6), (8, .int v13)]) rfl ?_
          exact k_j92 x6 v13 σ11 hW h
    intro n
    induction n with
    | zero => intro x6  σ hW h; exact absurd h id
    | succ n ih => exact step  _ ih
  intro σ hW h
  refine V_iload_n 0 2 rfl rfl rfl ?_
  refine V_istore 1 (lv' := [(6, .int a1), (0, .ref 19), (1, .int a0), (2, .int a1), (3, .int a2), (4, .int a3), (5, .int a4)]) rfl (by decide) rfl ?_
  refine V_sub [1, 2, 4, 5, 6, 0] (lv' := [(0, .ref 19), (1, .int a0), (3, .int a2), (4, .int a3), (5, .int a4), (6, .int a1)]) rfl ?_
  obtain ⟨n, h⟩ := h
  exact k_l3 n a1 σ hW h

def wX7_isAloneAt (a0 : Int32) (a1 : Int32) (a2 : Int32) (Q : Int32 → ab_S → Prop) (E : String → ab_S → Prop) (σ : ab_S) : Prop := ∃ q1, σ.2.2.2 19 1 = some q1 ∧ isG q1 ∧ (wX0_symbolAt q1 a0 a1 (fun u3 σ2 => ∀ v4 : Int32, v4 = ((a1 * (8 : Int32)) + a2) → ∃ q5, σ2.2.2.2 19 1 = some q5 ∧ isG q5 ∧ (wX0_visitOf q5 u3 a2 (fun u7 σ6 => ((¬ a1 = 0) → wX4_entryOfVisit a0 a1 u7 (fun u9 σ8 => ∃ q10, σ8.2.2.2 19 1 = some q10 ∧ isG q10 ∧ (wX0_isDown q10 u3 a2 (fun u12 σ11 => ((u12 = 0) → wX7_lastNaming a0 v4 (fun u14 σ13 => wX7_isFree a0 (u9 + (1 : Int32)) u14 u3 a2 (fun u16 σ15 => (u16 = 0 ∨ u16 = 1) ∧ Q u16 σ15) E σ13) E σ11) ∧ (¬ (u12 = 0) → wX4_entryOfRule a0 v4 (fun u18 σ17 => wX7_isFree a0 (u18 + (1 : Int32)) u9 u3 a2 (fun u20 σ19 => (u20 = 0 ∨ u20 = 1) ∧ Q u20 σ19) E σ17) E σ11)) E σ8)) E σ6) ∧ (¬ (¬ a1 = 0) → ∃ q21, σ6.2.2.2 19 1 = some q21 ∧ isG q21 ∧ (wX0_isDown q21 u3 a2 (fun u23 σ22 => ((u23 = 0) → wX4_entryOfRule a0 v4 (fun u25 σ24 => wX4_first a0 (u7 + (1 : Int32)) (fun u27 σ26 => wX7_isFree a0 (u25 + (1 : Int32)) u27 u3 a2 (fun u29 σ28 => (u29 = 0 ∨ u29 = 1) ∧ Q u29 σ28) E σ26) E σ24) E σ22) ∧ (¬ (u23 = 0) → wX4_first a0 u7 (fun u31 σ30 => wX7_lastNaming a0 v4 (fun u33 σ32 => wX7_isFree a0 u31 u33 u3 a2 (fun u35 σ34 => (u35 = 0 ∨ u35 = 1) ∧ Q u35 σ34) E σ32) E σ30) E σ22)) E σ6))) E σ2)) E σ)
set_option maxHeartbeats 4000000 in
set_option maxRecDepth 100000 in
theorem ceX7_isAloneAt {l : Launch} (hl : l.stackTraces = false) (B : Nat) {a0 : Int32} {a1 : Int32} {a2 : Int32}  {Q : Int32 → ab_S → Prop} {E : String → ab_S → Prop} {σ : ab_S} (hW : Wire σ) (h : wX7_isAloneAt a0 a1 a2 Q E σ) : ab_Mt l yX7_isAloneAt mdX7_isAloneAt B 3 70 0 0 [.ref 19, .int a0, .int a1, .int a2] σ (fun v σ' => Wire σ' ∧ ∃ r : Int32, v = some (.int r) ∧ Q r σ') (fun X σ' => Wire σ' ∧ E X σ') := by
  refine V_met hl ⟨rfl, rfl, by decide⟩ rfl dkX7_isAloneAt (Nat.le_of_ble_eq_true rfl) ?_
  show V l mdX7_isAloneAt B 3 70 0 0 (ab_End _ _) 0 [(0, .ref 19), (1, .int a0), (2, .int a1), (3, .int a2)] [] σ
  refine V_aload_n 0 0 rfl rfl rfl ?_
  obtain ⟨q1, eq1, hq1, h⟩ := h
  refine V_getR 1 1 rfl clX7 flX7_25 (by decide) (wsh hW rfl) (fun _ => rfl) eq1 ?_
  refine V_iload_n 2 1 rfl rfl rfl ?_
  refine V_iload_n 3 2 rfl rfl rfl ?_
  refine V_callV 4 2 (as := [.int a0, .int a1]) (rest := []) rfl mlX7_54 yvX0_symbolAt rfl rfl clX0 (wG hW hq1) (by decide) (by decide) (Nat.le_of_ble_eq_true rfl) (by decide) (by decide) (fun B9 => ceX0_symbolAt hl B9 hq1 hW h) (fun X9 τ9 h9 => VX_out rfl h9) ?_
  rintro v9 σ2 ⟨hW, u3, rfl, h⟩
  refine V_istore 5 (lv' := [(4, .int u3), (0, .ref 19), (1, .int a0), (2, .int a1), (3, .int a2)]) rfl (by decide) rfl ?_
  refine V_iload_n 6 3 rfl rfl rfl ?_
  refine V_bipush 7 (v := (8 : Int32)) rfl (by decide) ?_
  refine V_imul 8 rfl ?_
  refine V_iload_n 9 4 rfl rfl rfl ?_
  refine V_pc 16 rfl ?_
  refine V_iadd 10 rfl ?_
  refine V_topi (fun v4 ev4 => ?_)
  replace h := h v4 ev4
  refine V_istore 11 (lv' := [(5, .int v4), (4, .int u3), (0, .ref 19), (1, .int a0), (2, .int a1), (3, .int a2)]) rfl (by decide) rfl ?_
  refine V_aload_n 12 2 rfl rfl rfl ?_
  obtain ⟨q5, eq5, hq5, h⟩ := h
  refine V_getR 13 1 rfl clX7 flX7_25 (by decide) (wsh hW rfl) (fun _ => rfl) eq5 ?_
  refine V_iload 14 1 rfl rfl ?_
  refine V_iload_n 15 5 rfl rfl rfl ?_
  refine V_pc 26 rfl ?_
  refine V_callV 16 2 (as := [.int u3, .int a2]) (rest := []) rfl mlX7_112 yvX0_visitOf rfl rfl clX0 (wG hW hq5) (by decide) (by decide) (Nat.le_of_ble_eq_true rfl) (by decide) (by decide) (fun B9 => ceX0_visitOf hl B9 hq5 hW h) (fun X9 τ9 h9 => VX_out rfl h9) ?_
  rintro v9 σ6 ⟨hW, u7, rfl, h⟩
  refine V_istore 17 (lv' := [(6, .int u7), (5, .int v4), (4, .int u3), (0, .ref 19), (1, .int a0), (2, .int a1), (3, .int a2)]) rfl (by decide) rfl ?_
  refine V_iload_n 18 5 rfl rfl rfl ?_
  refine V_if_ne 19 (tgt := 109) rfl (by decide) (fun hc => ?_) (fun hc => ?_)
  · replace h := h.1 hc
    refine V_aload_n 61 3 rfl rfl rfl ?_
    refine V_getR 62 0 rfl clX7 flX7_21 (by decide) (wsh hW rfl) (fun _ => rfl) (wrf hW 26 rfl) ?_
    refine V_iload_n 63 4 rfl rfl rfl ?_
    refine V_iload_n 64 5 rfl rfl rfl ?_
    refine V_iload 65 0 rfl rfl ?_
    refine V_callV 66 3 (as := [.int a0, .int a1, .int u7]) (rest := []) rfl mlX7_115 yvX4_entryOfVisit rfl rfl clX4 (wsh hW rfl) (by decide) (by decide) (Nat.le_of_ble_eq_true rfl) (by decide) (by decide) (fun B9 => ceX4_entryOfVisit hl B9 hW h) (fun X9 τ9 h9 => VX_out rfl h9) ?_
    rintro v9 σ8 ⟨hW, u9, rfl, h⟩
    refine V_istore 67 (lv' := [(7, .int u9), (6, .int u7), (5, .int v4), (4, .int u3), (0, .ref 19), (1, .int a0), (2, .int a1), (3, .int a2)]) rfl (by decide) rfl ?_
    refine V_aload_n 68 4 rfl rfl rfl ?_
    obtain ⟨q10, eq10, hq10, h⟩ := h
    refine V_getR 69 1 rfl clX7 flX7_25 (by decide) (wsh hW rfl) (fun _ => rfl) eq10 ?_
    refine V_iload 70 3 rfl rfl ?_
    refine V_iload_n 71 7 rfl rfl rfl ?_
    refine V_pc 129 rfl ?_
    refine V_callV 72 2 (as := [.int u3, .int a2]) (rest := []) rfl mlX7_118 yvX0_isDown rfl rfl clX0 (wG hW hq10) (by decide) (by decide) (Nat.le_of_ble_eq_true rfl) (by decide) (by decide) (fun B9 => ceX0_isDown hl B9 hq10 hW h) (fun X9 τ9 h9 => VX_out rfl h9) ?_
    rintro v9 σ11 ⟨hW, u12, rfl, h⟩
    refine V_if_eq 73 (tgt := 160) rfl (by decide) (fun hc => ?_) (fun hc => ?_)
    · replace h := h.1 hc
      refine V_aload_n 88 4 rfl rfl rfl ?_
      refine V_iload_n 89 5 rfl rfl rfl ?_
      refine V_iload 90 0 rfl rfl ?_
      refine V_iconst 91 (v := (1 : Int32)) rfl (by decide) ?_
      refine V_iadd 92 rfl ?_
      refine V_aload_n 93 4 rfl rfl rfl ?_
      refine V_pc 167 rfl ?_
      refine V_iload_n 94 5 rfl rfl rfl ?_
      refine V_iload 95 2 rfl rfl ?_
      refine V_callV 96 2 (as := [.int a0, .int v4]) (rest := [.int (u9 + (1 : Int32)), .int a0, .ref 19]) rfl mlX7_130 yvX7_lastNaming rfl rfl clX7 (wsh hW rfl) (by decide) (by decide) (Nat.le_of_ble_eq_true rfl) (by decide) (by decide) (fun B9 => ceX7_lastNaming hl B9 hW h) (fun X9 τ9 h9 => VX_out rfl h9) ?_
      rintro v9 σ13 ⟨hW, u14, rfl, h⟩
      refine V_iload 97 3 rfl rfl ?_
      refine V_iload_n 98 7 rfl rfl rfl ?_
      refine V_callV 99 5 (as := [.int a0, .int (u9 + (1 : Int32)), .int u14, .int u3, .int a2]) (rest := []) rfl mlX7_133 yvX7_isFree rfl rfl clX7 (wsh hW rfl) (by decide) (by decide) (Nat.le_of_ble_eq_true rfl) (by decide) (by decide) (fun B9 => ceX7_isFree hl B9 hW h) (fun X9 τ9 h9 => VX_out rfl h9) ?_
      rintro v9 σ15 ⟨hW, u16, rfl, h⟩
      exact V_zret 100 rfl rfl (nb1 h.1) ⟨hW, _, rfl, h.2⟩
    · replace h := h.2 hc
      refine V_pc 135 rfl ?_
      refine V_aload_n 74 4 rfl rfl rfl ?_
      refine V_iload_n 75 5 rfl rfl rfl ?_
      refine V_aload_n 76 4 rfl rfl rfl ?_
      refine V_getR 77 0 rfl clX7 flX7_21 (by decide) (wsh hW rfl) (fun _ => rfl) (wrf hW 26 rfl) ?_
      refine V_iload_n 78 5 rfl rfl rfl ?_
      refine V_iload 79 2 rfl rfl ?_
      refine V_pc 144 rfl ?_
      refine V_callV 80 2 (as := [.int a0, .int v4]) (rest := [.int a0, .ref 19]) rfl mlX7_124 yvX4_entryOfRule rfl rfl clX4 (wsh hW rfl) (by decide) (by decide) (Nat.le_of_ble_eq_true rfl) (by decide) (by decide) (fun B9 => ceX4_entryOfRule hl B9 hW h) (fun X9 τ9 h9 => VX_out rfl h9) ?_
      rintro v9 σ17 ⟨hW, u18, rfl, h⟩
      refine V_iconst 81 (v := (1 : Int32)) rfl (by decide) ?_
      refine V_iadd 82 rfl ?_
      refine V_iload 83 0 rfl rfl ?_
      refine V_iload 84 3 rfl rfl ?_
      refine V_iload_n 85 7 rfl rfl rfl ?_
      refine V_pc 154 rfl ?_
      refine V_callV 86 5 (as := [.int a0, .int (u18 + (1 : Int32)), .int u9, .int u3, .int a2]) (rest := []) rfl mlX7_133 yvX7_isFree rfl rfl clX7 (wsh hW rfl) (by decide) (by decide) (Nat.le_of_ble_eq_true rfl) (by decide) (by decide) (fun B9 => ceX7_isFree hl B9 hW h) (fun X9 τ9 h9 => VX_out rfl h9) ?_
      rintro v9 σ19 ⟨hW, u20, rfl, h⟩
      refine V_goto 87 (tgt := 179) rfl (by decide) ?_
      exact V_zret 100 rfl rfl (nb1 h.1) ⟨hW, _, rfl, h.2⟩
  · replace h := h.2 hc
    refine V_pc 35 rfl ?_
    refine V_aload_n 20 3 rfl rfl rfl ?_
    obtain ⟨q21, eq21, hq21, h⟩ := h
    refine V_getR 21 1 rfl clX7 flX7_25 (by decide) (wsh hW rfl) (fun _ => rfl) eq21 ?_
    refine V_iload 22 2 rfl rfl ?_
    refine V_iload_n 23 6 rfl rfl rfl ?_
    refine V_callV 24 2 (as := [.int u3, .int a2]) (rest := []) rfl mlX7_118 yvX0_isDown rfl rfl clX0 (wG hW hq21) (by decide) (by decide) (Nat.le_of_ble_eq_true rfl) (by decide) (by decide) (fun B9 => ceX0_isDown hl B9 hq21 hW h) (fun X9 τ9 h9 => VX_out rfl h9) ?_
    rintro v9 σ22 ⟨hW, u23, rfl, h⟩
    refine V_if_eq 25 (tgt := 76) rfl (by decide) (fun hc => ?_) (fun hc => ?_)
    · replace h := h.1 hc
      refine V_aload_n 41 3 rfl rfl rfl ?_
      refine V_iload_n 42 4 rfl rfl rfl ?_
      refine V_aload_n 43 3 rfl rfl rfl ?_
      refine V_getR 44 0 rfl clX7 flX7_21 (by decide) (wsh hW rfl) (fun _ => rfl) (wrf hW 26 rfl) ?_
      refine V_iload_n 45 4 rfl rfl rfl ?_
      refine V_iload 46 1 rfl rfl ?_
      refine V_pc 85 rfl ?_
      refine V_callV 47 2 (as := [.int a0, .int v4]) (rest := [.int a0, .ref 19]) rfl mlX7_124 yvX4_entryOfRule rfl rfl clX4 (wsh hW rfl) (by decide) (by decide) (Nat.le_of_ble_eq_true rfl) (by decide) (by decide) (fun B9 => ceX4_entryOfRule hl B9 hW h) (fun X9 τ9 h9 => VX_out rfl h9) ?_
      rintro v9 σ24 ⟨hW, u25, rfl, h⟩
      refine V_iconst 48 (v := (1 : Int32)) rfl (by decide) ?_
      refine V_iadd 49 rfl ?_
      refine V_aload_n 50 3 rfl rfl rfl ?_
      refine V_getR 51 0 rfl clX7 flX7_21 (by decide) (wsh hW rfl) (fun _ => rfl) (wrf hW 26 rfl) ?_
      refine V_iload_n 52 4 rfl rfl rfl ?_
      refine V_pc 95 rfl ?_
      refine V_iload 53 0 rfl rfl ?_
      refine V_iconst 54 (v := (1 : Int32)) rfl (by decide) ?_
      refine V_iadd 55 rfl ?_
      refine V_callV 56 2 (as := [.int a0, .int (u7 + (1 : Int32))]) (rest := [.int (u25 + (1 : Int32)), .int a0, .ref 19]) rfl mlX7_77 yvX4_first rfl rfl clX4 (wsh hW rfl) (by decide) (by decide) (Nat.le_of_ble_eq_true rfl) (by decide) (by decide) (fun B9 => ceX4_first hl B9 hW h) (fun X9 τ9 h9 => VX_out rfl h9) ?_
      rintro v9 σ26 ⟨hW, u27, rfl, h⟩
      refine V_iload 57 2 rfl rfl ?_
      refine V_iload_n 58 6 rfl rfl rfl ?_
      refine V_callV 59 5 (as := [.int a0, .int (u25 + (1 : Int32)), .int u27, .int u3, .int a2]) (rest := []) rfl mlX7_133 yvX7_isFree rfl rfl clX7 (wsh hW rfl) (by decide) (by decide) (Nat.le_of_ble_eq_true rfl) (by decide) (by decide) (fun B9 => ceX7_isFree hl B9 hW h) (fun X9 τ9 h9 => VX_out rfl h9) ?_
      rintro v9 σ28 ⟨hW, u29, rfl, h⟩
      exact V_zret 60 rfl rfl (nb1 h.1) ⟨hW, _, rfl, h.2⟩
    · replace h := h.2 hc
      refine V_pc 48 rfl ?_
      refine V_aload_n 26 3 rfl rfl rfl ?_
      refine V_iload_n 27 4 rfl rfl rfl ?_
      refine V_aload_n 28 3 rfl rfl rfl ?_
      refine V_getR 29 0 rfl clX7 flX7_21 (by decide) (wsh hW rfl) (fun _ => rfl) (wrf hW 26 rfl) ?_
      refine V_iload_n 30 4 rfl rfl rfl ?_
      refine V_iload 31 0 rfl rfl ?_
      refine V_pc 57 rfl ?_
      refine V_callV 32 2 (as := [.int a0, .int u7]) (rest := [.int a0, .ref 19]) rfl mlX7_77 yvX4_first rfl rfl clX4 (wsh hW rfl) (by decide) (by decide) (Nat.le_of_ble_eq_true rfl) (by decide) (by decide) (fun B9 => ceX4_first hl B9 hW h) (fun X9 τ9 h9 => VX_out rfl h9) ?_
      rintro v9 σ30 ⟨hW, u31, rfl, h⟩
      refine V_aload_n 33 3 rfl rfl rfl ?_
      refine V_iload_n 34 4 rfl rfl rfl ?_
      refine V_iload 35 1 rfl rfl ?_
      refine V_callV 36 2 (as := [.int a0, .int v4]) (rest := [.int u31, .int a0, .ref 19]) rfl mlX7_130 yvX7_lastNaming rfl rfl clX7 (wsh hW rfl) (by decide) (by decide) (Nat.le_of_ble_eq_true rfl) (by decide) (by decide) (fun B9 => ceX7_lastNaming hl B9 hW h) (fun X9 τ9 h9 => VX_out rfl h9) ?_
      rintro v9 σ32 ⟨hW, u33, rfl, h⟩
      refine V_iload 37 2 rfl rfl ?_
      refine V_iload_n 38 6 rfl rfl rfl ?_
      refine V_callV 39 5 (as := [.int a0, .int u31, .int u33, .int u3, .int a2]) (rest := []) rfl mlX7_133 yvX7_isFree rfl rfl clX7 (wsh hW rfl) (by decide) (by decide) (Nat.le_of_ble_eq_true rfl) (by decide) (by decide) (fun B9 => ceX7_isFree hl B9 hW h) (fun X9 τ9 h9 => VX_out rfl h9) ?_
      rintro v9 σ34 ⟨hW, u35, rfl, h⟩
      refine V_goto 40 (tgt := 108) rfl (by decide) ?_
      exact V_zret 60 rfl rfl (nb1 h.1) ⟨hW, _, rfl, h.2⟩

def wX7_kindOf_j132 (a0 : Int32) (a1 : Int32) (Q : Int32 → ab_S → Prop) (E : String → ab_S → Prop) (Bk : Int32 → ab_S → Prop) (x3 : Int32) (σ : ab_S) : Prop := ∀ v1 : Int32, v1 = (x3 + 1) → Bk v1 σ
def wX7_kindOf_j126 (a0 : Int32) (a1 : Int32) (Q : Int32 → ab_S → Prop) (E : String → ab_S → Prop) (K132 : Int32 → ab_S → Prop) (Bk : Int32 → Int32 → ab_S → Prop) (x3 : Int32) (x4 : Int32) (σ : ab_S) : Prop := ∀ v2 : Int32, v2 = (x4 + 1) → Bk x3 v2 σ
def wX7_kindOf_l85_b (a0 : Int32) (a1 : Int32) (Q : Int32 → ab_S → Prop) (E : String → ab_S → Prop) (K132 : Int32 → ab_S → Prop) (Bk : Int32 → Int32 → ab_S → Prop) (x3 : Int32) (x4 : Int32) (σ : ab_S) : Prop := ∃ q3, σ.2.2.2 19 1 = some q3 ∧ isG q3 ∧ (vp_in x3 30 ∧ ((((σ.2.1 (q3 + 6) x3.toNatClampNeg) < x4) → K132 x3 σ) ∧ (¬ ((σ.2.1 (q3 + 6) x3.toNatClampNeg) < x4) → ∃ q4, σ.2.2.2 19 1 = some q4 ∧ isG q4 ∧ (wX0_symbolAt q4 x3 x4 (fun u6 σ5 => ((¬ u6 = a0) → wX7_kindOf_j126 a0 a1 Q E K132 Bk x3 x4 σ5) ∧ (¬ (¬ u6 = a0) → wX7_isAloneAt x3 x4 a1 (fun u8 σ7 => ((¬ u8 = 0) → wX7_kindOf_j126 a0 a1 Q E K132 Bk x3 x4 σ7) ∧ (¬ (¬ u8 = 0) → Q (1 : Int32) σ7)) E σ5)) E σ))))
def wX7_kindOf_l85 (a0 : Int32) (a1 : Int32) (Q : Int32 → ab_S → Prop) (E : String → ab_S → Prop) (K132 : Int32 → ab_S → Prop) : Nat → Int32 → Int32 → ab_S → Prop
  | 0, _, _, _ => False
  | n + 1, x3, x4, σ => wX7_kindOf_l85_b a0 a1 Q E K132 (wX7_kindOf_l85 a0 a1 Q E K132 n) x3 x4 σ
def wX7_kindOf_l71_b (a0 : Int32) (a1 : Int32) (Q : Int32 → ab_S → Prop) (E : String → ab_S → Prop) (Bk : Int32 → ab_S → Prop) (x3 : Int32) (σ : ab_S) : Prop := ∃ q9, σ.2.2.2 19 1 = some q9 ∧ isG q9 ∧ ((((σ.2.1 q9 5) ≤ x3) → Q (0 : Int32) σ) ∧ (¬ ((σ.2.1 q9 5) ≤ x3) → ∃ n, wX7_kindOf_l85 a0 a1 Q E (wX7_kindOf_j132 a0 a1 Q E Bk) n x3 (0 : Int32) σ))
def wX7_kindOf_l71 (a0 : Int32) (a1 : Int32) (Q : Int32 → ab_S → Prop) (E : String → ab_S → Prop) : Nat → Int32 → ab_S → Prop
  | 0, _, _ => False
  | n + 1, x3, σ => wX7_kindOf_l71_b a0 a1 Q E (wX7_kindOf_l71 a0 a1 Q E n) x3 σ
def wX7_kindOf_j69 (a0 : Int32) (a1 : Int32) (Q : Int32 → ab_S → Prop) (E : String → ab_S → Prop)  (σ : ab_S) : Prop := ∃ n, wX7_kindOf_l71 a0 a1 Q E n (0 : Int32) σ
def wX7_kindOf_j63 (a0 : Int32) (a1 : Int32) (Q : Int32 → ab_S → Prop) (E : String → ab_S → Prop) (K69 : ab_S → Prop) (Bk : Int32 → ab_S → Prop) (x3 : Int32) (σ : ab_S) : Prop := ∀ v10 : Int32, v10 = (x3 + 1) → Bk v10 σ
def wX7_kindOf_j57 (a0 : Int32) (a1 : Int32) (Q : Int32 → ab_S → Prop) (E : String → ab_S → Prop) (K63 : Int32 → ab_S → Prop) (Bk : Int32 → Int32 → ab_S → Prop) (x3 : Int32) (x4 : Int32) (σ : ab_S) : Prop := ∀ v11 : Int32, v11 = (x4 + 1) → Bk x3 v11 σ
def wX7_kindOf_l16_b (a0 : Int32) (a1 : Int32) (Q : Int32 → ab_S → Prop) (E : String → ab_S → Prop) (K63 : Int32 → ab_S → Prop) (Bk : Int32 → Int32 → ab_S → Prop) (x3 : Int32) (x4 : Int32) (σ : ab_S) : Prop := ∃ q12, σ.2.2.2 19 1 = some q12 ∧ isG q12 ∧ (vp_in x3 30 ∧ ((((σ.2.1 (q12 + 6) x3.toNatClampNeg) < x4) → K63 x3 σ) ∧ (¬ ((σ.2.1 (q12 + 6) x3.toNatClampNeg) < x4) → ∃ q13, σ.2.2.2 19 1 = some q13 ∧ isG q13 ∧ (wX0_symbolAt q13 x3 x4 (fun u15 σ14 => ((¬ u15 = a0) → wX7_kindOf_j57 a0 a1 Q E K63 Bk x3 x4 σ14) ∧ (¬ (¬ u15 = a0) → wX7_isShortAt x3 x4 a1 (fun u17 σ16 => ((¬ u17 = 0) → wX7_kindOf_j57 a0 a1 Q E K63 Bk x3 x4 σ16) ∧ (¬ (¬ u17 = 0) → Q (2 : Int32) σ16)) E σ14)) E σ))))
def wX7_kindOf_l16 (a0 : Int32) (a1 : Int32) (Q : Int32 → ab_S → Prop) (E : String → ab_S → Prop) (K63 : Int32 → ab_S → Prop) : Nat → Int32 → Int32 → ab_S → Prop
  | 0, _, _, _ => False
  | n + 1, x3, x4, σ => wX7_kindOf_l16_b a0 a1 Q E K63 (wX7_kindOf_l16 a0 a1 Q E K63 n) x3 x4 σ
def wX7_kindOf_l2_b (a0 : Int32) (a1 : Int32) (Q : Int32 → ab_S → Prop) (E : String → ab_S → Prop) (K69 : ab_S → Prop) (Bk : Int32 → ab_S → Prop) (x3 : Int32) (σ : ab_S) : Prop := ∃ q18, σ.2.2.2 19 1 = some q18 ∧ isG q18 ∧ ((((σ.2.1 q18 5) ≤ x3) → K69 σ) ∧ (¬ ((σ.2.1 q18 5) ≤ x3) → ∃ n, wX7_kindOf_l16 a0 a1 Q E (wX7_kindOf_j63 a0 a1 Q E K69 Bk) n x3 (0 : Int32) σ))
def wX7_kindOf_l2 (a0 : Int32) (a1 : Int32) (Q : Int32 → ab_S → Prop) (E : String → ab_S → Prop) (K69 : ab_S → Prop) : Nat → Int32 → ab_S → Prop
  | 0, _, _ => False
  | n + 1, x3, σ => wX7_kindOf_l2_b a0 a1 Q E K69 (wX7_kindOf_l2 a0 a1 Q E K69 n) x3 σ
def wX7_kindOf (a0 : Int32) (a1 : Int32) (Q : Int32 → ab_S → Prop) (E : String → ab_S → Prop) (σ : ab_S) : Prop := ∃ n, wX7_kindOf_l2 a0 a1 Q E (wX7_kindOf_j69 a0 a1 Q E) n (0 : Int32) σ
set_option maxHeartbeats 4000000 in
set_option maxRecDepth 100000 in
theorem ceX7_kindOf {l : Launch} (hl : l.stackTraces = false) (B : Nat) {a0 : Int32} {a1 : Int32}  {Q : Int32 → ab_S → Prop} {E : String → ab_S → Prop} {σ : ab_S} (hW : Wire σ) (h : wX7_kindOf a0 a1 Q E σ) : ab_Mt l yX7_kindOf mdX7_kindOf B 4 97 0 0 [.ref 19, .int a0, .int a1] σ (fun v σ' => Wire σ' ∧ ∃ r : Int32, v = some (.int r) ∧ Q r σ') (fun X σ' => Wire σ' ∧ E X σ') := by
  refine V_met hl ⟨rfl, rfl, by decide⟩ rfl dkX7_kindOf (Nat.le_of_ble_eq_true rfl) ?_
  show V l mdX7_kindOf B 4 97 0 0 (ab_End _ _) 0 [(0, .ref 19), (1, .int a0), (2, .int a1)] [] σ
  revert h hW
  revert σ
  have k_l71 : ∀ (n : Nat) (x3 : Int32)  (σ : ab_S), Wire σ → wX7_kindOf_l71 a0 a1 Q E n x3 σ → V l mdX7_kindOf B 4 97 0 0 (ab_End (fun v σ' => Wire σ' ∧ ∃ r : Int32, v = some (.int r) ∧ Q r σ') (fun X σ' => Wire σ' ∧ E X σ')) 71 [(0, .ref 19), (1, .int a0), (2, .int a1), (3, .int x3)] [] σ := by
    have step : ∀ (Bk : Int32 → ab_S → Prop) (k_Bk : ∀ (x3 : Int32)  (σ : ab_S), Wire σ → Bk x3 σ → V l mdX7_kindOf B 4 97 0 0 (ab_End (fun v σ' => Wire σ' ∧ ∃ r : Int32, v = some (.int r) ∧ Q r σ') (fun X σ' => Wire σ' ∧ E X σ')) 71 [(0, .ref 19), (1, .int a0), (2, .int a1), (3, .int x3)] [] σ), ∀ (x3 : Int32)  (σ : ab_S), Wire σ → wX7_kindOf_l71_b a0 a1 Q E Bk x3 σ → V l mdX7_kindOf B 4 97 0 0 (ab_End (fun v σ' => Wire σ' ∧ ∃ r : Int32, v = some (.int r) ∧ Q r σ') (fun X σ' => Wire σ' ∧ E X σ')) 71 [(0, .ref 19), (1, .int a0), (2, .int a1), (3, .int x3)] [] σ := by
      intro Bk k_Bk
      have k_j132 : ∀ (x3 : Int32)  (σ : ab_S), Wire σ → wX7_kindOf_j132 a0 a1 Q E Bk x3 σ → V l mdX7_kindOf B 4 97 0 0 (ab_End (fun v σ' => Wire σ' ∧ ∃ r : Int32, v = some (.int r) ∧ Q r σ') (fun X σ' => Wire σ' ∧ E X σ')) 132 [(0, .ref 19), (1, .int a0), (2, .int a1), (3, .int x3)] [] σ := by
        intro x3  σ hW h
        obtain ⟨v1, ev1⟩ : ∃ z : Int32, z = (x3 + 1) := ⟨_, rfl⟩
        replace h := h v1 ev1
        refine V_iinc 68 3 (v := v1) (lv' := [(3, .int v1), (0, .ref 19), (1, .int a0), (2, .int a1)]) rfl rfl ((in_1 _).trans ev1.symm) (by decide) rfl ?_
        refine V_goto 69 (tgt := 71) rfl (by decide) ?_
        refine V_sub [1, 2, 3, 0] (lv' := [(0, .ref 19), (1, .int a0), (2, .int a1), (3, .int v1)]) rfl ?_
        exact k_Bk v1  σ hW h
      have k_l85 : ∀ (n : Nat) (x3 : Int32) (x4 : Int32)  (σ : ab_S), Wire σ → wX7_kindOf_l85 a0 a1 Q E (wX7_kindOf_j132 a0 a1 Q E Bk) n x3 x4 σ → V l mdX7_kindOf B 4 97 0 0 (ab_End (fun v σ' => Wire σ' ∧ ∃ r : Int32, v = some (.int r) ∧ Q r σ') (fun X σ' => Wire σ' ∧ E X σ')) 85 [(0, .ref 19), (1, .int a0), (2, .int a1), (3, .int x3), (4, .int x4)] [] σ := by
        have step : ∀ (K132 : Int32 → ab_S → Prop) (k_K132 : ∀ (x3 : Int32)  (σ : ab_S), Wire σ → K132 x3 σ → V l mdX7_kindOf B 4 97 0 0 (ab_End (fun v σ' => Wire σ' ∧ ∃ r : Int32, v = some (.int r) ∧ Q r σ') (fun X σ' => Wire σ' ∧ E X σ')) 132 [(0, .ref 19), (1, .int a0), (2, .int a1), (3, .int x3)] [] σ), ∀ (Bk : Int32 → Int32 → ab_S → Prop) (k_Bk : ∀ (x3 : Int32) (x4 : Int32)  (σ : ab_S), Wire σ → Bk x3 x4 σ → V l mdX7_kindOf B 4 97 0 0 (ab_End (fun v σ' => Wire σ' ∧ ∃ r : Int32, v = some (.int r) ∧ Q r σ') (fun X σ' => Wire σ' ∧ E X σ')) 85 [(0, .ref 19), (1, .int a0), (2, .int a1), (3, .int x3), (4, .int x4)] [] σ), ∀ (x3 : Int32) (x4 : Int32)  (σ : ab_S), Wire σ → wX7_kindOf_l85_b a0 a1 Q E K132 Bk x3 x4 σ → V l mdX7_kindOf B 4 97 0 0 (ab_End (fun v σ' => Wire σ' ∧ ∃ r : Int32, v = some (.int r) ∧ Q r σ') (fun X σ' => Wire σ' ∧ E X σ')) 85 [(0, .ref 19), (1, .int a0), (2, .int a1), (3, .int x3), (4, .int x4)] [] σ := by
          intro K132 k_K132 Bk k_Bk
          have k_j126 : ∀ (x3 : Int32) (x4 : Int32)  (σ : ab_S), Wire σ → wX7_kindOf_j126 a0 a1 Q E K132 Bk x3 x4 σ → V l mdX7_kindOf B 4 97 0 0 (ab_End (fun v σ' => Wire σ' ∧ ∃ r : Int32, v = some (.int r) ∧ Q r σ') (fun X σ' => Wire σ' ∧ E X σ')) 126 [(0, .ref 19), (1, .int a0), (2, .int a1), (3, .int x3), (4, .int x4)] [] σ := by
            intro x3 x4  σ hW h
            obtain ⟨v2, ev2⟩ : ∃ z : Int32, z = (x4 + 1) := ⟨_, rfl⟩
            replace h := h v2 ev2
            refine V_iinc 66 4 (v := v2) (lv' := [(4, .int v2), (0, .ref 19), (1, .int a0), (2, .int a1), (3, .int x3)]) rfl rfl ((in_1 _).trans ev2.symm) (by decide) rfl ?_
            refine V_goto 67 (tgt := 85) rfl (by decide) ?_
            refine V_sub [1, 2, 3, 4, 0] (lv' := [(0, .ref 19), (1, .int a0), (2, .int a1), (3, .int x3), (4, .int v2)]) rfl ?_
            exact k_Bk x3 v2  σ hW h
          intro x3 x4  σ hW h
          refine V_iload 44 4 rfl rfl ?_
          refine V_aload_n 45 0 rfl rfl rfl ?_
          obtain ⟨q3, eq3, hq3, h⟩ := h
          refine V_getR 46 1 rfl clX7 flX7_25 (by decide) (wsh hW rfl) (fun _ => rfl) eq3 ?_
          refine V_getR 47 7 rfl clX0 flX7_48 (by decide) (wG hW hq3) (fun _ => rfl) (wG_f7 hW hq3) ?_
          refine V_iload_n 48 3 rfl rfl rfl ?_
          obtain ⟨hin, h⟩ := h
          refine V_iald 49 rfl (wG_a6 hW hq3) hin ?_
          refine V_pc 96 rfl ?_
          refine V_icmp_gt 50 (tgt := 132) rfl (by decide) (fun hc => ?_) (fun hc => ?_)
          · replace h := h.1 hc
            refine V_sub [0, 1, 2, 3] (lv' := [(0, .ref 19), (1, .int a0), (2, .int a1), (3, .int x3)]) rfl ?_
            exact k_K132 x3  σ hW h
          · replace h := h.2 hc
            refine V_pc 99 rfl ?_
            refine V_aload_n 51 0 rfl rfl rfl ?_
            obtain ⟨q4, eq4, hq4, h⟩ := h
            refine V_getR 52 1 rfl clX7 flX7_25 (by decide) (wsh hW rfl) (fun _ => rfl) eq4 ?_
            refine V_iload_n 53 3 rfl rfl rfl ?_
            refine V_iload 54 4 rfl rfl ?_
            refine V_callV 55 2 (as := [.int x3, .int x4]) (rest := []) rfl mlX7_54 yvX0_symbolAt rfl rfl clX0 (wG hW hq4) (by decide) (by decide) (Nat.le_of_ble_eq_true rfl) (by decide) (by decide) (fun B9 => ceX0_symbolAt hl B9 hq4 hW h) (fun X9 τ9 h9 => VX_out rfl h9) ?_
            rintro v9 σ5 ⟨hW, u6, rfl, h⟩
            refine V_iload_n 56 1 rfl rfl rfl ?_
            refine V_icmp_ne 57 (tgt := 126) rfl (by decide) (fun hc => ?_) (fun hc => ?_)
            · replace h := h.1 hc
              exact k_j126 x3 x4 σ5 hW h
            · replace h := h.2 hc
              refine V_pc 113 rfl ?_
              refine V_aload_n 58 0 rfl rfl rfl ?_
              refine V_iload_n 59 3 rfl rfl rfl ?_
              refine V_iload 60 4 rfl rfl ?_
              refine V_iload_n 61 2 rfl rfl rfl ?_
              refine V_callV 62 3 (as := [.int x3, .int x4, .int a1]) (rest := []) rfl mlX7_109 yvX7_isAloneAt rfl rfl clX7 (wsh hW rfl) (by decide) (by decide) (Nat.le_of_ble_eq_true rfl) (by decide) (by decide) (fun B9 => ceX7_isAloneAt hl B9 hW h) (fun X9 τ9 h9 => VX_out rfl h9) ?_
              rintro v9 σ7 ⟨hW, u8, rfl, h⟩
              refine V_if_ne 63 (tgt := 126) rfl (by decide) (fun hc => ?_) (fun hc => ?_)
              · replace h := h.1 hc
                exact k_j126 x3 x4 σ7 hW h
              · replace h := h.2 hc
                refine V_pc 124 rfl ?_
                refine V_iconst 64 (v := (1 : Int32)) rfl (by decide) ?_
                exact V_iret 65 rfl rfl ⟨hW, _, rfl, h⟩
        intro n
        induction n with
        | zero => intro x3 x4  σ hW h; exact absurd h id
        | succ n ih => exact step _ k_j132 _ ih
      intro x3  σ hW h
      refine V_iload_n 37 3 rfl rfl rfl ?_
      refine V_aload_n 38 0 rfl rfl rfl ?_
      obtain ⟨q9, eq9, hq9, h⟩ := h
      refine V_getR 39 1 rfl clX7 flX7_25 (by decide) (wsh hW rfl) (fun _ => rfl) eq9 ?_
      refine V_get (v := .int (σ.2.1 q9 5)) 40 5 rfl clX0 flX7_67 (by decide) (wG hW hq9) (fun _ => rfl) ?_
      refine V_icmp_ge 41 (tgt := 138) rfl (by decide) (fun hc => ?_) (fun hc => ?_)
      · replace h := h.1 hc
        refine V_iconst 70 (v := (0 : Int32)) rfl (by decide) ?_
        exact V_iret 71 rfl rfl ⟨hW, _, rfl, h⟩
      · replace h := h.2 hc
        refine V_pc 82 rfl ?_
        refine V_iconst 42 (v := (0 : Int32)) rfl (by decide) ?_
        refine V_istore 43 (lv' := [(4, .int (0 : Int32)), (0, .ref 19), (1, .int a0), (2, .int a1), (3, .int x3)]) rfl (by decide) rfl ?_
        refine V_sub [1, 2, 3, 4, 0] (lv' := [(0, .ref 19), (1, .int a0), (2, .int a1), (3, .int x3), (4, .int (0 : Int32))]) rfl ?_
        obtain ⟨n, h⟩ := h
        exact k_l85 n x3 (0 : Int32) σ hW h
    intro n
    induction n with
    | zero => intro x3  σ hW h; exact absurd h id
    | succ n ih => exact step  _ ih
  have k_j69 : ∀   (σ : ab_S), Wire σ → wX7_kindOf_j69 a0 a1 Q E  σ → V l mdX7_kindOf B 4 97 0 0 (ab_End (fun v σ' => Wire σ' ∧ ∃ r : Int32, v = some (.int r) ∧ Q r σ') (fun X σ' => Wire σ' ∧ E X σ')) 69 [(0, .ref 19), (1, .int a0), (2, .int a1)] [] σ := by
    intro   σ hW h
    refine V_iconst 35 (v := (0 : Int32)) rfl (by decide) ?_
    refine V_istore_n 36 (lv' := [(3, .int (0 : Int32)), (0, .ref 19), (1, .int a0), (2, .int a1)]) rfl rfl (by decide) rfl ?_
    refine V_sub [1, 2, 3, 0] (lv' := [(0, .ref 19), (1, .int a0), (2, .int a1), (3, .int (0 : Int32))]) rfl ?_
    obtain ⟨n, h⟩ := h
    exact k_l71 n (0 : Int32) σ hW h
  have k_l2 : ∀ (n : Nat) (x3 : Int32)  (σ : ab_S), Wire σ → wX7_kindOf_l2 a0 a1 Q E (wX7_kindOf_j69 a0 a1 Q E) n x3 σ → V l mdX7_kindOf B 4 97 0 0 (ab_End (fun v σ' => Wire σ' ∧ ∃ r : Int32, v = some (.int r) ∧ Q r σ') (fun X σ' => Wire σ' ∧ E X σ')) 2 [(0, .ref 19), (1, .int a0), (2, .int a1), (3, .int x3)] [] σ := by
    have step : ∀ (K69 : ab_S → Prop) (k_K69 : ∀   (σ : ab_S), Wire σ → K69  σ → V l mdX7_kindOf B 4 97 0 0 (ab_End (fun v σ' => Wire σ' ∧ ∃ r : Int32, v = some (.int r) ∧ Q r σ') (fun X σ' => Wire σ' ∧ E X σ')) 69 [(0, .ref 19), (1, .int a0), (2, .int a1)] [] σ), ∀ (Bk : Int32 → ab_S → Prop) (k_Bk : ∀ (x3 : Int32)  (σ : ab_S), Wire σ → Bk x3 σ → V l mdX7_kindOf B 4 97 0 0 (ab_End (fun v σ' => Wire σ' ∧ ∃ r : Int32, v = some (.int r) ∧ Q r σ') (fun X σ' => Wire σ' ∧ E X σ')) 2 [(0, .ref 19), (1, .int a0), (2, .int a1), (3, .int x3)] [] σ), ∀ (x3 : Int32)  (σ : ab_S), Wire σ → wX7_kindOf_l2_b a0 a1 Q E K69 Bk x3 σ → V l mdX7_kindOf B 4 97 0 0 (ab_End (fun v σ' => Wire σ' ∧ ∃ r : Int32, v = some (.int r) ∧ Q r σ') (fun X σ' => Wire σ' ∧ E X σ')) 2 [(0, .ref 19), (1, .int a0), (2, .int a1), (3, .int x3)] [] σ := by
      intro K69 k_K69 Bk k_Bk
      have k_j63 : ∀ (x3 : Int32)  (σ : ab_S), Wire σ → wX7_kindOf_j63 a0 a1 Q E K69 Bk x3 σ → V l mdX7_kindOf B 4 97 0 0 (ab_End (fun v σ' => Wire σ' ∧ ∃ r : Int32, v = some (.int r) ∧ Q r σ') (fun X σ' => Wire σ' ∧ E X σ')) 63 [(0, .ref 19), (1, .int a0), (2, .int a1), (3, .int x3)] [] σ := by
        intro x3  σ hW h
        obtain ⟨v10, ev10⟩ : ∃ z : Int32, z = (x3 + 1) := ⟨_, rfl⟩
        replace h := h v10 ev10
        refine V_iinc 33 3 (v := v10) (lv' := [(3, .int v10), (0, .ref 19), (1, .int a0), (2, .int a1)]) rfl rfl ((in_1 _).trans ev10.symm) (by decide) rfl ?_
        refine V_goto 34 (tgt := 2) rfl (by decide) ?_
        refine V_sub [1, 2, 3, 0] (lv' := [(0, .ref 19), (1, .int a0), (2, .int a1), (3, .int v10)]) rfl ?_
        exact k_Bk v10  σ hW h
      have k_l16 : ∀ (n : Nat) (x3 : Int32) (x4 : Int32)  (σ : ab_S), Wire σ → wX7_kindOf_l16 a0 a1 Q E (wX7_kindOf_j63 a0 a1 Q E K69 Bk) n x3 x4 σ → V l mdX7_kindOf B 4 97 0 0 (ab_End (fun v σ' => Wire σ' ∧ ∃ r : Int32, v = some (.int r) ∧ Q r σ') (fun X σ' => Wire σ' ∧ E X σ')) 16 [(0, .ref 19), (1, .int a0), (2, .int a1), (3, .int x3), (4, .int x4)] [] σ := by
        have step : ∀ (K63 : Int32 → ab_S → Prop) (k_K63 : ∀ (x3 : Int32)  (σ : ab_S), Wire σ → K63 x3 σ → V l mdX7_kindOf B 4 97 0 0 (ab_End (fun v σ' => Wire σ' ∧ ∃ r : Int32, v = some (.int r) ∧ Q r σ') (fun X σ' => Wire σ' ∧ E X σ')) 63 [(0, .ref 19), (1, .int a0), (2, .int a1), (3, .int x3)] [] σ), ∀ (Bk : Int32 → Int32 → ab_S → Prop) (k_Bk : ∀ (x3 : Int32) (x4 : Int32)  (σ : ab_S), Wire σ → Bk x3 x4 σ → V l mdX7_kindOf B 4 97 0 0 (ab_End (fun v σ' => Wire σ' ∧ ∃ r : Int32, v = some (.int r) ∧ Q r σ') (fun X σ' => Wire σ' ∧ E X σ')) 16 [(0, .ref 19), (1, .int a0), (2, .int a1), (3, .int x3), (4, .int x4)] [] σ), ∀ (x3 : Int32) (x4 : Int32)  (σ : ab_S), Wire σ → wX7_kindOf_l16_b a0 a1 Q E K63 Bk x3 x4 σ → V l mdX7_kindOf B 4 97 0 0 (ab_End (fun v σ' => Wire σ' ∧ ∃ r : Int32, v = some (.int r) ∧ Q r σ') (fun X σ' => Wire σ' ∧ E X σ')) 16 [(0, .ref 19), (1, .int a0), (2, .int a1), (3, .int x3), (4, .int x4)] [] σ := by
          intro K63 k_K63 Bk k_Bk
          have k_j57 : ∀ (x3 : Int32) (x4 : Int32)  (σ : ab_S), Wire σ → wX7_kindOf_j57 a0 a1 Q E K63 Bk x3 x4 σ → V l mdX7_kindOf B 4 97 0 0 (ab_End (fun v σ' => Wire σ' ∧ ∃ r : Int32, v = some (.int r) ∧ Q r σ') (fun X σ' => Wire σ' ∧ E X σ')) 57 [(0, .ref 19), (1, .int a0), (2, .int a1), (3, .int x3), (4, .int x4)] [] σ := by
            intro x3 x4  σ hW h
            obtain ⟨v11, ev11⟩ : ∃ z : Int32, z = (x4 + 1) := ⟨_, rfl⟩
            replace h := h v11 ev11
            refine V_iinc 31 4 (v := v11) (lv' := [(4, .int v11), (0, .ref 19), (1, .int a0), (2, .int a1), (3, .int x3)]) rfl rfl ((in_1 _).trans ev11.symm) (by decide) rfl ?_
            refine V_goto 32 (tgt := 16) rfl (by decide) ?_
            refine V_sub [1, 2, 3, 4, 0] (lv' := [(0, .ref 19), (1, .int a0), (2, .int a1), (3, .int x3), (4, .int v11)]) rfl ?_
            exact k_Bk x3 v11  σ hW h
          intro x3 x4  σ hW h
          refine V_iload 9 4 rfl rfl ?_
          refine V_aload_n 10 0 rfl rfl rfl ?_
          obtain ⟨q12, eq12, hq12, h⟩ := h
          refine V_getR 11 1 rfl clX7 flX7_25 (by decide) (wsh hW rfl) (fun _ => rfl) eq12 ?_
          refine V_getR 12 7 rfl clX0 flX7_48 (by decide) (wG hW hq12) (fun _ => rfl) (wG_f7 hW hq12) ?_
          refine V_iload_n 13 3 rfl rfl rfl ?_
          obtain ⟨hin, h⟩ := h
          refine V_iald 14 rfl (wG_a6 hW hq12) hin ?_
          refine V_pc 27 rfl ?_
          refine V_icmp_gt 15 (tgt := 63) rfl (by decide) (fun hc => ?_) (fun hc => ?_)
          · replace h := h.1 hc
            refine V_sub [0, 1, 2, 3] (lv' := [(0, .ref 19), (1, .int a0), (2, .int a1), (3, .int x3)]) rfl ?_
            exact k_K63 x3  σ hW h
          · replace h := h.2 hc
            refine V_pc 30 rfl ?_
            refine V_aload_n 16 0 rfl rfl rfl ?_
            obtain ⟨q13, eq13, hq13, h⟩ := h
            refine V_getR 17 1 rfl clX7 flX7_25 (by decide) (wsh hW rfl) (fun _ => rfl) eq13 ?_
            refine V_iload_n 18 3 rfl rfl rfl ?_
            refine V_iload 19 4 rfl rfl ?_
            refine V_callV 20 2 (as := [.int x3, .int x4]) (rest := []) rfl mlX7_54 yvX0_symbolAt rfl rfl clX0 (wG hW hq13) (by decide) (by decide) (Nat.le_of_ble_eq_true rfl) (by decide) (by decide) (fun B9 => ceX0_symbolAt hl B9 hq13 hW h) (fun X9 τ9 h9 => VX_out rfl h9) ?_
            rintro v9 σ14 ⟨hW, u15, rfl, h⟩
            refine V_iload_n 21 1 rfl rfl rfl ?_
            refine V_icmp_ne 22 (tgt := 57) rfl (by decide) (fun hc => ?_) (fun hc => ?_)
            · replace h := h.1 hc
              exact k_j57 x3 x4 σ14 hW h
            · replace h := h.2 hc
              refine V_pc 44 rfl ?_
              refine V_aload_n 23 0 rfl rfl rfl ?_
              refine V_iload_n 24 3 rfl rfl rfl ?_
              refine V_iload 25 4 rfl rfl ?_
              refine V_iload_n 26 2 rfl rfl rfl ?_
              refine V_callV 27 3 (as := [.int x3, .int x4, .int a1]) (rest := []) rfl mlX7_105 yvX7_isShortAt rfl rfl clX7 (wsh hW rfl) (by decide) (by decide) (Nat.le_of_ble_eq_true rfl) (by decide) (by decide) (fun B9 => ceX7_isShortAt hl B9 hW h) (fun X9 τ9 h9 => VX_out rfl h9) ?_
              rintro v9 σ16 ⟨hW, u17, rfl, h⟩
              refine V_if_ne 28 (tgt := 57) rfl (by decide) (fun hc => ?_) (fun hc => ?_)
              · replace h := h.1 hc
                exact k_j57 x3 x4 σ16 hW h
              · replace h := h.2 hc
                refine V_pc 55 rfl ?_
                refine V_iconst 29 (v := (2 : Int32)) rfl (by decide) ?_
                exact V_iret 30 rfl rfl ⟨hW, _, rfl, h⟩
        intro n
        induction n with
        | zero => intro x3 x4  σ hW h; exact absurd h id
        | succ n ih => exact step _ k_j63 _ ih
      intro x3  σ hW h
      refine V_iload_n 2 3 rfl rfl rfl ?_
      refine V_aload_n 3 0 rfl rfl rfl ?_
      obtain ⟨q18, eq18, hq18, h⟩ := h
      refine V_getR 4 1 rfl clX7 flX7_25 (by decide) (wsh hW rfl) (fun _ => rfl) eq18 ?_
      refine V_get (v := .int (σ.2.1 q18 5)) 5 5 rfl clX0 flX7_67 (by decide) (wG hW hq18) (fun _ => rfl) ?_
      refine V_icmp_ge 6 (tgt := 69) rfl (by decide) (fun hc => ?_) (fun hc => ?_)
      · replace h := h.1 hc
        refine V_sub [0, 1, 2] (lv' := [(0, .ref 19), (1, .int a0), (2, .int a1)]) rfl ?_
        exact k_K69  σ hW h
      · replace h := h.2 hc
        refine V_pc 13 rfl ?_
        refine V_iconst 7 (v := (0 : Int32)) rfl (by decide) ?_
        refine V_istore 8 (lv' := [(4, .int (0 : Int32)), (0, .ref 19), (1, .int a0), (2, .int a1), (3, .int x3)]) rfl (by decide) rfl ?_
        refine V_sub [1, 2, 3, 4, 0] (lv' := [(0, .ref 19), (1, .int a0), (2, .int a1), (3, .int x3), (4, .int (0 : Int32))]) rfl ?_
        obtain ⟨n, h⟩ := h
        exact k_l16 n x3 (0 : Int32) σ hW h
    intro n
    induction n with
    | zero => intro x3  σ hW h; exact absurd h id
    | succ n ih => exact step _ k_j69 _ ih
  intro σ hW h
  refine V_iconst 0 (v := (0 : Int32)) rfl (by decide) ?_
  refine V_istore_n 1 (lv' := [(3, .int (0 : Int32)), (0, .ref 19), (1, .int a0), (2, .int a1)]) rfl rfl (by decide) rfl ?_
  refine V_sub [1, 2, 3, 0] (lv' := [(0, .ref 19), (1, .int a0), (2, .int a1), (3, .int (0 : Int32))]) rfl ?_
  obtain ⟨n, h⟩ := h
  exact k_l2 n (0 : Int32) σ hW h

def wX7_find_j102 (a0 : Nat) (Q : ab_S → Prop) (E : String → ab_S → Prop) (Bk : Int32 → ab_S → Prop) (x2 : Int32) (σ : ab_S) : Prop := ∀ v1 : Int32, v1 = (x2 + 1) → Bk v1 σ
def wX7_find_j96 (a0 : Nat) (Q : ab_S → Prop) (E : String → ab_S → Prop) (K102 : Int32 → ab_S → Prop) (Bk : Int32 → Int32 → ab_S → Prop) (x2 : Int32) (x3 : Int32) (σ : ab_S) : Prop := ∀ v2 : Int32, v2 = (x3 + 1) → Bk x2 v2 σ
def wX7_find_j64 (a0 : Nat) (Q : ab_S → Prop) (E : String → ab_S → Prop) (K102 : Int32 → ab_S → Prop) (Bk : Int32 → Int32 → ab_S → Prop) (x2 : Int32) (x3 : Int32) (x4 : Int32) (y0 : Int32) (y1 : Int32) (σ : ab_S) : Prop := vp_in y1 96 ∧ (∀ σ3 : ab_S, σ3 = ab_I σ 21 y1.toNatClampNeg y0 → vp_in x4 96 ∧ (∀ σ4 : ab_S, σ4 = ab_I σ3 22 x4.toNatClampNeg (σ3.2.1 19 5) → vp_in x4 96 ∧ (((¬ (σ4.2.1 21 x4.toNatClampNeg) = 0) → wX7_find_j96 a0 Q E K102 Bk x2 x3 σ4) ∧ (¬ (¬ (σ4.2.1 21 x4.toNatClampNeg) = 0) → (∀ σ5 : ab_S, σ5 = ab_I σ4 19 5 ((σ4.2.1 19 5) + (1 : Int32)) → wX7_find_j96 a0 Q E K102 Bk x2 x3 σ5)))))
def wX7_find_l26_b (a0 : Nat) (Q : ab_S → Prop) (E : String → ab_S → Prop) (K102 : Int32 → ab_S → Prop) (Bk : Int32 → Int32 → ab_S → Prop) (x2 : Int32) (x3 : Int32) (σ : ab_S) : Prop := vp_in x2 12 ∧ ((((σ.2.1 (a0 + 2) x2.toNatClampNeg) ≤ x3) → K102 x2 σ) ∧ (¬ ((σ.2.1 (a0 + 2) x2.toNatClampNeg) ≤ x3) → ∀ v6 : Int32, v6 = ((x2 * (8 : Int32)) + x3) → ((¬ x2 = 0) → wX7_kindOf x2 x3 (fun u8 σ7 => wX7_find_j64 a0 Q E K102 Bk x2 x3 v6 u8 v6 σ7) E σ) ∧ (¬ (¬ x2 = 0) → wX7_find_j64 a0 Q E K102 Bk x2 x3 v6 (2 : Int32) v6 σ)))
def wX7_find_l26 (a0 : Nat) (Q : ab_S → Prop) (E : String → ab_S → Prop) (K102 : Int32 → ab_S → Prop) : Nat → Int32 → Int32 → ab_S → Prop
  | 0, _, _, _ => False
  | n + 1, x2, x3, σ => wX7_find_l26_b a0 Q E K102 (wX7_find_l26 a0 Q E K102 n) x2 x3 σ
def wX7_find_l16_b (a0 : Nat) (Q : ab_S → Prop) (E : String → ab_S → Prop) (Bk : Int32 → ab_S → Prop) (x2 : Int32) (σ : ab_S) : Prop := (((σ.2.1 a0 0) ≤ x2) → Q σ) ∧ (¬ ((σ.2.1 a0 0) ≤ x2) → ∃ n, wX7_find_l26 a0 Q E (wX7_find_j102 a0 Q E Bk) n x2 (0 : Int32) σ)
def wX7_find_l16 (a0 : Nat) (Q : ab_S → Prop) (E : String → ab_S → Prop) : Nat → Int32 → ab_S → Prop
  | 0, _, _ => False
  | n + 1, x2, σ => wX7_find_l16_b a0 Q E (wX7_find_l16 a0 Q E n) x2 σ
def wX7_find (a0 : Nat) (Q : ab_S → Prop) (E : String → ab_S → Prop) (σ : ab_S) : Prop := (∀ σ9 : ab_S, σ9 = ab_R σ 19 1 (some a0) → (∀ σ10 : ab_S, σ10 = ab_I σ9 19 5 (0 : Int32) → wX7_findDefined (fun σ11 => ∃ n, wX7_find_l16 a0 Q E n (0 : Int32) σ11) E σ10))
set_option maxHeartbeats 4000000 in
set_option maxRecDepth 100000 in
theorem ceX7_find {l : Launch} (hl : l.stackTraces = false) (B : Nat) {a0 : Nat} (ha0 : isG a0) {Q : ab_S → Prop} {E : String → ab_S → Prop} {σ : ab_S} (hW : Wire σ) (h : wX7_find a0 Q E σ) : ab_Mt l yX7_find mdX7_find B 5 121 0 0 [.ref 19, .ref a0] σ (fun v σ' => Wire σ' ∧ v = none ∧ Q σ') (fun X σ' => Wire σ' ∧ E X σ') := by
  refine V_met hl ⟨rfl, rfl, by decide⟩ rfl dkX7_find (Nat.le_of_ble_eq_true rfl) ?_
  show V l mdX7_find B 5 121 0 0 (ab_End _ _) 0 [(0, .ref 19), (1, .ref a0)] [] σ
  revert h hW
  revert σ
  have k_l16 : ∀ (n : Nat) (x2 : Int32)  (σ : ab_S), Wire σ → wX7_find_l16 a0 Q E n x2 σ → V l mdX7_find B 5 121 0 0 (ab_End (fun v σ' => Wire σ' ∧ v = none ∧ Q σ') (fun X σ' => Wire σ' ∧ E X σ')) 16 [(0, .ref 19), (1, .ref a0), (2, .int x2)] [] σ := by
    have step : ∀ (Bk : Int32 → ab_S → Prop) (k_Bk : ∀ (x2 : Int32)  (σ : ab_S), Wire σ → Bk x2 σ → V l mdX7_find B 5 121 0 0 (ab_End (fun v σ' => Wire σ' ∧ v = none ∧ Q σ') (fun X σ' => Wire σ' ∧ E X σ')) 16 [(0, .ref 19), (1, .ref a0), (2, .int x2)] [] σ), ∀ (x2 : Int32)  (σ : ab_S), Wire σ → wX7_find_l16_b a0 Q E Bk x2 σ → V l mdX7_find B 5 121 0 0 (ab_End (fun v σ' => Wire σ' ∧ v = none ∧ Q σ') (fun X σ' => Wire σ' ∧ E X σ')) 16 [(0, .ref 19), (1, .ref a0), (2, .int x2)] [] σ := by
      intro Bk k_Bk
      have k_j102 : ∀ (x2 : Int32)  (σ : ab_S), Wire σ → wX7_find_j102 a0 Q E Bk x2 σ → V l mdX7_find B 5 121 0 0 (ab_End (fun v σ' => Wire σ' ∧ v = none ∧ Q σ') (fun X σ' => Wire σ' ∧ E X σ')) 102 [(0, .ref 19), (1, .ref a0), (2, .int x2)] [] σ := by
        intro x2  σ hW h
        obtain ⟨v1, ev1⟩ : ∃ z : Int32, z = (x2 + 1) := ⟨_, rfl⟩
        replace h := h v1 ev1
        refine V_iinc 59 2 (v := v1) (lv' := [(2, .int v1), (0, .ref 19), (1, .ref a0)]) rfl rfl ((in_1 _).trans ev1.symm) (by decide) rfl ?_
        refine V_goto 60 (tgt := 16) rfl (by decide) ?_
        refine V_sub [1, 2, 0] (lv' := [(0, .ref 19), (1, .ref a0), (2, .int v1)]) rfl ?_
        exact k_Bk v1  σ hW h
      have k_l26 : ∀ (n : Nat) (x2 : Int32) (x3 : Int32)  (σ : ab_S), Wire σ → wX7_find_l26 a0 Q E (wX7_find_j102 a0 Q E Bk) n x2 x3 σ → V l mdX7_find B 5 121 0 0 (ab_End (fun v σ' => Wire σ' ∧ v = none ∧ Q σ') (fun X σ' => Wire σ' ∧ E X σ')) 26 [(0, .ref 19), (1, .ref a0), (2, .int x2), (3, .int x3)] [] σ := by
        have step : ∀ (K102 : Int32 → ab_S → Prop) (k_K102 : ∀ (x2 : Int32)  (σ : ab_S), Wire σ → K102 x2 σ → V l mdX7_find B 5 121 0 0 (ab_End (fun v σ' => Wire σ' ∧ v = none ∧ Q σ') (fun X σ' => Wire σ' ∧ E X σ')) 102 [(0, .ref 19), (1, .ref a0), (2, .int x2)] [] σ), ∀ (Bk : Int32 → Int32 → ab_S → Prop) (k_Bk : ∀ (x2 : Int32) (x3 : Int32)  (σ : ab_S), Wire σ → Bk x2 x3 σ → V l mdX7_find B 5 121 0 0 (ab_End (fun v σ' => Wire σ' ∧ v = none ∧ Q σ') (fun X σ' => Wire σ' ∧ E X σ')) 26 [(0, .ref 19), (1, .ref a0), (2, .int x2), (3, .int x3)] [] σ), ∀ (x2 : Int32) (x3 : Int32)  (σ : ab_S), Wire σ → wX7_find_l26_b a0 Q E K102 Bk x2 x3 σ → V l mdX7_find B 5 121 0 0 (ab_End (fun v σ' => Wire σ' ∧ v = none ∧ Q σ') (fun X σ' => Wire σ' ∧ E X σ')) 26 [(0, .ref 19), (1, .ref a0), (2, .int x2), (3, .int x3)] [] σ := by
          intro K102 k_K102 Bk k_Bk
          have k_j96 : ∀ (x2 : Int32) (x3 : Int32)  (σ : ab_S), Wire σ → wX7_find_j96 a0 Q E K102 Bk x2 x3 σ → V l mdX7_find B 5 121 0 0 (ab_End (fun v σ' => Wire σ' ∧ v = none ∧ Q σ') (fun X σ' => Wire σ' ∧ E X σ')) 96 [(0, .ref 19), (1, .ref a0), (2, .int x2), (3, .int x3)] [] σ := by
            intro x2 x3  σ hW h
            obtain ⟨v2, ev2⟩ : ∃ z : Int32, z = (x3 + 1) := ⟨_, rfl⟩
            replace h := h v2 ev2
            refine V_iinc 57 3 (v := v2) (lv' := [(3, .int v2), (0, .ref 19), (1, .ref a0), (2, .int x2)]) rfl rfl ((in_1 _).trans ev2.symm) (by decide) rfl ?_
            refine V_goto 58 (tgt := 26) rfl (by decide) ?_
            refine V_sub [1, 2, 3, 0] (lv' := [(0, .ref 19), (1, .ref a0), (2, .int x2), (3, .int v2)]) rfl ?_
            exact k_Bk x2 v2  σ hW h
          have k_j64 : ∀ (x2 : Int32) (x3 : Int32) (x4 : Int32) (y0 : Int32) (y1 : Int32)  (σ : ab_S), Wire σ → wX7_find_j64 a0 Q E K102 Bk x2 x3 x4 y0 y1 σ → V l mdX7_find B 5 121 0 0 (ab_End (fun v σ' => Wire σ' ∧ v = none ∧ Q σ') (fun X σ' => Wire σ' ∧ E X σ')) 64 [(0, .ref 19), (1, .ref a0), (2, .int x2), (3, .int x3), (4, .int x4)] [.int y0, .int y1, .ref 21] σ := by
            intro x2 x3 x4 y0 y1  σ hW h
            obtain ⟨hin, h⟩ := h
            refine V_iast 39 rfl (wsh hW rfl) hin ?_
            refine V_nm (fun σ3 eσ3 => ?_)
            replace h := h σ3 eσ3
            have hW := wire_I eσ3 hW
            refine V_aload_n 40 0 rfl rfl rfl ?_
            refine V_getR 41 4 rfl clX7 flX7_18 (by decide) (wsh hW rfl) (fun _ => rfl) (wrf hW 29 rfl) ?_
            refine V_iload 42 4 rfl rfl ?_
            refine V_aload_n 43 0 rfl rfl rfl ?_
            refine V_get (v := .int (σ3.2.1 19 5)) 44 5 rfl clX7 flX7_29 (by decide) (wsh hW rfl) (fun _ => rfl) ?_
            refine V_pc 75 rfl ?_
            obtain ⟨hin, h⟩ := h
            refine V_iast 45 rfl (wsh hW rfl) hin ?_
            refine V_nm (fun σ4 eσ4 => ?_)
            replace h := h σ4 eσ4
            have hW := wire_I eσ4 hW
            refine V_aload_n 46 0 rfl rfl rfl ?_
            refine V_getR 47 3 rfl clX7 flX7_15 (by decide) (wsh hW rfl) (fun _ => rfl) (wrf hW 28 rfl) ?_
            refine V_iload 48 4 rfl rfl ?_
            obtain ⟨hin, h⟩ := h
            refine V_iald 49 rfl (wsh hW rfl) hin ?_
            refine V_if_ne 50 (tgt := 96) rfl (by decide) (fun hc => ?_) (fun hc => ?_)
            · replace h := h.1 hc
              refine V_sub [0, 1, 2, 3] (lv' := [(0, .ref 19), (1, .ref a0), (2, .int x2), (3, .int x3)]) rfl ?_
              exact k_j96 x2 x3 σ4 hW h
            · replace h := h.2 hc
              refine V_pc 86 rfl ?_
              refine V_aload_n 51 0 rfl rfl rfl ?_
              refine V_dup 52 rfl rfl ?_
              refine V_get (v := .int (σ4.2.1 19 5)) 53 5 rfl clX7 flX7_29 (by decide) (wsh hW rfl) (fun _ => rfl) ?_
              refine V_iconst 54 (v := (1 : Int32)) rfl (by decide) ?_
              refine V_iadd 55 rfl ?_
              refine V_putI 56 5 rfl clX7 flX7_29 (by decide) (wsh hW rfl) rfl (fun _ _ => rfl) rfl rfl ?_
              refine V_nm (fun σ5 eσ5 => ?_)
              replace h := h σ5 eσ5
              have hW := wire_I eσ5 hW
              refine V_sub [0, 1, 2, 3] (lv' := [(0, .ref 19), (1, .ref a0), (2, .int x2), (3, .int x3)]) rfl ?_
              exact k_j96 x2 x3 σ5 hW h
          intro x2 x3  σ hW h
          refine V_iload_n 16 3 rfl rfl rfl ?_
          refine V_aload_n 17 1 rfl rfl rfl ?_
          refine V_getR 18 2 rfl clX0 flX7_41 (by decide) (wG hW ha0) (fun _ => rfl) (wG_f2 hW ha0) ?_
          refine V_iload_n 19 2 rfl rfl rfl ?_
          obtain ⟨hin, h⟩ := h
          refine V_iald 20 rfl (wG_a2 hW ha0) hin ?_
          refine V_icmp_ge 21 (tgt := 102) rfl (by decide) (fun hc => ?_) (fun hc => ?_)
          · replace h := h.1 hc
            refine V_sub [0, 1, 2] (lv' := [(0, .ref 19), (1, .ref a0), (2, .int x2)]) rfl ?_
            exact k_K102 x2  σ hW h
          · replace h := h.2 hc
            refine V_pc 36 rfl ?_
            refine V_iload_n 22 2 rfl rfl rfl ?_
            refine V_bipush 23 (v := (8 : Int32)) rfl (by decide) ?_
            refine V_imul 24 rfl ?_
            refine V_iload_n 25 3 rfl rfl rfl ?_
            refine V_iadd 26 rfl ?_
            refine V_topi (fun v6 ev6 => ?_)
            replace h := h v6 ev6
            refine V_istore 27 (lv' := [(4, .int v6), (0, .ref 19), (1, .ref a0), (2, .int x2), (3, .int x3)]) rfl (by decide) rfl ?_
            refine V_pc 44 rfl ?_
            refine V_aload_n 28 1 rfl rfl rfl ?_
            refine V_getR 29 3 rfl clX7 flX7_15 (by decide) (wsh hW rfl) (fun _ => rfl) (wrf hW 28 rfl) ?_
            refine V_iload 30 0 rfl rfl ?_
            refine V_iload_n 31 3 rfl rfl rfl ?_
            refine V_if_ne 32 (tgt := 58) rfl (by decide) (fun hc => ?_) (fun hc => ?_)
            · replace h := h.1 hc
              refine V_aload_n 35 1 rfl rfl rfl ?_
              refine V_iload_n 36 3 rfl rfl rfl ?_
              refine V_iload_n 37 4 rfl rfl rfl ?_
              refine V_callV 38 2 (as := [.int x2, .int x3]) (rest := [.int v6, .ref 21]) rfl mlX7_44 yvX7_kindOf rfl rfl clX7 (wsh hW rfl) (by decide) (by decide) (Nat.le_of_ble_eq_true rfl) (by decide) (by decide) (fun B9 => ceX7_kindOf hl B9 hW h) (fun X9 τ9 h9 => VX_out rfl h9) ?_
              rintro v9 σ7 ⟨hW, u8, rfl, h⟩
              refine V_sub [1, 2, 3, 4, 0] (lv' := [(0, .ref 19), (1, .ref a0), (2, .int x2), (3, .int x3), (4, .int v6)]) rfl ?_
              exact k_j64 x2 x3 v6 u8 v6 σ7 hW h
            · replace h := h.2 hc
              refine V_pc 54 rfl ?_
              refine V_iconst 33 (v := (2 : Int32)) rfl (by decide) ?_
              refine V_goto 34 (tgt := 64) rfl (by decide) ?_
              refine V_sub [1, 2, 3, 4, 0] (lv' := [(0, .ref 19), (1, .ref a0), (2, .int x2), (3, .int x3), (4, .int v6)]) rfl ?_
              exact k_j64 x2 x3 v6 (2 : Int32) v6 σ hW h
        intro n
        induction n with
        | zero => intro x2 x3  σ hW h; exact absurd h id
        | succ n ih => exact step _ k_j102 _ ih
      intro x2  σ hW h
      refine V_iload_n 10 2 rfl rfl rfl ?_
      refine V_aload_n 11 1 rfl rfl rfl ?_
      refine V_get (v := .int (σ.2.1 a0 0)) 12 0 rfl clX0 flX7_36 (by decide) (wG hW ha0) (fun _ => rfl) ?_
      refine V_icmp_ge 13 (tgt := 108) rfl (by decide) (fun hc => ?_) (fun hc => ?_)
      · replace h := h.1 hc
        exact V_vret 61 rfl rfl ⟨hW, rfl, h⟩
      · replace h := h.2 hc
        refine V_pc 24 rfl ?_
        refine V_iconst 14 (v := (0 : Int32)) rfl (by decide) ?_
        refine V_istore_n 15 (lv' := [(3, .int (0 : Int32)), (0, .ref 19), (1, .ref a0), (2, .int x2)]) rfl rfl (by decide) rfl ?_
        refine V_sub [1, 2, 3, 0] (lv' := [(0, .ref 19), (1, .ref a0), (2, .int x2), (3, .int (0 : Int32))]) rfl ?_
        obtain ⟨n, h⟩ := h
        exact k_l26 n x2 (0 : Int32) σ hW h
    intro n
    induction n with
    | zero => intro x2  σ hW h; exact absurd h id
    | succ n ih => exact step  _ ih
  intro σ hW h
  refine V_aload_n 0 0 rfl rfl rfl ?_
  refine V_aload_n 1 1 rfl rfl rfl ?_
  refine V_putR (x := some a0) 2 1 rfl clX7 flX7_25 (by decide) (wsh hW rfl) rfl (fun _ _ => rfl) (fun v9 h9 => by rcases h9 with rfl | ⟨a9, rfl⟩ <;> exact ⟨rfl, rfl⟩) ?_
  refine V_nm (fun σ9 eσ9 => ?_)
  replace h := h σ9 eσ9
  have hW := wire_R eσ9 (by decide +kernel) hW
  refine V_aload_n 3 0 rfl rfl rfl ?_
  refine V_iconst 4 (v := (0 : Int32)) rfl (by decide) ?_
  refine V_putI 5 5 rfl clX7 flX7_29 (by decide) (wsh hW rfl) rfl (fun _ _ => rfl) rfl rfl ?_
  refine V_nm (fun σ10 eσ10 => ?_)
  replace h := h σ10 eσ10
  have hW := wire_I eσ10 hW
  refine V_aload_n 6 0 rfl rfl rfl ?_
  refine V_callV 7 0 (as := []) (rest := []) rfl mlX7_33 yvX7_findDefined rfl rfl clX7 (wsh hW rfl) (by decide) (by decide) (Nat.le_of_ble_eq_true rfl) (by decide) (by decide) (fun B9 => ceX7_findDefined hl B9 hW h) (fun X9 τ9 h9 => VX_out rfl h9) ?_
  rintro v9 σ11 ⟨hW, rfl, h⟩
  refine V_iconst 8 (v := (0 : Int32)) rfl (by decide) ?_
  refine V_istore_n 9 (lv' := [(2, .int (0 : Int32)), (0, .ref 19), (1, .ref a0)]) rfl rfl (by decide) rfl ?_
  refine V_sub [1, 2, 0] (lv' := [(0, .ref 19), (1, .ref a0), (2, .int (0 : Int32))]) rfl ?_
  obtain ⟨n, h⟩ := h
  exact k_l16 n (0 : Int32) σ11 hW h

def wX7_frame (a0 : Int32) (Q : Int32 → ab_S → Prop) (E : String → ab_S → Prop) (σ : ab_S) : Prop := ∃ q1, σ.2.2.2 19 1 = some q1 ∧ isG q1 ∧ (vp_in a0 30 ∧ (wX7_frameAhead a0 ((σ.2.1 (q1 + 6) a0.toNatClampNeg) + (1 : Int32)) (fun u3 σ2 => Q u3 σ2) E σ))
set_option maxHeartbeats 4000000 in
set_option maxRecDepth 100000 in
theorem ceX7_frame {l : Launch} (hl : l.stackTraces = false) (B : Nat) {a0 : Int32}  {Q : Int32 → ab_S → Prop} {E : String → ab_S → Prop} {σ : ab_S} (hW : Wire σ) (h : wX7_frame a0 Q E σ) : ab_Mt l yX7_frame mdX7_frame B 2 49 0 0 [.ref 19, .int a0] σ (fun v σ' => Wire σ' ∧ ∃ r : Int32, v = some (.int r) ∧ Q r σ') (fun X σ' => Wire σ' ∧ E X σ') := by
  refine V_met hl ⟨rfl, rfl, by decide⟩ rfl dkX7_frame (Nat.le_of_ble_eq_true rfl) ?_
  show V l mdX7_frame B 2 49 0 0 (ab_End _ _) 0 [(0, .ref 19), (1, .int a0)] [] σ
  refine V_aload_n 0 0 rfl rfl rfl ?_
  refine V_iload_n 1 1 rfl rfl rfl ?_
  refine V_aload_n 2 0 rfl rfl rfl ?_
  obtain ⟨q1, eq1, hq1, h⟩ := h
  refine V_getR 3 1 rfl clX7 flX7_25 (by decide) (wsh hW rfl) (fun _ => rfl) eq1 ?_
  refine V_getR 4 7 rfl clX0 flX7_48 (by decide) (wG hW hq1) (fun _ => rfl) (wG_f7 hW hq1) ?_
  refine V_iload_n 5 1 rfl rfl rfl ?_
  refine V_pc 10 rfl ?_
  obtain ⟨hin, h⟩ := h
  refine V_iald 6 rfl (wG_a6 hW hq1) hin ?_
  refine V_iconst 7 (v := (1 : Int32)) rfl (by decide) ?_
  refine V_iadd 8 rfl ?_
  refine V_callV 9 2 (as := [.int a0, .int ((σ.2.1 (q1 + 6) a0.toNatClampNeg) + (1 : Int32))]) (rest := []) rfl mlX7_51 yvX7_frameAhead rfl rfl clX7 (wsh hW rfl) (by decide) (by decide) (Nat.le_of_ble_eq_true rfl) (by decide) (by decide) (fun B9 => ceX7_frameAhead hl B9 hW h) (fun X9 τ9 h9 => VX_out rfl h9) ?_
  rintro v9 σ2 ⟨hW, u3, rfl, h⟩
  exact V_iret 10 rfl rfl ⟨hW, _, rfl, h⟩

def wX8_allows_j18 (a0 : Int32) (Q : Int32 → ab_S → Prop) (E : String → ab_S → Prop)  (σ : ab_S) : Prop := Q (1 : Int32) σ
def wX8_allows (a0 : Int32) (Q : Int32 → ab_S → Prop) (E : String → ab_S → Prop) (σ : ab_S) : Prop := ((a0 = (10 : Int32)) → wX8_allows_j18 a0 Q E σ) ∧ (¬ (a0 = (10 : Int32)) → ((a0 < (32 : Int32)) → Q (0 : Int32) σ) ∧ (¬ (a0 < (32 : Int32)) → (((126 : Int32) < a0) → Q (0 : Int32) σ) ∧ (¬ ((126 : Int32) < a0) → wX8_allows_j18 a0 Q E σ)))
set_option maxHeartbeats 4000000 in
set_option maxRecDepth 100000 in
theorem ceX8_allows {l : Launch} (hl : l.stackTraces = false) (B : Nat) {a0 : Int32}  {Q : Int32 → ab_S → Prop} {E : String → ab_S → Prop} {σ : ab_S} (hW : Wire σ) (h : wX8_allows a0 Q E σ) : ab_Mt l yX8_allows mdX8_allows B 0 0 0 0 [.int a0] σ (fun v σ' => Wire σ' ∧ ∃ r : Int32, v = some (.int r) ∧ Q r σ') (fun X σ' => Wire σ' ∧ E X σ') := by
  refine V_met hl ⟨rfl, rfl, by decide⟩ rfl dkX8_allows (Nat.le_of_ble_eq_true rfl) ?_
  show V l mdX8_allows B 0 0 0 0 (ab_End _ _) 0 [(0, .int a0)] [] σ
  revert h hW
  revert σ
  have k_j18 : ∀   (σ : ab_S), Wire σ → wX8_allows_j18 a0 Q E  σ → V l mdX8_allows B 0 0 0 0 (ab_End (fun v σ' => Wire σ' ∧ ∃ r : Int32, v = some (.int r) ∧ Q r σ') (fun X σ' => Wire σ' ∧ E X σ')) 18 [] [] σ := by
    intro   σ hW h
    refine V_iconst 9 (v := (1 : Int32)) rfl (by decide) ?_
    refine V_goto 10 (tgt := 23) rfl (by decide) ?_
    exact V_zret 12 rfl rfl rfl ⟨hW, _, rfl, h⟩
  intro σ hW h
  refine V_iload_n 0 0 rfl rfl rfl ?_
  refine V_bipush 1 (v := (10 : Int32)) rfl (by decide) ?_
  refine V_icmp_eq 2 (tgt := 18) rfl (by decide) (fun hc => ?_) (fun hc => ?_)
  · replace h := h.1 hc
    refine V_sub [] (lv' := []) rfl ?_
    exact k_j18 σ hW h
  · replace h := h.2 hc
    refine V_pc 6 rfl ?_
    refine V_iload_n 3 0 rfl rfl rfl ?_
    refine V_bipush 4 (v := (32 : Int32)) rfl (by decide) ?_
    refine V_icmp_lt 5 (tgt := 22) rfl (by decide) (fun hc => ?_) (fun hc => ?_)
    · replace h := h.1 hc
      refine V_iconst 11 (v := (0 : Int32)) rfl (by decide) ?_
      exact V_zret 12 rfl rfl rfl ⟨hW, _, rfl, h⟩
    · replace h := h.2 hc
      refine V_pc 12 rfl ?_
      refine V_iload_n 6 0 rfl rfl rfl ?_
      refine V_bipush 7 (v := (126 : Int32)) rfl (by decide) ?_
      refine V_icmp_gt 8 (tgt := 22) rfl (by decide) (fun hc => ?_) (fun hc => ?_)
      · replace h := h.1 hc
        refine V_iconst 11 (v := (0 : Int32)) rfl (by decide) ?_
        exact V_zret 12 rfl rfl rfl ⟨hW, _, rfl, h⟩
      · replace h := h.2 hc
        refine V_pc 18 rfl ?_
        refine V_sub [] (lv' := []) rfl ?_
        exact k_j18 σ hW h

def wX8_append_j53 (a0 : Int32) (Q : ab_S → Prop) (E : String → ab_S → Prop) (Bk : Int32 → ab_S → Prop) (x2 : Int32) (σ : ab_S) : Prop := ∀ v1 : Int32, v1 = (x2 + 1) → Bk v1 σ
def wX8_append_l2_b (a0 : Int32) (Q : ab_S → Prop) (E : String → ab_S → Prop) (Bk : Int32 → ab_S → Prop) (x2 : Int32) (σ : ab_S) : Prop := (((4 : Int32) ≤ x2) → Q σ) ∧ (¬ ((4 : Int32) ≤ x2) → ∀ v2 : Int32, v2 = (((a0.toUInt32 >>> (((8 : Int32) * x2).toUInt32 &&& Int32.toUInt32 31)).toInt32) &&& (255 : Int32)) → ((v2 = 0) → wX8_append_j53 a0 Q E Bk x2 σ) ∧ (¬ (v2 = 0) → (((2400 : Int32) ≤ (σ.2.1 1 1)) → wX8_append_j53 a0 Q E Bk x2 σ) ∧ (¬ ((2400 : Int32) ≤ (σ.2.1 1 1)) → vp_in (σ.2.1 1 1) 2400 ∧ (∀ σ3 : ab_S, σ3 = ab_I σ 2 (σ.2.1 1 1).toNatClampNeg (vp_nar .char ((v2.toUInt32 % 65536).toInt32)) → (∀ σ4 : ab_S, σ4 = ab_I σ3 1 1 ((σ3.2.1 1 1) + (1 : Int32)) → wX8_append_j53 a0 Q E Bk x2 σ4)))))
def wX8_append_l2 (a0 : Int32) (Q : ab_S → Prop) (E : String → ab_S → Prop) : Nat → Int32 → ab_S → Prop
  | 0, _, _ => False
  | n + 1, x2, σ => wX8_append_l2_b a0 Q E (wX8_append_l2 a0 Q E n) x2 σ
def wX8_append (a0 : Int32) (Q : ab_S → Prop) (E : String → ab_S → Prop) (σ : ab_S) : Prop := ∃ n, wX8_append_l2 a0 Q E n (0 : Int32) σ
set_option maxHeartbeats 4000000 in
set_option maxRecDepth 100000 in
theorem ceX8_append {l : Launch} (hl : l.stackTraces = false) (B : Nat) {a0 : Int32}  {Q : ab_S → Prop} {E : String → ab_S → Prop} {σ : ab_S} (hW : Wire σ) (h : wX8_append a0 Q E σ) : ab_Mt l yX8_append mdX8_append B 0 0 0 0 [.ref 1, .int a0] σ (fun v σ' => Wire σ' ∧ v = none ∧ Q σ') (fun X σ' => Wire σ' ∧ E X σ') := by
  refine V_met hl ⟨rfl, rfl, by decide⟩ rfl dkX8_append (Nat.le_of_ble_eq_true rfl) ?_
  show V l mdX8_append B 0 0 0 0 (ab_End _ _) 0 [(0, .ref 1), (1, .int a0)] [] σ
  revert h hW
  revert σ
  have k_l2 : ∀ (n : Nat) (x2 : Int32)  (σ : ab_S), Wire σ → wX8_append_l2 a0 Q E n x2 σ → V l mdX8_append B 0 0 0 0 (ab_End (fun v σ' => Wire σ' ∧ v = none ∧ Q σ') (fun X σ' => Wire σ' ∧ E X σ')) 2 [(0, .ref 1), (1, .int a0), (2, .int x2)] [] σ := by
    have step : ∀ (Bk : Int32 → ab_S → Prop) (k_Bk : ∀ (x2 : Int32)  (σ : ab_S), Wire σ → Bk x2 σ → V l mdX8_append B 0 0 0 0 (ab_End (fun v σ' => Wire σ' ∧ v = none ∧ Q σ') (fun X σ' => Wire σ' ∧ E X σ')) 2 [(0, .ref 1), (1, .int a0), (2, .int x2)] [] σ), ∀ (x2 : Int32)  (σ : ab_S), Wire σ → wX8_append_l2_b a0 Q E Bk x2 σ → V l mdX8_append B 0 0 0 0 (ab_End (fun v σ' => Wire σ' ∧ v = none ∧ Q σ') (fun X σ' => Wire σ' ∧ E X σ')) 2 [(0, .ref 1), (1, .int a0), (2, .int x2)] [] σ := by
      intro Bk k_Bk
      have k_j53 : ∀ (x2 : Int32)  (σ : ab_S), Wire σ → wX8_append_j53 a0 Q E Bk x2 σ → V l mdX8_append B 0 0 0 0 (ab_End (fun v σ' => Wire σ' ∧ v = none ∧ Q σ') (fun X σ' => Wire σ' ∧ E X σ')) 53 [(0, .ref 1), (1, .int a0), (2, .int x2)] [] σ := by
        intro x2  σ hW h
        obtain ⟨v1, ev1⟩ : ∃ z : Int32, z = (x2 + 1) := ⟨_, rfl⟩
        replace h := h v1 ev1
        refine V_iinc 32 2 (v := v1) (lv' := [(2, .int v1), (0, .ref 1), (1, .int a0)]) rfl rfl ((in_1 _).trans ev1.symm) (by decide) rfl ?_
        refine V_goto 33 (tgt := 2) rfl (by decide) ?_
        refine V_sub [1, 2, 0] (lv' := [(0, .ref 1), (1, .int a0), (2, .int v1)]) rfl ?_
        exact k_Bk v1  σ hW h
      intro x2  σ hW h
      refine V_iload_n 2 2 rfl rfl rfl ?_
      refine V_iconst 3 (v := (4 : Int32)) rfl (by decide) ?_
      refine V_icmp_ge 4 (tgt := 59) rfl (by decide) (fun hc => ?_) (fun hc => ?_)
      · replace h := h.1 hc
        exact V_vret 34 rfl rfl ⟨hW, rfl, h⟩
      · replace h := h.2 hc
        refine V_pc 7 rfl ?_
        refine V_iload_n 5 1 rfl rfl rfl ?_
        refine V_bipush 6 (v := (8 : Int32)) rfl (by decide) ?_
        refine V_iload_n 7 2 rfl rfl rfl ?_
        refine V_imul 8 rfl ?_
        refine V_iushr 9 rfl ?_
        refine V_sipush 10 (v := (255 : Int32)) rfl (by decide) ?_
        refine V_pc 16 rfl ?_
        refine V_iand 11 rfl ?_
        refine V_topi (fun v2 ev2 => ?_)
        replace h := h v2 ev2
        refine V_istore_n 12 (lv' := [(3, .int v2), (0, .ref 1), (1, .int a0), (2, .int x2)]) rfl rfl (by decide) rfl ?_
        refine V_iload_n 13 0 rfl rfl rfl ?_
        refine V_if_eq 14 (tgt := 53) rfl (by decide) (fun hc => ?_) (fun hc => ?_)
        · replace h := h.1 hc
          refine V_sub [1, 2, 3] (lv' := [(0, .ref 1), (1, .int a0), (2, .int x2)]) rfl ?_
          exact k_j53 x2 σ hW h
        · replace h := h.2 hc
          refine V_pc 22 rfl ?_
          refine V_aload_n 15 1 rfl rfl rfl ?_
          refine V_get (v := .int (σ.2.1 1 1)) 16 1 rfl clX8 flX8_15 (by decide) (wsh hW rfl) (fun _ => rfl) ?_
          refine V_sipush 17 (v := (2400 : Int32)) rfl (by decide) ?_
          refine V_icmp_ge 18 (tgt := 53) rfl (by decide) (fun hc => ?_) (fun hc => ?_)
          · replace h := h.1 hc
            refine V_sub [1, 2, 3] (lv' := [(0, .ref 1), (1, .int a0), (2, .int x2)]) rfl ?_
            exact k_j53 x2 σ hW h
          · replace h := h.2 hc
            refine V_pc 32 rfl ?_
            refine V_aload_n 19 1 rfl rfl rfl ?_
            refine V_getR 20 0 rfl clX8 flX8_9 (by decide) (wsh hW rfl) (fun _ => rfl) (wrf hW 11 rfl) ?_
            refine V_aload_n 21 1 rfl rfl rfl ?_
            refine V_get (v := .int (σ.2.1 1 1)) 22 1 rfl clX8 flX8_15 (by decide) (wsh hW rfl) (fun _ => rfl) ?_
            refine V_iload_n 23 0 rfl rfl rfl ?_
            refine V_i2c 24 rfl ?_
            refine V_pc 42 rfl ?_
            obtain ⟨hin, h⟩ := h
            refine V_cast 25 rfl (wsh hW rfl) hin ?_
            refine V_nm (fun σ3 eσ3 => ?_)
            replace h := h σ3 eσ3
            have hW := wire_I eσ3 hW
            refine V_aload_n 26 1 rfl rfl rfl ?_
            refine V_dup 27 rfl rfl ?_
            refine V_get (v := .int (σ3.2.1 1 1)) 28 1 rfl clX8 flX8_15 (by decide) (wsh hW rfl) (fun _ => rfl) ?_
            refine V_iconst 29 (v := (1 : Int32)) rfl (by decide) ?_
            refine V_iadd 30 rfl ?_
            refine V_pc 50 rfl ?_
            refine V_putI 31 1 rfl clX8 flX8_15 (by decide) (wsh hW rfl) rfl (fun _ _ => rfl) rfl rfl ?_
            refine V_nm (fun σ4 eσ4 => ?_)
            replace h := h σ4 eσ4
            have hW := wire_I eσ4 hW
            refine V_sub [1, 2, 3] (lv' := [(0, .ref 1), (1, .int a0), (2, .int x2)]) rfl ?_
            exact k_j53 x2 σ4 hW h
    intro n
    induction n with
    | zero => intro x2  σ hW h; exact absurd h id
    | succ n ih => exact step  _ ih
  intro σ hW h
  refine V_iconst 0 (v := (0 : Int32)) rfl (by decide) ?_
  refine V_istore_n 1 (lv' := [(2, .int (0 : Int32)), (0, .ref 1), (1, .int a0)]) rfl rfl (by decide) rfl ?_
  refine V_sub [1, 2, 0] (lv' := [(0, .ref 1), (1, .int a0), (2, .int (0 : Int32))]) rfl ?_
  obtain ⟨n, h⟩ := h
  exact k_l2 n (0 : Int32) σ hW h

def wX9_add_j89 (this : Nat) (a0 : Int32) (a1 : Int32) (Q : ab_S → Prop) (E : String → ab_S → Prop)  (σ : ab_S) : Prop := (∀ σ1 : ab_S, σ1 = ab_I σ this 0 ((σ.2.1 this 0) + (1 : Int32)) → Q σ1)
def wX9_add (this : Nat) (a0 : Int32) (a1 : Int32) (Q : ab_S → Prop) (E : String → ab_S → Prop) (σ : ab_S) : Prop := vp_in (σ.2.1 this 0) 250 ∧ (∀ σ2 : ab_S, σ2 = ab_I σ (this + 1) (σ.2.1 this 0).toNatClampNeg a0 → vp_in (σ2.2.1 this 0) 250 ∧ (∀ σ3 : ab_S, σ3 = ab_I σ2 (this + 2) (σ2.2.1 this 0).toNatClampNeg a1 → vp_in (σ3.2.1 this 0) 250 ∧ (∀ σ4 : ab_S, σ4 = ab_I σ3 (this + 3) (σ3.2.1 this 0).toNatClampNeg (0 : Int32) → vp_in (σ4.2.1 this 0) 250 ∧ (∀ σ5 : ab_S, σ5 = ab_I σ4 (this + 4) (σ4.2.1 this 0).toNatClampNeg (0 : Int32) → vp_in ((σ5.2.1 this 0) * (4 : Int32)) 1000 ∧ (∀ σ6 : ab_S, σ6 = ab_I σ5 (this + 5) ((σ5.2.1 this 0) * (4 : Int32)).toNatClampNeg (σ5.2.1 this 0) → ((a1 = (-1 : Int32)) → wX9_add_j89 this a0 a1 Q E σ6) ∧ (¬ (a1 = (-1 : Int32)) → vp_in a1 250 ∧ (vp_in a1 250 ∧ (∀ σ7 : ab_S, σ7 = ab_I σ6 (this + 4) a1.toNatClampNeg ((σ6.2.1 (this + 4) a1.toNatClampNeg) + (1 : Int32)) → vp_in a1 250 ∧ (vp_in ((a1 * (4 : Int32)) + (σ7.2.1 (this + 4) a1.toNatClampNeg)) 1000 ∧ (∀ σ8 : ab_S, σ8 = ab_I σ7 (this + 5) ((a1 * (4 : Int32)) + (σ7.2.1 (this + 4) a1.toNatClampNeg)).toNatClampNeg (σ7.2.1 this 0) → wX9_add_j89 this a0 a1 Q E σ8))))))))))
set_option maxHeartbeats 4000000 in
set_option maxRecDepth 100000 in
theorem ceX9_add {l : Launch} (hl : l.stackTraces = false) (B : Nat) {this : Nat} {a0 : Int32} {a1 : Int32} (hthis : isT this) {Q : ab_S → Prop} {E : String → ab_S → Prop} {σ : ab_S} (hW : Wire σ) (h : wX9_add this a0 a1 Q E σ) : ab_Mt l yX9_add mdX9_add B 0 0 0 0 [.ref this, .int a0, .int a1] σ (fun v σ' => Wire σ' ∧ v = none ∧ Q σ') (fun X σ' => Wire σ' ∧ E X σ') := by
  refine V_met hl ⟨rfl, rfl, by decide⟩ rfl dkX9_add (Nat.le_of_ble_eq_true rfl) ?_
  show V l mdX9_add B 0 0 0 0 (ab_End _ _) 0 [(0, .ref this), (1, .int a0), (2, .int a1)] [] σ
  revert h hW
  revert σ
  have k_j89 : ∀   (σ : ab_S), Wire σ → wX9_add_j89 this a0 a1 Q E  σ → V l mdX9_add B 0 0 0 0 (ab_End (fun v σ' => Wire σ' ∧ v = none ∧ Q σ') (fun X σ' => Wire σ' ∧ E X σ')) 89 [(0, .ref this)] [] σ := by
    intro   σ hW h
    refine V_aload_n 57 0 rfl rfl rfl ?_
    refine V_dup 58 rfl rfl ?_
    refine V_get (v := .int (σ.2.1 this 0)) 59 0 rfl clX9 flX9_27 (by decide) (wT hW hthis) (fun _ => rfl) ?_
    refine V_iconst 60 (v := (1 : Int32)) rfl (by decide) ?_
    refine V_iadd 61 rfl ?_
    refine V_putI 62 0 rfl clX9 flX9_27 (by decide) (wT hW hthis) rfl (fun _ _ => rfl) rfl rfl ?_
    refine V_nm (fun σ1 eσ1 => ?_)
    replace h := h σ1 eσ1
    have hW := wire_I eσ1 hW
    exact V_vret 63 rfl rfl ⟨hW, rfl, h⟩
  intro σ hW h
  refine V_aload_n 0 0 rfl rfl rfl ?_
  refine V_getR 1 1 rfl clX9 flX9_9 (by decide) (wT hW hthis) (fun _ => rfl) (wT_f1 hW hthis) ?_
  refine V_aload_n 2 0 rfl rfl rfl ?_
  refine V_get (v := .int (σ.2.1 this 0)) 3 0 rfl clX9 flX9_27 (by decide) (wT hW hthis) (fun _ => rfl) ?_
  refine V_iload_n 4 1 rfl rfl rfl ?_
  obtain ⟨hin, h⟩ := h
  refine V_iast 5 rfl (wT_a1 hW hthis) hin ?_
  refine V_nm (fun σ2 eσ2 => ?_)
  replace h := h σ2 eσ2
  have hW := wire_I eσ2 hW
  refine V_pc 10 rfl ?_
  refine V_aload_n 6 0 rfl rfl rfl ?_
  refine V_getR 7 2 rfl clX9 flX9_15 (by decide) (wT hW hthis) (fun _ => rfl) (wT_f2 hW hthis) ?_
  refine V_aload_n 8 0 rfl rfl rfl ?_
  refine V_get (v := .int (σ2.2.1 this 0)) 9 0 rfl clX9 flX9_27 (by decide) (wT hW hthis) (fun _ => rfl) ?_
  refine V_iload_n 10 2 rfl rfl rfl ?_
  obtain ⟨hin, h⟩ := h
  refine V_iast 11 rfl (wT_a2 hW hthis) hin ?_
  refine V_nm (fun σ3 eσ3 => ?_)
  replace h := h σ3 eσ3
  have hW := wire_I eσ3 hW
  refine V_pc 20 rfl ?_
  refine V_aload_n 12 0 rfl rfl rfl ?_
  refine V_getR 13 3 rfl clX9 flX9_18 (by decide) (wT hW hthis) (fun _ => rfl) (wT_f3 hW hthis) ?_
  refine V_aload_n 14 0 rfl rfl rfl ?_
  refine V_get (v := .int (σ3.2.1 this 0)) 15 0 rfl clX9 flX9_27 (by decide) (wT hW hthis) (fun _ => rfl) ?_
  refine V_iconst 16 (v := (0 : Int32)) rfl (by decide) ?_
  obtain ⟨hin, h⟩ := h
  refine V_iast 17 rfl (wT_a3 hW hthis) hin ?_
  refine V_nm (fun σ4 eσ4 => ?_)
  replace h := h σ4 eσ4
  have hW := wire_I eσ4 hW
  refine V_pc 30 rfl ?_
  refine V_aload_n 18 0 rfl rfl rfl ?_
  refine V_getR 19 4 rfl clX9 flX9_21 (by decide) (wT hW hthis) (fun _ => rfl) (wT_f4 hW hthis) ?_
  refine V_aload_n 20 0 rfl rfl rfl ?_
  refine V_get (v := .int (σ4.2.1 this 0)) 21 0 rfl clX9 flX9_27 (by decide) (wT hW hthis) (fun _ => rfl) ?_
  refine V_iconst 22 (v := (0 : Int32)) rfl (by decide) ?_
  obtain ⟨hin, h⟩ := h
  refine V_iast 23 rfl (wT_a4 hW hthis) hin ?_
  refine V_nm (fun σ5 eσ5 => ?_)
  replace h := h σ5 eσ5
  have hW := wire_I eσ5 hW
  refine V_pc 40 rfl ?_
  refine V_aload_n 24 0 rfl rfl rfl ?_
  refine V_getR 25 5 rfl clX9 flX9_24 (by decide) (wT hW hthis) (fun _ => rfl) (wT_f5 hW hthis) ?_
  refine V_aload_n 26 0 rfl rfl rfl ?_
  refine V_get (v := .int (σ5.2.1 this 0)) 27 0 rfl clX9 flX9_27 (by decide) (wT hW hthis) (fun _ => rfl) ?_
  refine V_iconst 28 (v := (4 : Int32)) rfl (by decide) ?_
  refine V_imul 29 rfl ?_
  refine V_pc 50 rfl ?_
  refine V_aload_n 30 0 rfl rfl rfl ?_
  refine V_get (v := .int (σ5.2.1 this 0)) 31 0 rfl clX9 flX9_27 (by decide) (wT hW hthis) (fun _ => rfl) ?_
  obtain ⟨hin, h⟩ := h
  refine V_iast 32 rfl (wT_a5 hW hthis) hin ?_
  refine V_nm (fun σ6 eσ6 => ?_)
  replace h := h σ6 eσ6
  have hW := wire_I eσ6 hW
  refine V_iload_n 33 2 rfl rfl rfl ?_
  refine V_iconst 34 (v := (-1 : Int32)) rfl (by decide) ?_
  refine V_icmp_eq 35 (tgt := 89) rfl (by decide) (fun hc => ?_) (fun hc => ?_)
  · replace h := h.1 hc
    refine V_sub [0] (lv' := [(0, .ref this)]) rfl ?_
    exact k_j89 σ6 hW h
  · replace h := h.2 hc
    refine V_pc 60 rfl ?_
    refine V_aload_n 36 0 rfl rfl rfl ?_
    refine V_getR 37 4 rfl clX9 flX9_21 (by decide) (wT hW hthis) (fun _ => rfl) (wT_f4 hW hthis) ?_
    refine V_iload_n 38 2 rfl rfl rfl ?_
    refine V_dup2 39 rfl rfl rfl ?_
    obtain ⟨hin, h⟩ := h
    refine V_iald 40 rfl (wT_a4 hW hthis) hin ?_
    refine V_iconst 41 (v := (1 : Int32)) rfl (by decide) ?_
    refine V_pc 68 rfl ?_
    refine V_iadd 42 rfl ?_
    obtain ⟨hin, h⟩ := h
    refine V_iast 43 rfl (wT_a4 hW hthis) hin ?_
    refine V_nm (fun σ7 eσ7 => ?_)
    replace h := h σ7 eσ7
    have hW := wire_I eσ7 hW
    refine V_aload_n 44 0 rfl rfl rfl ?_
    refine V_getR 45 5 rfl clX9 flX9_24 (by decide) (wT hW hthis) (fun _ => rfl) (wT_f5 hW hthis) ?_
    refine V_iload_n 46 2 rfl rfl rfl ?_
    refine V_iconst 47 (v := (4 : Int32)) rfl (by decide) ?_
    refine V_pc 76 rfl ?_
    refine V_imul 48 rfl ?_
    refine V_aload_n 49 0 rfl rfl rfl ?_
    refine V_getR 50 4 rfl clX9 flX9_21 (by decide) (wT hW hthis) (fun _ => rfl) (wT_f4 hW hthis) ?_
    refine V_iload_n 51 2 rfl rfl rfl ?_
    obtain ⟨hin, h⟩ := h
    refine V_iald 52 rfl (wT_a4 hW hthis) hin ?_
    refine V_iadd 53 rfl ?_
    refine V_pc 84 rfl ?_
    refine V_aload_n 54 0 rfl rfl rfl ?_
    refine V_get (v := .int (σ7.2.1 this 0)) 55 0 rfl clX9 flX9_27 (by decide) (wT hW hthis) (fun _ => rfl) ?_
    obtain ⟨hin, h⟩ := h
    refine V_iast 56 rfl (wT_a5 hW hthis) hin ?_
    refine V_nm (fun σ8 eσ8 => ?_)
    replace h := h σ8 eσ8
    have hW := wire_I eσ8 hW
    refine V_sub [0] (lv' := [(0, .ref this)]) rfl ?_
    exact k_j89 σ8 hW h

def wX10_readLiteral_j61 (Q : Int32 → ab_S → Prop) (E : String → ab_S → Prop) (y0 : Int32) (y1 : Int32) (s2 : Nat) (σ : ab_S) : Prop := vp_in y1 250 ∧ (∀ σ1 : ab_S, σ1 = ab_I σ s2 y1.toNatClampNeg y0 → wX6_advance (fun σ2 => Q (1 : Int32) σ2) E σ1)
def wX10_readLiteral  (Q : Int32 → ab_S → Prop) (E : String → ab_S → Prop) (σ : ab_S) : Prop := wX6_take (45 : Int32) (fun u4 σ3 => (((σ3.2.1 3 6) = (3 : Int32)) → ∃ q5, σ3.2.2.2 8 2 = some q5 ∧ isT q5 ∧ (∃ q6, σ3.2.2.2 8 2 = some q6 ∧ isT q6 ∧ (((u4 = 0) → wX10_readLiteral_j61 Q E (σ3.2.1 3 8) ((σ3.2.1 q6 0) - (1 : Int32)) (q5 + 3) σ3) ∧ (¬ (u4 = 0) → wX10_readLiteral_j61 Q E (-(σ3.2.1 3 8)) ((σ3.2.1 q6 0) - (1 : Int32)) (q5 + 3) σ3)))) ∧ (¬ ((σ3.2.1 3 6) = (3 : Int32)) → Q (0 : Int32) σ3)) E σ
set_option maxHeartbeats 4000000 in
set_option maxRecDepth 100000 in
theorem ceX10_readLiteral {l : Launch} (hl : l.stackTraces = false) (B : Nat)   {Q : Int32 → ab_S → Prop} {E : String → ab_S → Prop} {σ : ab_S} (hW : Wire σ) (h : wX10_readLiteral  Q E σ) : ab_Mt l yX10_readLiteral mdX10_readLiteral B 2 41 0 0 [.ref 8] σ (fun v σ' => Wire σ' ∧ ∃ r : Int32, v = some (.int r) ∧ Q r σ') (fun X σ' => Wire σ' ∧ E X σ') := by
  refine V_met hl ⟨rfl, rfl, by decide⟩ rfl dkX10_readLiteral (Nat.le_of_ble_eq_true rfl) ?_
  show V l mdX10_readLiteral B 2 41 0 0 (ab_End _ _) 0 [(0, .ref 8)] [] σ
  revert h hW
  revert σ
  have k_j61 : ∀ (y0 : Int32) (y1 : Int32) (s2 : Nat) (hs2 : SH[s2]? = some (20, 250)) (σ : ab_S), Wire σ → wX10_readLiteral_j61 Q E y0 y1 s2 σ → V l mdX10_readLiteral B 2 41 0 0 (ab_End (fun v σ' => Wire σ' ∧ ∃ r : Int32, v = some (.int r) ∧ Q r σ') (fun X σ' => Wire σ' ∧ E X σ')) 61 [(0, .ref 8)] [.int y0, .int y1, .ref s2] σ := by
    intro y0 y1 s2 hs2 σ hW h
    obtain ⟨hin, h⟩ := h
    refine V_iast 30 rfl (wsh hW hs2) hin ?_
    refine V_nm (fun σ1 eσ1 => ?_)
    replace h := h σ1 eσ1
    have hW := wire_I eσ1 hW
    refine V_aload_n 31 0 rfl rfl rfl ?_
    refine V_getR 32 0 rfl clX10 flX10_9 (by decide) (wsh hW rfl) (fun _ => rfl) (wrf hW 17 rfl) ?_
    refine V_callV 33 0 (as := []) (rest := []) rfl mlX10_85 yvX6_advance rfl rfl clX6 (wsh hW rfl) (by decide) (by decide) (Nat.le_of_ble_eq_true rfl) (by decide) (by decide) (fun B9 => ceX6_advance hl B9 hW h) (fun X9 τ9 h9 => VX_out rfl h9) ?_
    rintro v9 σ2 ⟨hW, rfl, h⟩
    refine V_iconst 34 (v := (1 : Int32)) rfl (by decide) ?_
    exact V_zret 35 rfl rfl rfl ⟨hW, _, rfl, h⟩
  intro σ hW h
  refine V_aload_n 0 0 rfl rfl rfl ?_
  refine V_getR 1 0 rfl clX10 flX10_9 (by decide) (wsh hW rfl) (fun _ => rfl) (wrf hW 17 rfl) ?_
  refine V_bipush 2 (v := (45 : Int32)) rfl (by decide) ?_
  refine V_callV 3 1 (as := [.int (45 : Int32)]) (rest := []) rfl mlX10_56 yvX6_take rfl rfl clX6 (wsh hW rfl) (by decide) (by decide) (Nat.le_of_ble_eq_true rfl) (by decide) (by decide) (fun B9 => ceX6_take hl B9 hW h) (fun X9 τ9 h9 => VX_out rfl h9) ?_
  rintro v9 σ3 ⟨hW, u4, rfl, h⟩
  refine V_istore_n 4 (lv' := [(1, .int u4), (0, .ref 8)]) rfl rfl (by decide) rfl ?_
  refine V_aload_n 5 1 rfl rfl rfl ?_
  refine V_getR 6 0 rfl clX10 flX10_9 (by decide) (wsh hW rfl) (fun _ => rfl) (wrf hW 17 rfl) ?_
  refine V_get (v := .int (σ3.2.1 3 6)) 7 6 rfl clX6 flX10_63 (by decide) (wsh hW rfl) (fun _ => rfl) ?_
  refine V_iconst 8 (v := (3 : Int32)) rfl (by decide) ?_
  refine V_pc 18 rfl ?_
  refine V_icmp_eq 9 (tgt := 23) rfl (by decide) (fun hc => ?_) (fun hc => ?_)
  · replace h := h.1 hc
    refine V_aload_n 12 1 rfl rfl rfl ?_
    obtain ⟨q5, eq5, hq5, h⟩ := h
    refine V_getR 13 2 rfl clX10 flX10_19 (by decide) (wsh hW rfl) (fun _ => rfl) eq5 ?_
    refine V_getR 14 3 rfl clX9 flX10_95 (by decide) (wT hW hq5) (fun _ => rfl) (wT_f3 hW hq5) ?_
    refine V_aload_n 15 1 rfl rfl rfl ?_
    obtain ⟨q6, eq6, hq6, h⟩ := h
    refine V_getR 16 2 rfl clX10 flX10_19 (by decide) (wsh hW rfl) (fun _ => rfl) eq6 ?_
    refine V_get (v := .int (σ3.2.1 q6 0)) 17 0 rfl clX9 flX10_23 (by decide) (wT hW hq6) (fun _ => rfl) ?_
    refine V_pc 37 rfl ?_
    refine V_iconst 18 (v := (1 : Int32)) rfl (by decide) ?_
    refine V_isub 19 rfl ?_
    refine V_iload_n 20 0 rfl rfl rfl ?_
    refine V_if_eq 21 (tgt := 54) rfl (by decide) (fun hc => ?_) (fun hc => ?_)
    · replace h := h.1 hc
      refine V_aload_n 27 1 rfl rfl rfl ?_
      refine V_getR 28 0 rfl clX10 flX10_9 (by decide) (wsh hW rfl) (fun _ => rfl) (wrf hW 17 rfl) ?_
      refine V_get (v := .int (σ3.2.1 3 8)) 29 8 rfl clX6 flX10_97 (by decide) (wsh hW rfl) (fun _ => rfl) ?_
      refine V_sub [1] (lv' := [(0, .ref 8)]) rfl ?_
      exact k_j61 (σ3.2.1 3 8) ((σ3.2.1 q6 0) - (1 : Int32)) (q5 + 3) (wT_s3 hq5) σ3 hW h
    · replace h := h.2 hc
      refine V_pc 43 rfl ?_
      refine V_aload_n 22 1 rfl rfl rfl ?_
      refine V_getR 23 0 rfl clX10 flX10_9 (by decide) (wsh hW rfl) (fun _ => rfl) (wrf hW 17 rfl) ?_
      refine V_get (v := .int (σ3.2.1 3 8)) 24 8 rfl clX6 flX10_97 (by decide) (wsh hW rfl) (fun _ => rfl) ?_
      refine V_ineg 25 rfl ?_
      refine V_goto 26 (tgt := 61) rfl (by decide) ?_
      refine V_sub [1] (lv' := [(0, .ref 8)]) rfl ?_
      exact k_j61 (-(σ3.2.1 3 8)) ((σ3.2.1 q6 0) - (1 : Int32)) (q5 + 3) (wT_s3 hq5) σ3 hW h
  · replace h := h.2 hc
    refine V_pc 21 rfl ?_
    refine V_iconst 10 (v := (0 : Int32)) rfl (by decide) ?_
    exact V_zret 11 rfl rfl rfl ⟨hW, _, rfl, h⟩

def wX10_readHead_j134 (Q : Int32 → ab_S → Prop) (E : String → ab_S → Prop)  (σ : ab_S) : Prop := Q (1 : Int32) σ
def wX10_readHead_j75 (Q : Int32 → ab_S → Prop) (E : String → ab_S → Prop) (x1 : Int32) (y0 : Int32) (σ : ab_S) : Prop := ((y0 = (-1 : Int32)) → Q (0 : Int32) σ) ∧ (¬ (y0 = (-1 : Int32)) → ∃ q1, σ.2.2.2 8 1 = some q1 ∧ isG q1 ∧ (wX0_symbolAt q1 y0 (0 : Int32) (fun u3 σ2 => ((u3 = x1) → ∃ q4, σ2.2.2.2 8 2 = some q4 ∧ isT q4 ∧ (wX9_add q4 y0 (σ2.2.1 8 3) (fun σ5 => wX6_advance (fun σ6 => ∃ q7, σ6.2.2.2 8 1 = some q7 ∧ isG q7 ∧ (vp_in y0 30 ∧ ((((σ6.2.1 (q7 + 8) y0.toNatClampNeg) = 0) → wX10_readHead_j134 Q E σ6) ∧ (¬ ((σ6.2.1 (q7 + 8) y0.toNatClampNeg) = 0) → wX10_readLiteral (fun u9 σ8 => ((u9 = 0) → Q (0 : Int32) σ8) ∧ (¬ (u9 = 0) → wX10_readHead_j134 Q E σ8)) E σ6)))) E σ5) E σ2)) ∧ (¬ (u3 = x1) → Q (0 : Int32) σ2)) E σ))
def wX10_readHead_j45 (Q : Int32 → ab_S → Prop) (E : String → ab_S → Prop) (y0 : Int32) (σ : ab_S) : Prop := ((¬ (σ.2.1 3 6) = (2 : Int32)) → wX10_readHead_j75 Q E y0 (-1 : Int32) σ) ∧ (¬ (¬ (σ.2.1 3 6) = (2 : Int32)) → ∃ q10, σ.2.2.2 8 1 = some q10 ∧ isG q10 ∧ (wX0_findProduction q10 (σ.2.2.1 3 9) (fun u12 σ11 => wX10_readHead_j75 Q E y0 u12 σ11) E σ))
def wX10_readHead  (Q : Int32 → ab_S → Prop) (E : String → ab_S → Prop) (σ : ab_S) : Prop := ((¬ (σ.2.1 8 3) = (-1 : Int32)) → ∃ q13, σ.2.2.2 8 1 = some q13 ∧ isG q13 ∧ (∃ q14, σ.2.2.2 8 2 = some q14 ∧ isT q14 ∧ (vp_in (σ.2.1 8 3) 250 ∧ (∃ q15, σ.2.2.2 8 2 = some q15 ∧ isT q15 ∧ (vp_in (σ.2.1 8 3) 250 ∧ (wX0_symbolAt q13 (σ.2.1 (q14 + 1) (σ.2.1 8 3).toNatClampNeg) ((σ.2.1 (q15 + 4) (σ.2.1 8 3).toNatClampNeg) + (1 : Int32)) (fun u17 σ16 => wX10_readHead_j45 Q E u17 σ16) E σ)))))) ∧ (¬ (¬ (σ.2.1 8 3) = (-1 : Int32)) → wX10_readHead_j45 Q E (0 : Int32) σ)
set_option maxHeartbeats 4000000 in
set_option maxRecDepth 100000 in
theorem ceX10_readHead {l : Launch} (hl : l.stackTraces = false) (B : Nat)   {Q : Int32 → ab_S → Prop} {E : String → ab_S → Prop} {σ : ab_S} (hW : Wire σ) (h : wX10_readHead  Q E σ) : ab_Mt l yX10_readHead mdX10_readHead B 3 62 0 0 [.ref 8] σ (fun v σ' => Wire σ' ∧ ∃ r : Int32, v = some (.int r) ∧ Q r σ') (fun X σ' => Wire σ' ∧ E X σ') := by
  refine V_met hl ⟨rfl, rfl, by decide⟩ rfl dkX10_readHead (Nat.le_of_ble_eq_true rfl) ?_
  show V l mdX10_readHead B 3 62 0 0 (ab_End _ _) 0 [(0, .ref 8)] [] σ
  revert h hW
  revert σ
  have k_j134 : ∀   (σ : ab_S), Wire σ → wX10_readHead_j134 Q E  σ → V l mdX10_readHead B 3 62 0 0 (ab_End (fun v σ' => Wire σ' ∧ ∃ r : Int32, v = some (.int r) ∧ Q r σ') (fun X σ' => Wire σ' ∧ E X σ')) 134 [] [] σ := by
    intro   σ hW h
    refine V_iconst 68 (v := (1 : Int32)) rfl (by decide) ?_
    refine V_goto 69 (tgt := 139) rfl (by decide) ?_
    exact V_zret 71 rfl rfl rfl ⟨hW, _, rfl, h⟩
  have k_j75 : ∀ (x1 : Int32) (y0 : Int32)  (σ : ab_S), Wire σ → wX10_readHead_j75 Q E x1 y0 σ → V l mdX10_readHead B 3 62 0 0 (ab_End (fun v σ' => Wire σ' ∧ ∃ r : Int32, v = some (.int r) ∧ Q r σ') (fun X σ' => Wire σ' ∧ E X σ')) 75 [(0, .ref 8), (1, .int x1)] [.int y0] σ := by
    intro x1 y0  σ hW h
    refine V_istore_n 37 (lv' := [(2, .int y0), (0, .ref 8), (1, .int x1)]) rfl rfl (by decide) rfl ?_
    refine V_iload_n 38 0 rfl rfl rfl ?_
    refine V_iconst 39 (v := (-1 : Int32)) rfl (by decide) ?_
    refine V_icmp_eq 40 (tgt := 94) rfl (by decide) (fun hc => ?_) (fun hc => ?_)
    · replace h := h.1 hc
      refine V_iconst 48 (v := (0 : Int32)) rfl (by decide) ?_
      exact V_zret 49 rfl rfl rfl ⟨hW, _, rfl, h⟩
    · replace h := h.2 hc
      refine V_pc 81 rfl ?_
      refine V_aload_n 41 1 rfl rfl rfl ?_
      obtain ⟨q1, eq1, hq1, h⟩ := h
      refine V_getR 42 1 rfl clX10 flX10_15 (by decide) (wsh hW rfl) (fun _ => rfl) eq1 ?_
      refine V_iload_n 43 0 rfl rfl rfl ?_
      refine V_iconst 44 (v := (0 : Int32)) rfl (by decide) ?_
      refine V_callV 45 2 (as := [.int y0, .int (0 : Int32)]) (rest := []) rfl mlX10_69 yvX0_symbolAt rfl rfl clX0 (wG hW hq1) (by decide) (by decide) (Nat.le_of_ble_eq_true rfl) (by decide) (by decide) (fun B9 => ceX0_symbolAt hl B9 hq1 hW h) (fun X9 τ9 h9 => VX_out rfl h9) ?_
      rintro v9 σ2 ⟨hW, u3, rfl, h⟩
      refine V_iload_n 46 2 rfl rfl rfl ?_
      refine V_icmp_eq 47 (tgt := 96) rfl (by decide) (fun hc => ?_) (fun hc => ?_)
      · replace h := h.1 hc
        refine V_aload_n 50 1 rfl rfl rfl ?_
        obtain ⟨q4, eq4, hq4, h⟩ := h
        refine V_getR 51 2 rfl clX10 flX10_19 (by decide) (wsh hW rfl) (fun _ => rfl) eq4 ?_
        refine V_iload_n 52 0 rfl rfl rfl ?_
        refine V_aload_n 53 1 rfl rfl rfl ?_
        refine V_get (v := .int (σ2.2.1 8 3)) 54 3 rfl clX10 flX10_41 (by decide) (wsh hW rfl) (fun _ => rfl) ?_
        refine V_callV 55 2 (as := [.int y0, .int (σ2.2.1 8 3)]) (rest := []) rfl mlX10_81 yvX9_add rfl rfl clX9 (wT hW hq4) (by decide) (by decide) (Nat.le_of_ble_eq_true rfl) (by decide) (by decide) (fun B9 => ceX9_add hl B9 hq4 hW h) (fun X9 τ9 h9 => VX_out rfl h9) ?_
        rintro v9 σ5 ⟨hW, rfl, h⟩
        refine V_aload_n 56 1 rfl rfl rfl ?_
        refine V_getR 57 0 rfl clX10 flX10_9 (by decide) (wsh hW rfl) (fun _ => rfl) (wrf hW 17 rfl) ?_
        refine V_callV 58 0 (as := []) (rest := []) rfl mlX10_85 yvX6_advance rfl rfl clX6 (wsh hW rfl) (by decide) (by decide) (Nat.le_of_ble_eq_true rfl) (by decide) (by decide) (fun B9 => ceX6_advance hl B9 hW h) (fun X9 τ9 h9 => VX_out rfl h9) ?_
        rintro v9 σ6 ⟨hW, rfl, h⟩
        refine V_aload_n 59 1 rfl rfl rfl ?_
        obtain ⟨q7, eq7, hq7, h⟩ := h
        refine V_getR 60 1 rfl clX10 flX10_15 (by decide) (wsh hW rfl) (fun _ => rfl) eq7 ?_
        refine V_getR 61 9 rfl clX0 flX10_88 (by decide) (wG hW hq7) (fun _ => rfl) (wG_f9 hW hq7) ?_
        refine V_iload_n 62 0 rfl rfl rfl ?_
        obtain ⟨hin, h⟩ := h
        refine V_zald 63 rfl (wG_a8 hW hq7) hin ?_
        refine V_pc 124 rfl ?_
        refine V_if_eq 64 (tgt := 134) rfl (by decide) (fun hc => ?_) (fun hc => ?_)
        · replace h := h.1 hc
          refine V_sub [] (lv' := []) rfl ?_
          exact k_j134 σ6 hW h
        · replace h := h.2 hc
          refine V_pc 127 rfl ?_
          refine V_aload_n 65 1 rfl rfl rfl ?_
          refine V_callV 66 0 (as := []) (rest := []) rfl mlX10_92 yvX10_readLiteral rfl rfl clX10 (wsh hW rfl) (by decide) (by decide) (Nat.le_of_ble_eq_true rfl) (by decide) (by decide) (fun B9 => ceX10_readLiteral hl B9 hW h) (fun X9 τ9 h9 => VX_out rfl h9) ?_
          rintro v9 σ8 ⟨hW, u9, rfl, h⟩
          refine V_if_eq 67 (tgt := 138) rfl (by decide) (fun hc => ?_) (fun hc => ?_)
          · replace h := h.1 hc
            refine V_iconst 70 (v := (0 : Int32)) rfl (by decide) ?_
            exact V_zret 71 rfl rfl rfl ⟨hW, _, rfl, h⟩
          · replace h := h.2 hc
            refine V_pc 134 rfl ?_
            refine V_sub [] (lv' := []) rfl ?_
            exact k_j134 σ8 hW h
      · replace h := h.2 hc
        refine V_pc 94 rfl ?_
        refine V_iconst 48 (v := (0 : Int32)) rfl (by decide) ?_
        exact V_zret 49 rfl rfl rfl ⟨hW, _, rfl, h⟩
  have k_j45 : ∀ (y0 : Int32)  (σ : ab_S), Wire σ → wX10_readHead_j45 Q E y0 σ → V l mdX10_readHead B 3 62 0 0 (ab_End (fun v σ' => Wire σ' ∧ ∃ r : Int32, v = some (.int r) ∧ Q r σ') (fun X σ' => Wire σ' ∧ E X σ')) 45 [(0, .ref 8)] [.int y0] σ := by
    intro y0  σ hW h
    refine V_istore_n 23 (lv' := [(1, .int y0), (0, .ref 8)]) rfl rfl (by decide) rfl ?_
    refine V_aload_n 24 1 rfl rfl rfl ?_
    refine V_getR 25 0 rfl clX10 flX10_9 (by decide) (wsh hW rfl) (fun _ => rfl) (wrf hW 17 rfl) ?_
    refine V_get (v := .int (σ.2.1 3 6)) 26 6 rfl clX6 flX10_63 (by decide) (wsh hW rfl) (fun _ => rfl) ?_
    refine V_iconst 27 (v := (2 : Int32)) rfl (by decide) ?_
    refine V_icmp_ne 28 (tgt := 74) rfl (by decide) (fun hc => ?_) (fun hc => ?_)
    · replace h := h.1 hc
      refine V_iconst 36 (v := (-1 : Int32)) rfl (by decide) ?_
      refine V_sub [1, 0] (lv' := [(0, .ref 8), (1, .int y0)]) rfl ?_
      exact k_j75 y0 (-1 : Int32) σ hW h
    · replace h := h.2 hc
      refine V_pc 57 rfl ?_
      refine V_aload_n 29 1 rfl rfl rfl ?_
      obtain ⟨q10, eq10, hq10, h⟩ := h
      refine V_getR 30 1 rfl clX10 flX10_15 (by decide) (wsh hW rfl) (fun _ => rfl) eq10 ?_
      refine V_aload_n 31 1 rfl rfl rfl ?_
      refine V_getR 32 0 rfl clX10 flX10_9 (by decide) (wsh hW rfl) (fun _ => rfl) (wrf hW 17 rfl) ?_
      refine V_get (v := .long (σ.2.2.1 3 9)) 33 9 rfl clX6 flX10_73 (by decide) (wsh hW rfl) (fun _ => rfl) ?_
      refine V_callV 34 1 (as := [.long (σ.2.2.1 3 9)]) (rest := []) rfl mlX10_77 yvX0_findProduction rfl rfl clX0 (wG hW hq10) (by decide) (by decide) (Nat.le_of_ble_eq_true rfl) (by decide) (by decide) (fun B9 => ceX0_findProduction hl B9 hq10 hW h) (fun X9 τ9 h9 => VX_out rfl h9) ?_
      rintro v9 σ11 ⟨hW, u12, rfl, h⟩
      refine V_goto 35 (tgt := 75) rfl (by decide) ?_
      refine V_sub [1, 0] (lv' := [(0, .ref 8), (1, .int y0)]) rfl ?_
      exact k_j75 y0 u12 σ11 hW h
  intro σ hW h
  refine V_aload_n 0 0 rfl rfl rfl ?_
  refine V_get (v := .int (σ.2.1 8 3)) 1 3 rfl clX10 flX10_41 (by decide) (wsh hW rfl) (fun _ => rfl) ?_
  refine V_iconst 2 (v := (-1 : Int32)) rfl (by decide) ?_
  refine V_icmp_ne 3 (tgt := 12) rfl (by decide) (fun hc => ?_) (fun hc => ?_)
  · replace h := h.1 hc
    refine V_aload_n 6 0 rfl rfl rfl ?_
    obtain ⟨q13, eq13, hq13, h⟩ := h
    refine V_getR 7 1 rfl clX10 flX10_15 (by decide) (wsh hW rfl) (fun _ => rfl) eq13 ?_
    refine V_aload_n 8 0 rfl rfl rfl ?_
    obtain ⟨q14, eq14, hq14, h⟩ := h
    refine V_getR 9 2 rfl clX10 flX10_19 (by decide) (wsh hW rfl) (fun _ => rfl) eq14 ?_
    refine V_getR 10 1 rfl clX9 flX10_53 (by decide) (wT hW hq14) (fun _ => rfl) (wT_f1 hW hq14) ?_
    refine V_aload_n 11 0 rfl rfl rfl ?_
    refine V_pc 24 rfl ?_
    refine V_get (v := .int (σ.2.1 8 3)) 12 3 rfl clX10 flX10_41 (by decide) (wsh hW rfl) (fun _ => rfl) ?_
    obtain ⟨hin, h⟩ := h
    refine V_iald 13 rfl (wT_a1 hW hq14) hin ?_
    refine V_aload_n 14 0 rfl rfl rfl ?_
    obtain ⟨q15, eq15, hq15, h⟩ := h
    refine V_getR 15 2 rfl clX10 flX10_19 (by decide) (wsh hW rfl) (fun _ => rfl) eq15 ?_
    refine V_getR 16 4 rfl clX9 flX10_66 (by decide) (wT hW hq15) (fun _ => rfl) (wT_f4 hW hq15) ?_
    refine V_aload_n 17 0 rfl rfl rfl ?_
    refine V_pc 36 rfl ?_
    refine V_get (v := .int (σ.2.1 8 3)) 18 3 rfl clX10 flX10_41 (by decide) (wsh hW rfl) (fun _ => rfl) ?_
    obtain ⟨hin, h⟩ := h
    refine V_iald 19 rfl (wT_a4 hW hq15) hin ?_
    refine V_iconst 20 (v := (1 : Int32)) rfl (by decide) ?_
    refine V_iadd 21 rfl ?_
    refine V_callV 22 2 (as := [.int (σ.2.1 (q14 + 1) (σ.2.1 8 3).toNatClampNeg), .int ((σ.2.1 (q15 + 4) (σ.2.1 8 3).toNatClampNeg) + (1 : Int32))]) (rest := []) rfl mlX10_69 yvX0_symbolAt rfl rfl clX0 (wG hW hq13) (by decide) (by decide) (Nat.le_of_ble_eq_true rfl) (by decide) (by decide) (fun B9 => ceX0_symbolAt hl B9 hq13 hW h) (fun X9 τ9 h9 => VX_out rfl h9) ?_
    rintro v9 σ16 ⟨hW, u17, rfl, h⟩
    exact k_j45 u17 σ16 hW h
  · replace h := h.2 hc
    refine V_pc 8 rfl ?_
    refine V_iconst 4 (v := (0 : Int32)) rfl (by decide) ?_
    refine V_goto 5 (tgt := 45) rfl (by decide) ?_
    exact k_j45 (0 : Int32) σ hW h

def wX10_closeFull_l2_b (Q : Int32 → ab_S → Prop) (E : String → ab_S → Prop) (Bk : Int32 → ab_S → Prop) (x1 : Int32) (σ : ab_S) : Prop := (((250 : Int32) ≤ x1) → Q (1 : Int32) σ) ∧ (¬ ((250 : Int32) ≤ x1) → (((σ.2.1 8 3) = (-1 : Int32)) → Q (1 : Int32) σ) ∧ (¬ ((σ.2.1 8 3) = (-1 : Int32)) → ∃ q1, σ.2.2.2 8 2 = some q1 ∧ isT q1 ∧ (vp_in (σ.2.1 8 3) 250 ∧ (∃ q2, σ.2.2.2 8 1 = some q2 ∧ isG q2 ∧ (∃ q3, σ.2.2.2 8 2 = some q3 ∧ isT q3 ∧ (vp_in (σ.2.1 8 3) 250 ∧ (vp_in (σ.2.1 (q3 + 1) (σ.2.1 8 3).toNatClampNeg) 30 ∧ ((((σ.2.1 (q2 + 6) (σ.2.1 (q3 + 1) (σ.2.1 8 3).toNatClampNeg).toNatClampNeg) ≤ (σ.2.1 (q1 + 4) (σ.2.1 8 3).toNatClampNeg)) → wX6_take (41 : Int32) (fun u5 σ4 => ((¬ u5 = 0) → ∃ q6, σ4.2.2.2 8 2 = some q6 ∧ isT q6 ∧ (vp_in (σ4.2.1 8 3) 250 ∧ ((∀ σ7 : ab_S, σ7 = ab_I σ4 8 3 (σ4.2.1 (q6 + 2) (σ4.2.1 8 3).toNatClampNeg) → ∀ v8 : Int32, v8 = (x1 + 1) → Bk v8 σ7)))) ∧ (¬ (¬ u5 = 0) → Q (0 : Int32) σ4)) E σ) ∧ (¬ ((σ.2.1 (q2 + 6) (σ.2.1 (q3 + 1) (σ.2.1 8 3).toNatClampNeg).toNatClampNeg) ≤ (σ.2.1 (q1 + 4) (σ.2.1 8 3).toNatClampNeg)) → Q (1 : Int32) σ)))))))))
def wX10_closeFull_l2 (Q : Int32 → ab_S → Prop) (E : String → ab_S → Prop) : Nat → Int32 → ab_S → Prop
  | 0, _, _ => False
  | n + 1, x1, σ => wX10_closeFull_l2_b Q E (wX10_closeFull_l2 Q E n) x1 σ
def wX10_closeFull  (Q : Int32 → ab_S → Prop) (E : String → ab_S → Prop) (σ : ab_S) : Prop := ∃ n, wX10_closeFull_l2 Q E n (0 : Int32) σ
set_option maxHeartbeats 4000000 in
set_option maxRecDepth 100000 in
theorem ceX10_closeFull {l : Launch} (hl : l.stackTraces = false) (B : Nat)   {Q : Int32 → ab_S → Prop} {E : String → ab_S → Prop} {σ : ab_S} (hW : Wire σ) (h : wX10_closeFull  Q E σ) : ab_Mt l yX10_closeFull mdX10_closeFull B 2 41 0 0 [.ref 8] σ (fun v σ' => Wire σ' ∧ ∃ r : Int32, v = some (.int r) ∧ Q r σ') (fun X σ' => Wire σ' ∧ E X σ') := by
  refine V_met hl ⟨rfl, rfl, by decide⟩ rfl dkX10_closeFull (Nat.le_of_ble_eq_true rfl) ?_
  show V l mdX10_closeFull B 2 41 0 0 (ab_End _ _) 0 [(0, .ref 8)] [] σ
  revert h hW
  revert σ
  have k_l2 : ∀ (n : Nat) (x1 : Int32)  (σ : ab_S), Wire σ → wX10_closeFull_l2 Q E n x1 σ → V l mdX10_closeFull B 2 41 0 0 (ab_End (fun v σ' => Wire σ' ∧ ∃ r : Int32, v = some (.int r) ∧ Q r σ') (fun X σ' => Wire σ' ∧ E X σ')) 2 [(0, .ref 8), (1, .int x1)] [] σ := by
    have step : ∀ (Bk : Int32 → ab_S → Prop) (k_Bk : ∀ (x1 : Int32)  (σ : ab_S), Wire σ → Bk x1 σ → V l mdX10_closeFull B 2 41 0 0 (ab_End (fun v σ' => Wire σ' ∧ ∃ r : Int32, v = some (.int r) ∧ Q r σ') (fun X σ' => Wire σ' ∧ E X σ')) 2 [(0, .ref 8), (1, .int x1)] [] σ), ∀ (x1 : Int32)  (σ : ab_S), Wire σ → wX10_closeFull_l2_b Q E Bk x1 σ → V l mdX10_closeFull B 2 41 0 0 (ab_End (fun v σ' => Wire σ' ∧ ∃ r : Int32, v = some (.int r) ∧ Q r σ') (fun X σ' => Wire σ' ∧ E X σ')) 2 [(0, .ref 8), (1, .int x1)] [] σ := by
      intro Bk k_Bk
      intro x1  σ hW h
      refine V_iload_n 2 1 rfl rfl rfl ?_
      refine V_sipush 3 (v := (250 : Int32)) rfl (by decide) ?_
      refine V_icmp_ge 4 (tgt := 90) rfl (by decide) (fun hc => ?_) (fun hc => ?_)
      · replace h := h.1 hc
        refine V_iconst 45 (v := (1 : Int32)) rfl (by decide) ?_
        exact V_zret 46 rfl rfl rfl ⟨hW, _, rfl, h⟩
      · replace h := h.2 hc
        refine V_pc 9 rfl ?_
        refine V_aload_n 5 0 rfl rfl rfl ?_
        refine V_get (v := .int (σ.2.1 8 3)) 6 3 rfl clX10 flX10_41 (by decide) (wsh hW rfl) (fun _ => rfl) ?_
        refine V_iconst 7 (v := (-1 : Int32)) rfl (by decide) ?_
        refine V_icmp_eq 8 (tgt := 90) rfl (by decide) (fun hc => ?_) (fun hc => ?_)
        · replace h := h.1 hc
          refine V_iconst 45 (v := (1 : Int32)) rfl (by decide) ?_
          exact V_zret 46 rfl rfl rfl ⟨hW, _, rfl, h⟩
        · replace h := h.2 hc
          refine V_pc 17 rfl ?_
          refine V_aload_n 9 0 rfl rfl rfl ?_
          obtain ⟨q1, eq1, hq1, h⟩ := h
          refine V_getR 10 2 rfl clX10 flX10_19 (by decide) (wsh hW rfl) (fun _ => rfl) eq1 ?_
          refine V_getR 11 4 rfl clX9 flX10_66 (by decide) (wT hW hq1) (fun _ => rfl) (wT_f4 hW hq1) ?_
          refine V_aload_n 12 0 rfl rfl rfl ?_
          refine V_get (v := .int (σ.2.1 8 3)) 13 3 rfl clX10 flX10_41 (by decide) (wsh hW rfl) (fun _ => rfl) ?_
          obtain ⟨hin, h⟩ := h
          refine V_iald 14 rfl (wT_a4 hW hq1) hin ?_
          refine V_pc 29 rfl ?_
          refine V_aload_n 15 0 rfl rfl rfl ?_
          obtain ⟨q2, eq2, hq2, h⟩ := h
          refine V_getR 16 1 rfl clX10 flX10_15 (by decide) (wsh hW rfl) (fun _ => rfl) eq2 ?_
          refine V_getR 17 7 rfl clX0 flX10_47 (by decide) (wG hW hq2) (fun _ => rfl) (wG_f7 hW hq2) ?_
          refine V_aload_n 18 0 rfl rfl rfl ?_
          obtain ⟨q3, eq3, hq3, h⟩ := h
          refine V_getR 19 2 rfl clX10 flX10_19 (by decide) (wsh hW rfl) (fun _ => rfl) eq3 ?_
          refine V_getR 20 1 rfl clX9 flX10_53 (by decide) (wT hW hq3) (fun _ => rfl) (wT_f1 hW hq3) ?_
          refine V_pc 43 rfl ?_
          refine V_aload_n 21 0 rfl rfl rfl ?_
          refine V_get (v := .int (σ.2.1 8 3)) 22 3 rfl clX10 flX10_41 (by decide) (wsh hW rfl) (fun _ => rfl) ?_
          obtain ⟨hin, h⟩ := h
          refine V_iald 23 rfl (wT_a1 hW hq3) hin ?_
          obtain ⟨hin, h⟩ := h
          refine V_iald 24 rfl (wG_a6 hW hq2) hin ?_
          refine V_icmp_ge 25 (tgt := 54) rfl (by decide) (fun hc => ?_) (fun hc => ?_)
          · replace h := h.1 hc
            refine V_aload_n 28 0 rfl rfl rfl ?_
            refine V_getR 29 0 rfl clX10 flX10_9 (by decide) (wsh hW rfl) (fun _ => rfl) (wrf hW 17 rfl) ?_
            refine V_bipush 30 (v := (41 : Int32)) rfl (by decide) ?_
            refine V_callV 31 1 (as := [.int (41 : Int32)]) (rest := []) rfl mlX10_56 yvX6_take rfl rfl clX6 (wsh hW rfl) (by decide) (by decide) (Nat.le_of_ble_eq_true rfl) (by decide) (by decide) (fun B9 => ceX6_take hl B9 hW h) (fun X9 τ9 h9 => VX_out rfl h9) ?_
            rintro v9 σ4 ⟨hW, u5, rfl, h⟩
            refine V_if_ne 32 (tgt := 68) rfl (by decide) (fun hc => ?_) (fun hc => ?_)
            · replace h := h.1 hc
              refine V_aload_n 35 0 rfl rfl rfl ?_
              refine V_aload_n 36 0 rfl rfl rfl ?_
              obtain ⟨q6, eq6, hq6, h⟩ := h
              refine V_getR 37 2 rfl clX10 flX10_19 (by decide) (wsh hW rfl) (fun _ => rfl) eq6 ?_
              refine V_getR 38 2 rfl clX9 flX10_100 (by decide) (wT hW hq6) (fun _ => rfl) (wT_f2 hW hq6) ?_
              refine V_aload_n 39 0 rfl rfl rfl ?_
              refine V_get (v := .int (σ4.2.1 8 3)) 40 3 rfl clX10 flX10_41 (by decide) (wsh hW rfl) (fun _ => rfl) ?_
              refine V_pc 80 rfl ?_
              obtain ⟨hin, h⟩ := h
              refine V_iald 41 rfl (wT_a2 hW hq6) hin ?_
              refine V_putI 42 3 rfl clX10 flX10_41 (by decide) (wsh hW rfl) rfl (fun _ _ => rfl) rfl rfl ?_
              refine V_nm (fun σ7 eσ7 => ?_)
              replace h := h σ7 eσ7
              have hW := wire_I eσ7 hW
              obtain ⟨v8, ev8⟩ : ∃ z : Int32, z = (x1 + 1) := ⟨_, rfl⟩
              replace h := h v8 ev8
              refine V_iinc 43 1 (v := v8) (lv' := [(1, .int v8), (0, .ref 8)]) rfl rfl ((in_1 _).trans ev8.symm) (by decide) rfl ?_
              refine V_goto 44 (tgt := 2) rfl (by decide) ?_
              refine V_sub [1, 0] (lv' := [(0, .ref 8), (1, .int v8)]) rfl ?_
              exact k_Bk v8  σ7 hW h
            · replace h := h.2 hc
              refine V_pc 66 rfl ?_
              refine V_iconst 33 (v := (0 : Int32)) rfl (by decide) ?_
              exact V_zret 34 rfl rfl rfl ⟨hW, _, rfl, h⟩
          · replace h := h.2 hc
            refine V_pc 52 rfl ?_
            refine V_iconst 26 (v := (1 : Int32)) rfl (by decide) ?_
            exact V_zret 27 rfl rfl rfl ⟨hW, _, rfl, h⟩
    intro n
    induction n with
    | zero => intro x1  σ hW h; exact absurd h id
    | succ n ih => exact step  _ ih
  intro σ hW h
  refine V_iconst 0 (v := (0 : Int32)) rfl (by decide) ?_
  refine V_istore_n 1 (lv' := [(1, .int (0 : Int32)), (0, .ref 8)]) rfl rfl (by decide) rfl ?_
  refine V_sub [1, 0] (lv' := [(0, .ref 8), (1, .int (0 : Int32))]) rfl ?_
  obtain ⟨n, h⟩ := h
  exact k_l2 n (0 : Int32) σ hW h
