/-! ===== the constructors ===== -/
def WRr : List (Nat × Nat × Nat) := [(92, 96, 162), (92, 95, 161), (92, 94, 160), (92, 93, 159), (92, 92, 158), (92, 91, 157), (92, 89, 156), (92, 88, 155), (92, 87, 154), (92, 82, 153), (92, 81, 152), (92, 80, 151), (92, 79, 150), (92, 78, 149), (92, 77, 148), (92, 76, 147), (92, 75, 146), (92, 73, 145), (92, 72, 144), (92, 71, 143), (92, 70, 142), (92, 69, 141), (92, 68, 140), (92, 67, 139), (92, 66, 138), (92, 65, 137), (92, 63, 136), (92, 62, 135), (92, 61, 134), (92, 60, 133), (92, 58, 132), (92, 57, 131), (92, 56, 130), (92, 55, 129), (92, 54, 128), (92, 50, 127), (92, 48, 126), (92, 47, 125), (92, 46, 124), (92, 39, 123), (92, 38, 122), (92, 37, 121), (92, 36, 120), (92, 35, 119), (92, 34, 118), (92, 33, 117), (92, 32, 116), (92, 31, 115), (92, 30, 114), (92, 29, 113), (92, 27, 112), (92, 26, 111), (92, 25, 110), (92, 24, 109), (92, 23, 108), (92, 22, 107), (92, 20, 106), (92, 19, 105), (92, 18, 104), (92, 17, 103), (92, 16, 102), (92, 15, 101), (92, 13, 100), (92, 12, 99), (92, 11, 98), (92, 10, 97), (92, 7, 96), (92, 5, 95), (92, 3, 94), (92, 1, 93), (0, 14, 86), (86, 5, 91), (86, 4, 90), (86, 3, 89), (86, 2, 88), (86, 1, 87), (0, 13, 80), (80, 5, 85), (80, 4, 84), (80, 3, 83), (80, 2, 82), (80, 1, 81), (0, 12, 62), (62, 19, 79), (62, 18, 78), (62, 17, 77), (62, 16, 76), (62, 15, 75), (62, 13, 74), (62, 12, 73), (62, 11, 72), (62, 10, 71), (62, 9, 70), (62, 8, 69), (62, 7, 68), (62, 6, 67), (62, 4, 66), (62, 3, 65), (62, 2, 64), (62, 1, 63), (0, 11, 44), (44, 19, 61), (44, 18, 60), (44, 17, 59), (44, 16, 58), (44, 15, 57), (44, 13, 56), (44, 12, 55), (44, 11, 54), (44, 10, 53), (44, 9, 52), (44, 8, 51), (44, 7, 50), (44, 6, 49), (44, 4, 48), (44, 3, 47), (44, 2, 46), (44, 1, 45), (0, 10, 43), (0, 9, 42), (0, 8, 35), (35, 0, 23), (35, 9, 41), (35, 8, 40), (35, 7, 39), (35, 6, 38), (35, 5, 37), (35, 4, 36), (0, 7, 28), (28, 0, 23), (28, 9, 34), (28, 8, 33), (28, 7, 32), (28, 6, 31), (28, 5, 30), (28, 4, 29), (0, 6, 23), (23, 1, 19), (23, 0, 11), (23, 6, 27), (23, 5, 26), (23, 4, 25), (23, 3, 24), (0, 5, 19), (19, 0, 11), (19, 4, 22), (19, 3, 21), (19, 2, 20), (0, 4, 11), (11, 6, 18), (11, 5, 17), (11, 4, 16), (11, 3, 15), (11, 2, 14), (11, 1, 13), (11, 0, 12), (0, 3, 9), (9, 0, 10), (0, 2, 8), (8, 0, 3), (0, 1, 7), (7, 0, 3), (3, 0, 1), (3, 3, 6), (3, 2, 5), (3, 1, 4), (0, 0, 1), (1, 0, 2)]
def WIr : List (Nat × Nat × Int32) := [(35, 1, 0), (28, 1, 1)]
def WLr : List (Nat × Nat × Int64) := [(94, 6, 183685), (94, 5, 464148), (94, 4, 201), (94, 3, 533), (94, 2, 482788), (94, 1, 418461491)]
def Rf : List (Nat × Nat × Nat) → Nat → Nat → Option Nat
  | [] => fun _ _ => none
  | (i, j, r) :: ws => fun a b => if a = i then (if b = j then some r else Rf ws i b) else Rf ws a b
def If : List (Nat × Nat × Int32) → Nat → Nat → Int32
  | [] => fun _ _ => 0
  | (i, j, r) :: ws => fun a b => if a = i then (if b = j then r else If ws i b) else If ws a b
def Lf : List (Nat × Nat × Int64) → Nat → Nat → Int64
  | [] => fun _ _ => 0
  | (i, j, r) :: ws => fun a b => if a = i then (if b = j then r else Lf ws i b) else Lf ws a b
/-- the heap when n things are there, a ints, b longs, m references written -/
def gst (n a b m : Nat) : ab_S := (SH.take n, If (WIr.drop (2 - a)), Lf (WLr.drop (6 - b)), Rf (WRr.drop (168 - m)))
theorem Rf_in {n : Nat} : ∀ (ws : List (Nat × Nat × Nat)), ws.all (fun q => decide (q.1 < n) && decide (q.2.2 < n)) = true → (∀ i k r, Rf ws i k = some r → r < n) ∧ ∀ i k, n ≤ i → Rf ws i k = none
  | [], _ => ⟨fun i k r h => by simp [Rf] at h, fun _ _ _ => rfl⟩
  | (i, j, r) :: ws, h => by
    simp only [List.all_cons, Bool.and_eq_true, decide_eq_true_eq] at h
    obtain ⟨h1, h2⟩ := Rf_in ws h.2
    refine ⟨fun a b z hz => ?_, fun a b hz => ?_⟩
    · simp only [Rf] at hz
      split at hz
      · split at hz
        · cases hz; exact h.1.2
        · exact h1 _ _ _ hz
      · exact h1 _ _ _ hz
    · simp only [Rf]
      rw [if_neg (by omega)]
      exact h2 a b hz
theorem If_in {n : Nat} : ∀ (ws : List (Nat × Nat × Int32)), ws.all (fun q => decide (q.1 < n)) = true → ∀ i k, n ≤ i → If ws i k = 0
  | [], _ => fun _ _ _ => rfl
  | (i, j, r) :: ws, h => by
    simp only [List.all_cons, Bool.and_eq_true, decide_eq_true_eq] at h
    intro a b hz
    simp only [If]
    rw [if_neg (by omega)]
    exact If_in ws h.2 a b hz
theorem Lf_in {n : Nat} : ∀ (ws : List (Nat × Nat × Int64)), ws.all (fun q => decide (q.1 < n)) = true → ∀ i k, n ≤ i → Lf ws i k = 0
  | [], _ => fun _ _ _ => rfl
  | (i, j, r) :: ws, h => by
    simp only [List.all_cons, Bool.and_eq_true, decide_eq_true_eq] at h
    intro a b hz
    simp only [Lf]
    rw [if_neg (by omega)]
    exact Lf_in ws h.2 a b hz
def gst_ok (n a b m : Nat) : Bool := decide (n ≤ 164) && (WIr.drop (2 - a)).all (fun q => decide (q.1 < n)) && (WLr.drop (6 - b)).all (fun q => decide (q.1 < n)) && (WRr.drop (168 - m)).all (fun q => decide (q.1 < n) && decide (q.2.2 < n))
theorem gst_wf (n a b m : Nat) (h : gst_ok n a b m = true) : ab_wf (gst n a b m) := by
  unfold gst_ok at h
  simp only [Bool.and_eq_true, decide_eq_true_eq] at h
  obtain ⟨⟨⟨h0, h1⟩, h2⟩, h3⟩ := h
  have hl : (gst n a b m).1.length = n := by
    show (SH.take n).length = n
    rw [List.length_take, show SH.length = 164 from rfl]
    omega
  obtain ⟨g1, g2⟩ := Rf_in _ h3
  refine ⟨fun i k r hr => ?_, fun i k hi => ⟨?_, ?_, ?_⟩, by omega⟩
  · rw [hl]; exact g1 i k r hr
  · exact If_in _ h1 i k (by omega)
  · exact Lf_in _ h2 i k (by omega)
  · exact g2 i k (by omega)
set_option maxHeartbeats 4000000 in
set_option maxRecDepth 100000 in
theorem ci1_X8_init {l : Launch} (hl : l.stackTraces = false) : ab_Mt l yX8_init mdX8_init 2 1 40 1 2400 [.ref 1] (gst 2 0 0 0) (fun v σ' => v = none ∧ σ' = (gst 3 0 0 1)) (fun _ _ => False) := by
  refine V_met hl ⟨rfl, rfl, by decide⟩ rfl dkX8_init (by decide) ?_
  show V l mdX8_init 2 1 40 1 2400 (ab_End _ _) 0 [(0, .ref 1)] [] (gst 2 0 0 0)
  refine V_aload_n 0 0 rfl rfl rfl ?_
  refine V_obj 1 rfl mlX8_3 oi_1 oi_2 (by decide) (Nat.le_of_ble_eq_true rfl) ?_
  refine V_aload_n 2 0 rfl rfl rfl ?_
  refine V_sipush 3 (v := (2400 : Int32)) rfl (by decide) ?_
  refine V_newa 4 3 (ty := .char) (c := 23) (N := 2400) rfl rfl (by decide) ac_char (fun _ => rfl) (fun _ _ => rfl) (fun _ _ => ⟨fun h9 => by first | exact absurd h9 (by decide) | rfl, fun h9 => by first | exact absurd rfl h9 | rfl⟩) (by decide) (by decide) (by decide) (gst_wf 2 0 0 0 (by decide +kernel)) (by decide +kernel) (by decide +kernel) (by decide +kernel) (by decide) (by decide) ?_
  show V l mdX8_init 2 1 40 0 0 (ab_End _ _) 10 [(0, .ref 1)] [.ref 2, .ref 1] (gst 3 0 0 0)
  refine V_putRF (x := some 2) 5 0 rfl clX8 flX8_9 (by decide) rfl rfl rfl rfl (fun _ _ => rfl) (fun v9 h9 => by rcases h9 with rfl | ⟨a9, rfl⟩ <;> exact ⟨rfl, rfl⟩) ?_
  show V l mdX8_init 2 1 40 0 0 (ab_End _ _) 13 [(0, .ref 1)] [] (gst 3 0 0 1)
  exact V_vret 6 rfl rfl ⟨rfl, rfl⟩
set_option maxHeartbeats 4000000 in
set_option maxRecDepth 100000 in
theorem ci2_X6_init {l : Launch} (hl : l.stackTraces = false) : ab_Mt l yX6_init mdX6_init 4 1 40 3 7203 [.ref 3, .ref 1] (gst 4 0 0 2) (fun v σ' => v = none ∧ σ' = (gst 7 0 0 6)) (fun _ _ => False) := by
  refine V_met hl ⟨rfl, rfl, by decide⟩ rfl dkX6_init (by decide) ?_
  show V l mdX6_init 4 1 40 3 7203 (ab_End _ _) 0 [(0, .ref 3), (1, .ref 1)] [] (gst 4 0 0 2)
  refine V_aload_n 0 0 rfl rfl rfl ?_
  refine V_obj 1 rfl mlX6_3 oi_1 oi_2 (by decide) (Nat.le_of_ble_eq_true rfl) ?_
  refine V_aload_n 2 0 rfl rfl rfl ?_
  refine V_sipush 3 (v := (2401 : Int32)) rfl (by decide) ?_
  refine V_newa 4 0 (ty := .int) (c := 20) (N := 2401) rfl rfl (by decide) ac_int (fun _ => rfl) (fun _ _ => rfl) (fun _ _ => ⟨fun h9 => by first | exact absurd h9 (by decide) | rfl, fun h9 => by first | exact absurd rfl h9 | rfl⟩) (by decide) (by decide) (by decide) (gst_wf 4 0 0 2 (by decide +kernel)) (by decide +kernel) (by decide +kernel) (by decide +kernel) (by decide) (by decide) ?_
  show V l mdX6_init 4 1 40 2 4802 (ab_End _ _) 10 [(0, .ref 3), (1, .ref 1)] [.ref 4, .ref 3] (gst 5 0 0 2)
  refine V_putRF (x := some 4) 5 1 rfl clX6 flX6_9 (by decide) rfl rfl rfl rfl (fun _ _ => rfl) (fun v9 h9 => by rcases h9 with rfl | ⟨a9, rfl⟩ <;> exact ⟨rfl, rfl⟩) ?_
  show V l mdX6_init 4 1 40 2 4802 (ab_End _ _) 13 [(0, .ref 3), (1, .ref 1)] [] (gst 5 0 0 3)
  refine V_aload_n 6 0 rfl rfl rfl ?_
  refine V_sipush 7 (v := (2401 : Int32)) rfl (by decide) ?_
  refine V_newa 8 0 (ty := .int) (c := 20) (N := 2401) rfl rfl (by decide) ac_int (fun _ => rfl) (fun _ _ => rfl) (fun _ _ => ⟨fun h9 => by first | exact absurd h9 (by decide) | rfl, fun h9 => by first | exact absurd rfl h9 | rfl⟩) (by decide) (by decide) (by decide) (gst_wf 5 0 0 3 (by decide +kernel)) (by decide +kernel) (by decide +kernel) (by decide +kernel) (by decide) (by decide) ?_
  show V l mdX6_init 4 1 40 1 2401 (ab_End _ _) 19 [(0, .ref 3), (1, .ref 1)] [.ref 5, .ref 3] (gst 6 0 0 3)
  refine V_putRF (x := some 5) 9 2 rfl clX6 flX6_15 (by decide) rfl rfl rfl rfl (fun _ _ => rfl) (fun v9 h9 => by rcases h9 with rfl | ⟨a9, rfl⟩ <;> exact ⟨rfl, rfl⟩) ?_
  show V l mdX6_init 4 1 40 1 2401 (ab_End _ _) 22 [(0, .ref 3), (1, .ref 1)] [] (gst 6 0 0 4)
  refine V_aload_n 10 0 rfl rfl rfl ?_
  refine V_sipush 11 (v := (2401 : Int32)) rfl (by decide) ?_
  refine V_newa 12 1 (ty := .long) (c := 21) (N := 2401) rfl rfl (by decide) ac_long (fun _ => rfl) (fun _ _ => rfl) (fun _ _ => ⟨fun h9 => by first | exact absurd h9 (by decide) | rfl, fun h9 => by first | exact absurd rfl h9 | rfl⟩) (by decide) (by decide) (by decide) (gst_wf 6 0 0 4 (by decide +kernel)) (by decide +kernel) (by decide +kernel) (by decide +kernel) (by decide) (by decide) ?_
  show V l mdX6_init 4 1 40 0 0 (ab_End _ _) 28 [(0, .ref 3), (1, .ref 1)] [.ref 6, .ref 3] (gst 7 0 0 4)
  refine V_putRF (x := some 6) 13 3 rfl clX6 flX6_18 (by decide) rfl rfl rfl rfl (fun _ _ => rfl) (fun v9 h9 => by rcases h9 with rfl | ⟨a9, rfl⟩ <;> exact ⟨rfl, rfl⟩) ?_
  show V l mdX6_init 4 1 40 0 0 (ab_End _ _) 31 [(0, .ref 3), (1, .ref 1)] [] (gst 7 0 0 5)
  refine V_aload_n 14 0 rfl rfl rfl ?_
  refine V_aload_n 15 1 rfl rfl rfl ?_
  refine V_putRF (x := some 1) 16 0 rfl clX6 flX6_22 (by decide) rfl rfl rfl rfl (fun _ _ => rfl) (fun v9 h9 => by rcases h9 with rfl | ⟨a9, rfl⟩ <;> exact ⟨rfl, rfl⟩) ?_
  show V l mdX6_init 4 1 40 0 0 (ab_End _ _) 36 [(0, .ref 3), (1, .ref 1)] [] (gst 7 0 0 6)
  exact V_vret 17 rfl rfl ⟨rfl, rfl⟩
set_option maxHeartbeats 4000000 in
set_option maxRecDepth 100000 in
theorem ci3_X1_init {l : Launch} (hl : l.stackTraces = false) : ab_Mt l yX1_init mdX1_init 8 1 40 0 0 [.ref 7, .ref 3] (gst 8 0 0 6) (fun v σ' => v = none ∧ σ' = (gst 8 0 0 7)) (fun _ _ => False) := by
  refine V_met hl ⟨rfl, rfl, by decide⟩ rfl dkX1_init (by decide) ?_
  show V l mdX1_init 8 1 40 0 0 (ab_End _ _) 0 [(0, .ref 7), (1, .ref 3)] [] (gst 8 0 0 6)
  refine V_aload_n 0 0 rfl rfl rfl ?_
  refine V_obj 1 rfl mlX1_3 oi_1 oi_2 (by decide) (Nat.le_of_ble_eq_true rfl) ?_
  refine V_aload_n 2 0 rfl rfl rfl ?_
  refine V_aload_n 3 1 rfl rfl rfl ?_
  refine V_putRF (x := some 3) 4 0 rfl clX1 flX1_9 (by decide) rfl rfl rfl rfl (fun _ _ => rfl) (fun v9 h9 => by rcases h9 with rfl | ⟨a9, rfl⟩ <;> exact ⟨rfl, rfl⟩) ?_
  show V l mdX1_init 8 1 40 0 0 (ab_End _ _) 9 [(0, .ref 7), (1, .ref 3)] [] (gst 8 0 0 7)
  exact V_vret 5 rfl rfl ⟨rfl, rfl⟩
set_option maxHeartbeats 4000000 in
set_option maxRecDepth 100000 in
theorem ci4_X10_init {l : Launch} (hl : l.stackTraces = false) : ab_Mt l yX10_init mdX10_init 9 1 40 0 0 [.ref 8, .ref 3] (gst 9 0 0 8) (fun v σ' => v = none ∧ σ' = (gst 9 0 0 9)) (fun _ _ => False) := by
  refine V_met hl ⟨rfl, rfl, by decide⟩ rfl dkX10_init (by decide) ?_
  show V l mdX10_init 9 1 40 0 0 (ab_End _ _) 0 [(0, .ref 8), (1, .ref 3)] [] (gst 9 0 0 8)
  refine V_aload_n 0 0 rfl rfl rfl ?_
  refine V_obj 1 rfl mlX10_3 oi_1 oi_2 (by decide) (Nat.le_of_ble_eq_true rfl) ?_
  refine V_aload_n 2 0 rfl rfl rfl ?_
  refine V_aload_n 3 1 rfl rfl rfl ?_
  refine V_putRF (x := some 3) 4 0 rfl clX10 flX10_9 (by decide) rfl rfl rfl rfl (fun _ _ => rfl) (fun v9 h9 => by rcases h9 with rfl | ⟨a9, rfl⟩ <;> exact ⟨rfl, rfl⟩) ?_
  show V l mdX10_init 9 1 40 0 0 (ab_End _ _) 9 [(0, .ref 8), (1, .ref 3)] [] (gst 9 0 0 9)
  exact V_vret 5 rfl rfl ⟨rfl, rfl⟩
set_option maxHeartbeats 4000000 in
set_option maxRecDepth 100000 in
theorem ci5_X3_init {l : Launch} (hl : l.stackTraces = false) : ab_Mt l yX3_init mdX3_init 10 1 40 1 960 [.ref 9] (gst 10 0 0 10) (fun v σ' => v = none ∧ σ' = (gst 11 0 0 11)) (fun _ _ => False) := by
  refine V_met hl ⟨rfl, rfl, by decide⟩ rfl dkX3_init (by decide) ?_
  show V l mdX3_init 10 1 40 1 960 (ab_End _ _) 0 [(0, .ref 9)] [] (gst 10 0 0 10)
  refine V_aload_n 0 0 rfl rfl rfl ?_
  refine V_obj 1 rfl mlX3_3 oi_1 oi_2 (by decide) (Nat.le_of_ble_eq_true rfl) ?_
  refine V_aload_n 2 0 rfl rfl rfl ?_
  refine V_sipush 3 (v := (960 : Int32)) rfl (by decide) ?_
  refine V_newa 4 0 (ty := .int) (c := 20) (N := 960) rfl rfl (by decide) ac_int (fun _ => rfl) (fun _ _ => rfl) (fun _ _ => ⟨fun h9 => by first | exact absurd h9 (by decide) | rfl, fun h9 => by first | exact absurd rfl h9 | rfl⟩) (by decide) (by decide) (by decide) (gst_wf 10 0 0 10 (by decide +kernel)) (by decide +kernel) (by decide +kernel) (by decide +kernel) (by decide) (by decide) ?_
  show V l mdX3_init 10 1 40 0 0 (ab_End _ _) 10 [(0, .ref 9)] [.ref 10, .ref 9] (gst 11 0 0 10)
  refine V_putRF (x := some 10) 5 0 rfl clX3 flX3_9 (by decide) rfl rfl rfl rfl (fun _ _ => rfl) (fun v9 h9 => by rcases h9 with rfl | ⟨a9, rfl⟩ <;> exact ⟨rfl, rfl⟩) ?_
  show V l mdX3_init 10 1 40 0 0 (ab_End _ _) 13 [(0, .ref 9)] [] (gst 11 0 0 11)
  exact V_vret 6 rfl rfl ⟨rfl, rfl⟩
set_option maxHeartbeats 4000000 in
set_option maxRecDepth 100000 in
theorem ci6_X4_init {l : Launch} (hl : l.stackTraces = false) : ab_Mt l yX4_init mdX4_init 12 1 40 7 6244 [.ref 11] (gst 12 0 0 12) (fun v σ' => v = none ∧ σ' = (gst 19 0 0 19)) (fun _ _ => False) := by
  refine V_met hl ⟨rfl, rfl, by decide⟩ rfl dkX4_init (by decide) ?_
  show V l mdX4_init 12 1 40 7 6244 (ab_End _ _) 0 [(0, .ref 11)] [] (gst 12 0 0 12)
  refine V_aload_n 0 0 rfl rfl rfl ?_
  refine V_obj 1 rfl mlX4_3 oi_1 oi_2 (by decide) (Nat.le_of_ble_eq_true rfl) ?_
  refine V_aload_n 2 0 rfl rfl rfl ?_
  refine V_sipush 3 (v := (1410 : Int32)) rfl (by decide) ?_
  refine V_newa 4 0 (ty := .int) (c := 20) (N := 1410) rfl rfl (by decide) ac_int (fun _ => rfl) (fun _ _ => rfl) (fun _ _ => ⟨fun h9 => by first | exact absurd h9 (by decide) | rfl, fun h9 => by first | exact absurd rfl h9 | rfl⟩) (by decide) (by decide) (by decide) (gst_wf 12 0 0 12 (by decide +kernel)) (by decide +kernel) (by decide +kernel) (by decide +kernel) (by decide) (by decide) ?_
  show V l mdX4_init 12 1 40 6 4834 (ab_End _ _) 10 [(0, .ref 11)] [.ref 12, .ref 11] (gst 13 0 0 12)
  refine V_putRF (x := some 12) 5 0 rfl clX4 flX4_9 (by decide) rfl rfl rfl rfl (fun _ _ => rfl) (fun v9 h9 => by rcases h9 with rfl | ⟨a9, rfl⟩ <;> exact ⟨rfl, rfl⟩) ?_
  show V l mdX4_init 12 1 40 6 4834 (ab_End _ _) 13 [(0, .ref 11)] [] (gst 13 0 0 13)
  refine V_aload_n 6 0 rfl rfl rfl ?_
  refine V_sipush 7 (v := (1410 : Int32)) rfl (by decide) ?_
  refine V_newa 8 0 (ty := .int) (c := 20) (N := 1410) rfl rfl (by decide) ac_int (fun _ => rfl) (fun _ _ => rfl) (fun _ _ => ⟨fun h9 => by first | exact absurd h9 (by decide) | rfl, fun h9 => by first | exact absurd rfl h9 | rfl⟩) (by decide) (by decide) (by decide) (gst_wf 13 0 0 13 (by decide +kernel)) (by decide +kernel) (by decide +kernel) (by decide +kernel) (by decide) (by decide) ?_
  show V l mdX4_init 12 1 40 5 3424 (ab_End _ _) 19 [(0, .ref 11)] [.ref 13, .ref 11] (gst 14 0 0 13)
  refine V_putRF (x := some 13) 9 1 rfl clX4 flX4_15 (by decide) rfl rfl rfl rfl (fun _ _ => rfl) (fun v9 h9 => by rcases h9 with rfl | ⟨a9, rfl⟩ <;> exact ⟨rfl, rfl⟩) ?_
  show V l mdX4_init 12 1 40 5 3424 (ab_End _ _) 22 [(0, .ref 11)] [] (gst 14 0 0 14)
  refine V_aload_n 10 0 rfl rfl rfl ?_
  refine V_sipush 11 (v := (1410 : Int32)) rfl (by decide) ?_
  refine V_newa 12 0 (ty := .int) (c := 20) (N := 1410) rfl rfl (by decide) ac_int (fun _ => rfl) (fun _ _ => rfl) (fun _ _ => ⟨fun h9 => by first | exact absurd h9 (by decide) | rfl, fun h9 => by first | exact absurd rfl h9 | rfl⟩) (by decide) (by decide) (by decide) (gst_wf 14 0 0 14 (by decide +kernel)) (by decide +kernel) (by decide +kernel) (by decide +kernel) (by decide) (by decide) ?_
  show V l mdX4_init 12 1 40 4 2014 (ab_End _ _) 28 [(0, .ref 11)] [.ref 14, .ref 11] (gst 15 0 0 14)
  refine V_putRF (x := some 14) 13 2 rfl clX4 flX4_18 (by decide) rfl rfl rfl rfl (fun _ _ => rfl) (fun v9 h9 => by rcases h9 with rfl | ⟨a9, rfl⟩ <;> exact ⟨rfl, rfl⟩) ?_
  show V l mdX4_init 12 1 40 4 2014 (ab_End _ _) 31 [(0, .ref 11)] [] (gst 15 0 0 15)
  refine V_aload_n 14 0 rfl rfl rfl ?_
  refine V_sipush 15 (v := (210 : Int32)) rfl (by decide) ?_
  refine V_newa 16 0 (ty := .int) (c := 20) (N := 210) rfl rfl (by decide) ac_int (fun _ => rfl) (fun _ _ => rfl) (fun _ _ => ⟨fun h9 => by first | exact absurd h9 (by decide) | rfl, fun h9 => by first | exact absurd rfl h9 | rfl⟩) (by decide) (by decide) (by decide) (gst_wf 15 0 0 15 (by decide +kernel)) (by decide +kernel) (by decide +kernel) (by decide +kernel) (by decide) (by decide) ?_
  show V l mdX4_init 12 1 40 3 1804 (ab_End _ _) 37 [(0, .ref 11)] [.ref 15, .ref 11] (gst 16 0 0 15)
  refine V_putRF (x := some 15) 17 3 rfl clX4 flX4_21 (by decide) rfl rfl rfl rfl (fun _ _ => rfl) (fun v9 h9 => by rcases h9 with rfl | ⟨a9, rfl⟩ <;> exact ⟨rfl, rfl⟩) ?_
  show V l mdX4_init 12 1 40 3 1804 (ab_End _ _) 40 [(0, .ref 11)] [] (gst 16 0 0 16)
  refine V_aload_n 18 0 rfl rfl rfl ?_
  refine V_sipush 19 (v := (960 : Int32)) rfl (by decide) ?_
  refine V_newa 20 0 (ty := .int) (c := 20) (N := 960) rfl rfl (by decide) ac_int (fun _ => rfl) (fun _ _ => rfl) (fun _ _ => ⟨fun h9 => by first | exact absurd h9 (by decide) | rfl, fun h9 => by first | exact absurd rfl h9 | rfl⟩) (by decide) (by decide) (by decide) (gst_wf 16 0 0 16 (by decide +kernel)) (by decide +kernel) (by decide +kernel) (by decide +kernel) (by decide) (by decide) ?_
  show V l mdX4_init 12 1 40 2 844 (ab_End _ _) 46 [(0, .ref 11)] [.ref 16, .ref 11] (gst 17 0 0 16)
  refine V_putRF (x := some 16) 21 4 rfl clX4 flX4_24 (by decide) rfl rfl rfl rfl (fun _ _ => rfl) (fun v9 h9 => by rcases h9 with rfl | ⟨a9, rfl⟩ <;> exact ⟨rfl, rfl⟩) ?_
  show V l mdX4_init 12 1 40 2 844 (ab_End _ _) 49 [(0, .ref 11)] [] (gst 17 0 0 17)
  refine V_aload_n 22 0 rfl rfl rfl ?_
  refine V_sipush 23 (v := (840 : Int32)) rfl (by decide) ?_
  refine V_newa 24 0 (ty := .int) (c := 20) (N := 840) rfl rfl (by decide) ac_int (fun _ => rfl) (fun _ _ => rfl) (fun _ _ => ⟨fun h9 => by first | exact absurd h9 (by decide) | rfl, fun h9 => by first | exact absurd rfl h9 | rfl⟩) (by decide) (by decide) (by decide) (gst_wf 17 0 0 17 (by decide +kernel)) (by decide +kernel) (by decide +kernel) (by decide +kernel) (by decide) (by decide) ?_
  show V l mdX4_init 12 1 40 1 4 (ab_End _ _) 55 [(0, .ref 11)] [.ref 17, .ref 11] (gst 18 0 0 17)
  refine V_putRF (x := some 17) 25 5 rfl clX4 flX4_27 (by decide) rfl rfl rfl rfl (fun _ _ => rfl) (fun v9 h9 => by rcases h9 with rfl | ⟨a9, rfl⟩ <;> exact ⟨rfl, rfl⟩) ?_
  show V l mdX4_init 12 1 40 1 4 (ab_End _ _) 58 [(0, .ref 11)] [] (gst 18 0 0 18)
  refine V_aload_n 26 0 rfl rfl rfl ?_
  refine V_iconst 27 (v := (4 : Int32)) rfl (by decide) ?_
  refine V_newa 28 0 (ty := .int) (c := 20) (N := 4) rfl rfl (by decide) ac_int (fun _ => rfl) (fun _ _ => rfl) (fun _ _ => ⟨fun h9 => by first | exact absurd h9 (by decide) | rfl, fun h9 => by first | exact absurd rfl h9 | rfl⟩) (by decide) (by decide) (by decide) (gst_wf 18 0 0 18 (by decide +kernel)) (by decide +kernel) (by decide +kernel) (by decide +kernel) (by decide) (by decide) ?_
  show V l mdX4_init 12 1 40 0 0 (ab_End _ _) 62 [(0, .ref 11)] [.ref 18, .ref 11] (gst 19 0 0 18)
  refine V_putRF (x := some 18) 29 6 rfl clX4 flX4_30 (by decide) rfl rfl rfl rfl (fun _ _ => rfl) (fun v9 h9 => by rcases h9 with rfl | ⟨a9, rfl⟩ <;> exact ⟨rfl, rfl⟩) ?_
  show V l mdX4_init 12 1 40 0 0 (ab_End _ _) 65 [(0, .ref 11)] [] (gst 19 0 0 19)
  exact V_vret 30 rfl rfl ⟨rfl, rfl⟩
set_option maxHeartbeats 4000000 in
set_option maxRecDepth 100000 in
theorem ci7_X7_init {l : Launch} (hl : l.stackTraces = false) : ab_Mt l yX7_init mdX7_init 20 1 40 3 1200 [.ref 19, .ref 11] (gst 20 0 0 20) (fun v σ' => v = none ∧ σ' = (gst 23 0 0 24)) (fun _ _ => False) := by
  refine V_met hl ⟨rfl, rfl, by decide⟩ rfl dkX7_init (by decide) ?_
  show V l mdX7_init 20 1 40 3 1200 (ab_End _ _) 0 [(0, .ref 19), (1, .ref 11)] [] (gst 20 0 0 20)
  refine V_aload_n 0 0 rfl rfl rfl ?_
  refine V_obj 1 rfl mlX7_3 oi_1 oi_2 (by decide) (Nat.le_of_ble_eq_true rfl) ?_
  refine V_aload_n 2 0 rfl rfl rfl ?_
  refine V_sipush 3 (v := (1008 : Int32)) rfl (by decide) ?_
  refine V_newa 4 0 (ty := .int) (c := 20) (N := 1008) rfl rfl (by decide) ac_int (fun _ => rfl) (fun _ _ => rfl) (fun _ _ => ⟨fun h9 => by first | exact absurd h9 (by decide) | rfl, fun h9 => by first | exact absurd rfl h9 | rfl⟩) (by decide) (by decide) (by decide) (gst_wf 20 0 0 20 (by decide +kernel)) (by decide +kernel) (by decide +kernel) (by decide +kernel) (by decide) (by decide) ?_
  show V l mdX7_init 20 1 40 2 192 (ab_End _ _) 10 [(0, .ref 19), (1, .ref 11)] [.ref 20, .ref 19] (gst 21 0 0 20)
  refine V_putRF (x := some 20) 5 2 rfl clX7 flX7_9 (by decide) rfl rfl rfl rfl (fun _ _ => rfl) (fun v9 h9 => by rcases h9 with rfl | ⟨a9, rfl⟩ <;> exact ⟨rfl, rfl⟩) ?_
  show V l mdX7_init 20 1 40 2 192 (ab_End _ _) 13 [(0, .ref 19), (1, .ref 11)] [] (gst 21 0 0 21)
  refine V_aload_n 6 0 rfl rfl rfl ?_
  refine V_bipush 7 (v := (96 : Int32)) rfl (by decide) ?_
  refine V_newa 8 0 (ty := .int) (c := 20) (N := 96) rfl rfl (by decide) ac_int (fun _ => rfl) (fun _ _ => rfl) (fun _ _ => ⟨fun h9 => by first | exact absurd h9 (by decide) | rfl, fun h9 => by first | exact absurd rfl h9 | rfl⟩) (by decide) (by decide) (by decide) (gst_wf 21 0 0 21 (by decide +kernel)) (by decide +kernel) (by decide +kernel) (by decide +kernel) (by decide) (by decide) ?_
  show V l mdX7_init 20 1 40 1 96 (ab_End _ _) 18 [(0, .ref 19), (1, .ref 11)] [.ref 21, .ref 19] (gst 22 0 0 21)
  refine V_putRF (x := some 21) 9 3 rfl clX7 flX7_15 (by decide) rfl rfl rfl rfl (fun _ _ => rfl) (fun v9 h9 => by rcases h9 with rfl | ⟨a9, rfl⟩ <;> exact ⟨rfl, rfl⟩) ?_
  show V l mdX7_init 20 1 40 1 96 (ab_End _ _) 21 [(0, .ref 19), (1, .ref 11)] [] (gst 22 0 0 22)
  refine V_aload_n 10 0 rfl rfl rfl ?_
  refine V_bipush 11 (v := (96 : Int32)) rfl (by decide) ?_
  refine V_newa 12 0 (ty := .int) (c := 20) (N := 96) rfl rfl (by decide) ac_int (fun _ => rfl) (fun _ _ => rfl) (fun _ _ => ⟨fun h9 => by first | exact absurd h9 (by decide) | rfl, fun h9 => by first | exact absurd rfl h9 | rfl⟩) (by decide) (by decide) (by decide) (gst_wf 22 0 0 22 (by decide +kernel)) (by decide +kernel) (by decide +kernel) (by decide +kernel) (by decide) (by decide) ?_
  show V l mdX7_init 20 1 40 0 0 (ab_End _ _) 26 [(0, .ref 19), (1, .ref 11)] [.ref 22, .ref 19] (gst 23 0 0 22)
  refine V_putRF (x := some 22) 13 4 rfl clX7 flX7_18 (by decide) rfl rfl rfl rfl (fun _ _ => rfl) (fun v9 h9 => by rcases h9 with rfl | ⟨a9, rfl⟩ <;> exact ⟨rfl, rfl⟩) ?_
  show V l mdX7_init 20 1 40 0 0 (ab_End _ _) 29 [(0, .ref 19), (1, .ref 11)] [] (gst 23 0 0 23)
  refine V_aload_n 14 0 rfl rfl rfl ?_
  refine V_aload_n 15 1 rfl rfl rfl ?_
  refine V_putRF (x := some 11) 16 0 rfl clX7 flX7_21 (by decide) rfl rfl rfl rfl (fun _ _ => rfl) (fun v9 h9 => by rcases h9 with rfl | ⟨a9, rfl⟩ <;> exact ⟨rfl, rfl⟩) ?_
  show V l mdX7_init 20 1 40 0 0 (ab_End _ _) 34 [(0, .ref 19), (1, .ref 11)] [] (gst 23 0 0 24)
  exact V_vret 17 rfl rfl ⟨rfl, rfl⟩
set_option maxHeartbeats 4000000 in
set_option maxRecDepth 100000 in
theorem ci8_X5_init {l : Launch} (hl : l.stackTraces = false) : ab_Mt l yX5_init mdX5_init 24 1 40 4 9210 [.ref 23, .ref 11, .ref 19] (gst 24 0 0 25) (fun v σ' => v = none ∧ σ' = (gst 28 0 0 31)) (fun _ _ => False) := by
  refine V_met hl ⟨rfl, rfl, by decide⟩ rfl dkX5_init (by decide) ?_
  show V l mdX5_init 24 1 40 4 9210 (ab_End _ _) 0 [(0, .ref 23), (1, .ref 11), (2, .ref 19)] [] (gst 24 0 0 25)
  refine V_aload_n 0 0 rfl rfl rfl ?_
  refine V_obj 1 rfl mlX5_3 oi_1 oi_2 (by decide) (Nat.le_of_ble_eq_true rfl) ?_
  refine V_aload_n 2 0 rfl rfl rfl ?_
  refine V_sipush 3 (v := (3000 : Int32)) rfl (by decide) ?_
  refine V_newa 4 0 (ty := .int) (c := 20) (N := 3000) rfl rfl (by decide) ac_int (fun _ => rfl) (fun _ _ => rfl) (fun _ _ => ⟨fun h9 => by first | exact absurd h9 (by decide) | rfl, fun h9 => by first | exact absurd rfl h9 | rfl⟩) (by decide) (by decide) (by decide) (gst_wf 24 0 0 25 (by decide +kernel)) (by decide +kernel) (by decide +kernel) (by decide +kernel) (by decide) (by decide) ?_
  show V l mdX5_init 24 1 40 3 6210 (ab_End _ _) 10 [(0, .ref 23), (1, .ref 11), (2, .ref 19)] [.ref 24, .ref 23] (gst 25 0 0 25)
  refine V_putRF (x := some 24) 5 3 rfl clX5 flX5_9 (by decide) rfl rfl rfl rfl (fun _ _ => rfl) (fun v9 h9 => by rcases h9 with rfl | ⟨a9, rfl⟩ <;> exact ⟨rfl, rfl⟩) ?_
  show V l mdX5_init 24 1 40 3 6210 (ab_End _ _) 13 [(0, .ref 23), (1, .ref 11), (2, .ref 19)] [] (gst 25 0 0 26)
  refine V_aload_n 6 0 rfl rfl rfl ?_
  refine V_sipush 7 (v := (3000 : Int32)) rfl (by decide) ?_
  refine V_newa 8 0 (ty := .int) (c := 20) (N := 3000) rfl rfl (by decide) ac_int (fun _ => rfl) (fun _ _ => rfl) (fun _ _ => ⟨fun h9 => by first | exact absurd h9 (by decide) | rfl, fun h9 => by first | exact absurd rfl h9 | rfl⟩) (by decide) (by decide) (by decide) (gst_wf 25 0 0 26 (by decide +kernel)) (by decide +kernel) (by decide +kernel) (by decide +kernel) (by decide) (by decide) ?_
  show V l mdX5_init 24 1 40 2 3210 (ab_End _ _) 19 [(0, .ref 23), (1, .ref 11), (2, .ref 19)] [.ref 25, .ref 23] (gst 26 0 0 26)
  refine V_putRF (x := some 25) 9 4 rfl clX5 flX5_15 (by decide) rfl rfl rfl rfl (fun _ _ => rfl) (fun v9 h9 => by rcases h9 with rfl | ⟨a9, rfl⟩ <;> exact ⟨rfl, rfl⟩) ?_
  show V l mdX5_init 24 1 40 2 3210 (ab_End _ _) 22 [(0, .ref 23), (1, .ref 11), (2, .ref 19)] [] (gst 26 0 0 27)
  refine V_aload_n 10 0 rfl rfl rfl ?_
  refine V_sipush 11 (v := (3000 : Int32)) rfl (by decide) ?_
  refine V_newa 12 0 (ty := .int) (c := 20) (N := 3000) rfl rfl (by decide) ac_int (fun _ => rfl) (fun _ _ => rfl) (fun _ _ => ⟨fun h9 => by first | exact absurd h9 (by decide) | rfl, fun h9 => by first | exact absurd rfl h9 | rfl⟩) (by decide) (by decide) (by decide) (gst_wf 26 0 0 27 (by decide +kernel)) (by decide +kernel) (by decide +kernel) (by decide +kernel) (by decide) (by decide) ?_
  show V l mdX5_init 24 1 40 1 210 (ab_End _ _) 28 [(0, .ref 23), (1, .ref 11), (2, .ref 19)] [.ref 26, .ref 23] (gst 27 0 0 27)
  refine V_putRF (x := some 26) 13 5 rfl clX5 flX5_18 (by decide) rfl rfl rfl rfl (fun _ _ => rfl) (fun v9 h9 => by rcases h9 with rfl | ⟨a9, rfl⟩ <;> exact ⟨rfl, rfl⟩) ?_
  show V l mdX5_init 24 1 40 1 210 (ab_End _ _) 31 [(0, .ref 23), (1, .ref 11), (2, .ref 19)] [] (gst 27 0 0 28)
  refine V_aload_n 14 0 rfl rfl rfl ?_
  refine V_sipush 15 (v := (210 : Int32)) rfl (by decide) ?_
  refine V_newa 16 0 (ty := .int) (c := 20) (N := 210) rfl rfl (by decide) ac_int (fun _ => rfl) (fun _ _ => rfl) (fun _ _ => ⟨fun h9 => by first | exact absurd h9 (by decide) | rfl, fun h9 => by first | exact absurd rfl h9 | rfl⟩) (by decide) (by decide) (by decide) (gst_wf 27 0 0 28 (by decide +kernel)) (by decide +kernel) (by decide +kernel) (by decide +kernel) (by decide) (by decide) ?_
  show V l mdX5_init 24 1 40 0 0 (ab_End _ _) 37 [(0, .ref 23), (1, .ref 11), (2, .ref 19)] [.ref 27, .ref 23] (gst 28 0 0 28)
  refine V_putRF (x := some 27) 17 6 rfl clX5 flX5_21 (by decide) rfl rfl rfl rfl (fun _ _ => rfl) (fun v9 h9 => by rcases h9 with rfl | ⟨a9, rfl⟩ <;> exact ⟨rfl, rfl⟩) ?_
  show V l mdX5_init 24 1 40 0 0 (ab_End _ _) 40 [(0, .ref 23), (1, .ref 11), (2, .ref 19)] [] (gst 28 0 0 29)
  refine V_aload_n 18 0 rfl rfl rfl ?_
  refine V_aload_n 19 1 rfl rfl rfl ?_
  refine V_putRF (x := some 11) 20 0 rfl clX5 flX5_24 (by decide) rfl rfl rfl rfl (fun _ _ => rfl) (fun v9 h9 => by rcases h9 with rfl | ⟨a9, rfl⟩ <;> exact ⟨rfl, rfl⟩) ?_
  show V l mdX5_init 24 1 40 0 0 (ab_End _ _) 45 [(0, .ref 23), (1, .ref 11), (2, .ref 19)] [] (gst 28 0 0 30)
  refine V_aload_n 21 0 rfl rfl rfl ?_
  refine V_aload_n 22 2 rfl rfl rfl ?_
  refine V_putRF (x := some 19) 23 1 rfl clX5 flX5_28 (by decide) rfl rfl rfl rfl (fun _ _ => rfl) (fun v9 h9 => by rcases h9 with rfl | ⟨a9, rfl⟩ <;> exact ⟨rfl, rfl⟩) ?_
  show V l mdX5_init 24 1 40 0 0 (ab_End _ _) 50 [(0, .ref 23), (1, .ref 11), (2, .ref 19)] [] (gst 28 0 0 31)
  exact V_vret 24 rfl rfl ⟨rfl, rfl⟩
set_option maxHeartbeats 4000000 in
set_option maxRecDepth 100000 in
theorem ci9_X2_init {l : Launch} (hl : l.stackTraces = false) : ab_Mt l yX2_init mdX2_init 29 1 40 6 2886 [.ref 28, .ref 23, .int (1 : Int32)] (gst 29 0 0 32) (fun v σ' => v = none ∧ σ' = (gst 35 1 0 39)) (fun _ _ => False) := by
  refine V_met hl ⟨rfl, rfl, by decide⟩ rfl dkX2_init (by decide) ?_
  show V l mdX2_init 29 1 40 6 2886 (ab_End _ _) 0 [(0, .ref 28), (1, .ref 23), (2, .int (1 : Int32))] [] (gst 29 0 0 32)
  refine V_aload_n 0 0 rfl rfl rfl ?_
  refine V_obj 1 rfl mlX2_3 oi_1 oi_2 (by decide) (Nat.le_of_ble_eq_true rfl) ?_
  refine V_aload_n 2 0 rfl rfl rfl ?_
  refine V_sipush 3 (v := (2000 : Int32)) rfl (by decide) ?_
  refine V_newa 4 1 (ty := .long) (c := 21) (N := 2000) rfl rfl (by decide) ac_long (fun _ => rfl) (fun _ _ => rfl) (fun _ _ => ⟨fun h9 => by first | exact absurd h9 (by decide) | rfl, fun h9 => by first | exact absurd rfl h9 | rfl⟩) (by decide) (by decide) (by decide) (gst_wf 29 0 0 32 (by decide +kernel)) (by decide +kernel) (by decide +kernel) (by decide +kernel) (by decide) (by decide) ?_
  show V l mdX2_init 29 1 40 5 886 (ab_End _ _) 10 [(0, .ref 28), (1, .ref 23), (2, .int (1 : Int32))] [.ref 29, .ref 28] (gst 30 0 0 32)
  refine V_putRF (x := some 29) 5 4 rfl clX2 flX2_9 (by decide) rfl rfl rfl rfl (fun _ _ => rfl) (fun v9 h9 => by rcases h9 with rfl | ⟨a9, rfl⟩ <;> exact ⟨rfl, rfl⟩) ?_
  show V l mdX2_init 29 1 40 5 886 (ab_End _ _) 13 [(0, .ref 28), (1, .ref 23), (2, .int (1 : Int32))] [] (gst 30 0 0 33)
  refine V_aload_n 6 0 rfl rfl rfl ?_
  refine V_bipush 7 (v := (96 : Int32)) rfl (by decide) ?_
  refine V_newa 8 1 (ty := .long) (c := 21) (N := 96) rfl rfl (by decide) ac_long (fun _ => rfl) (fun _ _ => rfl) (fun _ _ => ⟨fun h9 => by first | exact absurd h9 (by decide) | rfl, fun h9 => by first | exact absurd rfl h9 | rfl⟩) (by decide) (by decide) (by decide) (gst_wf 30 0 0 33 (by decide +kernel)) (by decide +kernel) (by decide +kernel) (by decide +kernel) (by decide) (by decide) ?_
  show V l mdX2_init 29 1 40 4 790 (ab_End _ _) 18 [(0, .ref 28), (1, .ref 23), (2, .int (1 : Int32))] [.ref 30, .ref 28] (gst 31 0 0 33)
  refine V_putRF (x := some 30) 9 5 rfl clX2 flX2_15 (by decide) rfl rfl rfl rfl (fun _ _ => rfl) (fun v9 h9 => by rcases h9 with rfl | ⟨a9, rfl⟩ <;> exact ⟨rfl, rfl⟩) ?_
  show V l mdX2_init 29 1 40 4 790 (ab_End _ _) 21 [(0, .ref 28), (1, .ref 23), (2, .int (1 : Int32))] [] (gst 31 0 0 34)
  refine V_aload_n 10 0 rfl rfl rfl ?_
  refine V_bipush 11 (v := (40 : Int32)) rfl (by decide) ?_
  refine V_newa 12 1 (ty := .long) (c := 21) (N := 40) rfl rfl (by decide) ac_long (fun _ => rfl) (fun _ _ => rfl) (fun _ _ => ⟨fun h9 => by first | exact absurd h9 (by decide) | rfl, fun h9 => by first | exact absurd rfl h9 | rfl⟩) (by decide) (by decide) (by decide) (gst_wf 31 0 0 34 (by decide +kernel)) (by decide +kernel) (by decide +kernel) (by decide +kernel) (by decide) (by decide) ?_
  show V l mdX2_init 29 1 40 3 750 (ab_End _ _) 26 [(0, .ref 28), (1, .ref 23), (2, .int (1 : Int32))] [.ref 31, .ref 28] (gst 32 0 0 34)
  refine V_putRF (x := some 31) 13 6 rfl clX2 flX2_18 (by decide) rfl rfl rfl rfl (fun _ _ => rfl) (fun v9 h9 => by rcases h9 with rfl | ⟨a9, rfl⟩ <;> exact ⟨rfl, rfl⟩) ?_
  show V l mdX2_init 29 1 40 3 750 (ab_End _ _) 29 [(0, .ref 28), (1, .ref 23), (2, .int (1 : Int32))] [] (gst 32 0 0 35)
  refine V_aload_n 14 0 rfl rfl rfl ?_
  refine V_sipush 15 (v := (250 : Int32)) rfl (by decide) ?_
  refine V_newa 16 0 (ty := .int) (c := 20) (N := 250) rfl rfl (by decide) ac_int (fun _ => rfl) (fun _ _ => rfl) (fun _ _ => ⟨fun h9 => by first | exact absurd h9 (by decide) | rfl, fun h9 => by first | exact absurd rfl h9 | rfl⟩) (by decide) (by decide) (by decide) (gst_wf 32 0 0 35 (by decide +kernel)) (by decide +kernel) (by decide +kernel) (by decide +kernel) (by decide) (by decide) ?_
  show V l mdX2_init 29 1 40 2 500 (ab_End _ _) 35 [(0, .ref 28), (1, .ref 23), (2, .int (1 : Int32))] [.ref 32, .ref 28] (gst 33 0 0 35)
  refine V_putRF (x := some 32) 17 7 rfl clX2 flX2_21 (by decide) rfl rfl rfl rfl (fun _ _ => rfl) (fun v9 h9 => by rcases h9 with rfl | ⟨a9, rfl⟩ <;> exact ⟨rfl, rfl⟩) ?_
  show V l mdX2_init 29 1 40 2 500 (ab_End _ _) 38 [(0, .ref 28), (1, .ref 23), (2, .int (1 : Int32))] [] (gst 33 0 0 36)
  refine V_aload_n 18 0 rfl rfl rfl ?_
  refine V_sipush 19 (v := (250 : Int32)) rfl (by decide) ?_
  refine V_newa 20 0 (ty := .int) (c := 20) (N := 250) rfl rfl (by decide) ac_int (fun _ => rfl) (fun _ _ => rfl) (fun _ _ => ⟨fun h9 => by first | exact absurd h9 (by decide) | rfl, fun h9 => by first | exact absurd rfl h9 | rfl⟩) (by decide) (by decide) (by decide) (gst_wf 33 0 0 36 (by decide +kernel)) (by decide +kernel) (by decide +kernel) (by decide +kernel) (by decide) (by decide) ?_
  show V l mdX2_init 29 1 40 1 250 (ab_End _ _) 44 [(0, .ref 28), (1, .ref 23), (2, .int (1 : Int32))] [.ref 33, .ref 28] (gst 34 0 0 36)
  refine V_putRF (x := some 33) 21 8 rfl clX2 flX2_25 (by decide) rfl rfl rfl rfl (fun _ _ => rfl) (fun v9 h9 => by rcases h9 with rfl | ⟨a9, rfl⟩ <;> exact ⟨rfl, rfl⟩) ?_
  show V l mdX2_init 29 1 40 1 250 (ab_End _ _) 47 [(0, .ref 28), (1, .ref 23), (2, .int (1 : Int32))] [] (gst 34 0 0 37)
  refine V_aload_n 22 0 rfl rfl rfl ?_
  refine V_sipush 23 (v := (250 : Int32)) rfl (by decide) ?_
  refine V_newa 24 0 (ty := .int) (c := 20) (N := 250) rfl rfl (by decide) ac_int (fun _ => rfl) (fun _ _ => rfl) (fun _ _ => ⟨fun h9 => by first | exact absurd h9 (by decide) | rfl, fun h9 => by first | exact absurd rfl h9 | rfl⟩) (by decide) (by decide) (by decide) (gst_wf 34 0 0 37 (by decide +kernel)) (by decide +kernel) (by decide +kernel) (by decide +kernel) (by decide) (by decide) ?_
  show V l mdX2_init 29 1 40 0 0 (ab_End _ _) 53 [(0, .ref 28), (1, .ref 23), (2, .int (1 : Int32))] [.ref 34, .ref 28] (gst 35 0 0 37)
  refine V_putRF (x := some 34) 25 9 rfl clX2 flX2_28 (by decide) rfl rfl rfl rfl (fun _ _ => rfl) (fun v9 h9 => by rcases h9 with rfl | ⟨a9, rfl⟩ <;> exact ⟨rfl, rfl⟩) ?_
  show V l mdX2_init 29 1 40 0 0 (ab_End _ _) 56 [(0, .ref 28), (1, .ref 23), (2, .int (1 : Int32))] [] (gst 35 0 0 38)
  refine V_aload_n 26 0 rfl rfl rfl ?_
  refine V_aload_n 27 1 rfl rfl rfl ?_
  refine V_putRF (x := some 23) 28 0 rfl clX2 flX2_31 (by decide) rfl rfl rfl rfl (fun _ _ => rfl) (fun v9 h9 => by rcases h9 with rfl | ⟨a9, rfl⟩ <;> exact ⟨rfl, rfl⟩) ?_
  show V l mdX2_init 29 1 40 0 0 (ab_End _ _) 61 [(0, .ref 28), (1, .ref 23), (2, .int (1 : Int32))] [] (gst 35 0 0 39)
  refine V_aload_n 29 0 rfl rfl rfl ?_
  refine V_iload_n 30 2 rfl rfl rfl ?_
  refine V_putIF 31 1 rfl clX2 flX2_35 (by decide) rfl rfl rfl rfl (fun _ _ => rfl) rfl rfl ?_
  show V l mdX2_init 29 1 40 0 0 (ab_End _ _) 66 [(0, .ref 28), (1, .ref 23), (2, .int (1 : Int32))] [] (gst 35 1 0 39)
  exact V_vret 32 rfl rfl ⟨rfl, rfl⟩
set_option maxHeartbeats 4000000 in
set_option maxRecDepth 100000 in
theorem ci10_X2_init {l : Launch} (hl : l.stackTraces = false) : ab_Mt l yX2_init mdX2_init 36 1 40 6 2886 [.ref 35, .ref 23, .int (0 : Int32)] (gst 36 1 0 40) (fun v σ' => v = none ∧ σ' = (gst 42 2 0 47)) (fun _ _ => False) := by
  refine V_met hl ⟨rfl, rfl, by decide⟩ rfl dkX2_init (by decide) ?_
  show V l mdX2_init 36 1 40 6 2886 (ab_End _ _) 0 [(0, .ref 35), (1, .ref 23), (2, .int (0 : Int32))] [] (gst 36 1 0 40)
  refine V_aload_n 0 0 rfl rfl rfl ?_
  refine V_obj 1 rfl mlX2_3 oi_1 oi_2 (by decide) (Nat.le_of_ble_eq_true rfl) ?_
  refine V_aload_n 2 0 rfl rfl rfl ?_
  refine V_sipush 3 (v := (2000 : Int32)) rfl (by decide) ?_
  refine V_newa 4 1 (ty := .long) (c := 21) (N := 2000) rfl rfl (by decide) ac_long (fun _ => rfl) (fun _ _ => rfl) (fun _ _ => ⟨fun h9 => by first | exact absurd h9 (by decide) | rfl, fun h9 => by first | exact absurd rfl h9 | rfl⟩) (by decide) (by decide) (by decide) (gst_wf 36 1 0 40 (by decide +kernel)) (by decide +kernel) (by decide +kernel) (by decide +kernel) (by decide) (by decide) ?_
  show V l mdX2_init 36 1 40 5 886 (ab_End _ _) 10 [(0, .ref 35), (1, .ref 23), (2, .int (0 : Int32))] [.ref 36, .ref 35] (gst 37 1 0 40)
  refine V_putRF (x := some 36) 5 4 rfl clX2 flX2_9 (by decide) rfl rfl rfl rfl (fun _ _ => rfl) (fun v9 h9 => by rcases h9 with rfl | ⟨a9, rfl⟩ <;> exact ⟨rfl, rfl⟩) ?_
  show V l mdX2_init 36 1 40 5 886 (ab_End _ _) 13 [(0, .ref 35), (1, .ref 23), (2, .int (0 : Int32))] [] (gst 37 1 0 41)
  refine V_aload_n 6 0 rfl rfl rfl ?_
  refine V_bipush 7 (v := (96 : Int32)) rfl (by decide) ?_
  refine V_newa 8 1 (ty := .long) (c := 21) (N := 96) rfl rfl (by decide) ac_long (fun _ => rfl) (fun _ _ => rfl) (fun _ _ => ⟨fun h9 => by first | exact absurd h9 (by decide) | rfl, fun h9 => by first | exact absurd rfl h9 | rfl⟩) (by decide) (by decide) (by decide) (gst_wf 37 1 0 41 (by decide +kernel)) (by decide +kernel) (by decide +kernel) (by decide +kernel) (by decide) (by decide) ?_
  show V l mdX2_init 36 1 40 4 790 (ab_End _ _) 18 [(0, .ref 35), (1, .ref 23), (2, .int (0 : Int32))] [.ref 37, .ref 35] (gst 38 1 0 41)
  refine V_putRF (x := some 37) 9 5 rfl clX2 flX2_15 (by decide) rfl rfl rfl rfl (fun _ _ => rfl) (fun v9 h9 => by rcases h9 with rfl | ⟨a9, rfl⟩ <;> exact ⟨rfl, rfl⟩) ?_
  show V l mdX2_init 36 1 40 4 790 (ab_End _ _) 21 [(0, .ref 35), (1, .ref 23), (2, .int (0 : Int32))] [] (gst 38 1 0 42)
  refine V_aload_n 10 0 rfl rfl rfl ?_
  refine V_bipush 11 (v := (40 : Int32)) rfl (by decide) ?_
  refine V_newa 12 1 (ty := .long) (c := 21) (N := 40) rfl rfl (by decide) ac_long (fun _ => rfl) (fun _ _ => rfl) (fun _ _ => ⟨fun h9 => by first | exact absurd h9 (by decide) | rfl, fun h9 => by first | exact absurd rfl h9 | rfl⟩) (by decide) (by decide) (by decide) (gst_wf 38 1 0 42 (by decide +kernel)) (by decide +kernel) (by decide +kernel) (by decide +kernel) (by decide) (by decide) ?_
  show V l mdX2_init 36 1 40 3 750 (ab_End _ _) 26 [(0, .ref 35), (1, .ref 23), (2, .int (0 : Int32))] [.ref 38, .ref 35] (gst 39 1 0 42)
  refine V_putRF (x := some 38) 13 6 rfl clX2 flX2_18 (by decide) rfl rfl rfl rfl (fun _ _ => rfl) (fun v9 h9 => by rcases h9 with rfl | ⟨a9, rfl⟩ <;> exact ⟨rfl, rfl⟩) ?_
  show V l mdX2_init 36 1 40 3 750 (ab_End _ _) 29 [(0, .ref 35), (1, .ref 23), (2, .int (0 : Int32))] [] (gst 39 1 0 43)
  refine V_aload_n 14 0 rfl rfl rfl ?_
  refine V_sipush 15 (v := (250 : Int32)) rfl (by decide) ?_
  refine V_newa 16 0 (ty := .int) (c := 20) (N := 250) rfl rfl (by decide) ac_int (fun _ => rfl) (fun _ _ => rfl) (fun _ _ => ⟨fun h9 => by first | exact absurd h9 (by decide) | rfl, fun h9 => by first | exact absurd rfl h9 | rfl⟩) (by decide) (by decide) (by decide) (gst_wf 39 1 0 43 (by decide +kernel)) (by decide +kernel) (by decide +kernel) (by decide +kernel) (by decide) (by decide) ?_
  show V l mdX2_init 36 1 40 2 500 (ab_End _ _) 35 [(0, .ref 35), (1, .ref 23), (2, .int (0 : Int32))] [.ref 39, .ref 35] (gst 40 1 0 43)
  refine V_putRF (x := some 39) 17 7 rfl clX2 flX2_21 (by decide) rfl rfl rfl rfl (fun _ _ => rfl) (fun v9 h9 => by rcases h9 with rfl | ⟨a9, rfl⟩ <;> exact ⟨rfl, rfl⟩) ?_
  show V l mdX2_init 36 1 40 2 500 (ab_End _ _) 38 [(0, .ref 35), (1, .ref 23), (2, .int (0 : Int32))] [] (gst 40 1 0 44)
  refine V_aload_n 18 0 rfl rfl rfl ?_
  refine V_sipush 19 (v := (250 : Int32)) rfl (by decide) ?_
  refine V_newa 20 0 (ty := .int) (c := 20) (N := 250) rfl rfl (by decide) ac_int (fun _ => rfl) (fun _ _ => rfl) (fun _ _ => ⟨fun h9 => by first | exact absurd h9 (by decide) | rfl, fun h9 => by first | exact absurd rfl h9 | rfl⟩) (by decide) (by decide) (by decide) (gst_wf 40 1 0 44 (by decide +kernel)) (by decide +kernel) (by decide +kernel) (by decide +kernel) (by decide) (by decide) ?_
  show V l mdX2_init 36 1 40 1 250 (ab_End _ _) 44 [(0, .ref 35), (1, .ref 23), (2, .int (0 : Int32))] [.ref 40, .ref 35] (gst 41 1 0 44)
  refine V_putRF (x := some 40) 21 8 rfl clX2 flX2_25 (by decide) rfl rfl rfl rfl (fun _ _ => rfl) (fun v9 h9 => by rcases h9 with rfl | ⟨a9, rfl⟩ <;> exact ⟨rfl, rfl⟩) ?_
  show V l mdX2_init 36 1 40 1 250 (ab_End _ _) 47 [(0, .ref 35), (1, .ref 23), (2, .int (0 : Int32))] [] (gst 41 1 0 45)
  refine V_aload_n 22 0 rfl rfl rfl ?_
  refine V_sipush 23 (v := (250 : Int32)) rfl (by decide) ?_
  refine V_newa 24 0 (ty := .int) (c := 20) (N := 250) rfl rfl (by decide) ac_int (fun _ => rfl) (fun _ _ => rfl) (fun _ _ => ⟨fun h9 => by first | exact absurd h9 (by decide) | rfl, fun h9 => by first | exact absurd rfl h9 | rfl⟩) (by decide) (by decide) (by decide) (gst_wf 41 1 0 45 (by decide +kernel)) (by decide +kernel) (by decide +kernel) (by decide +kernel) (by decide) (by decide) ?_
  show V l mdX2_init 36 1 40 0 0 (ab_End _ _) 53 [(0, .ref 35), (1, .ref 23), (2, .int (0 : Int32))] [.ref 41, .ref 35] (gst 42 1 0 45)
  refine V_putRF (x := some 41) 25 9 rfl clX2 flX2_28 (by decide) rfl rfl rfl rfl (fun _ _ => rfl) (fun v9 h9 => by rcases h9 with rfl | ⟨a9, rfl⟩ <;> exact ⟨rfl, rfl⟩) ?_
  show V l mdX2_init 36 1 40 0 0 (ab_End _ _) 56 [(0, .ref 35), (1, .ref 23), (2, .int (0 : Int32))] [] (gst 42 1 0 46)
  refine V_aload_n 26 0 rfl rfl rfl ?_
  refine V_aload_n 27 1 rfl rfl rfl ?_
  refine V_putRF (x := some 23) 28 0 rfl clX2 flX2_31 (by decide) rfl rfl rfl rfl (fun _ _ => rfl) (fun v9 h9 => by rcases h9 with rfl | ⟨a9, rfl⟩ <;> exact ⟨rfl, rfl⟩) ?_
  show V l mdX2_init 36 1 40 0 0 (ab_End _ _) 61 [(0, .ref 35), (1, .ref 23), (2, .int (0 : Int32))] [] (gst 42 1 0 47)
  refine V_aload_n 29 0 rfl rfl rfl ?_
  refine V_iload_n 30 2 rfl rfl rfl ?_
  refine V_putIF 31 1 rfl clX2 flX2_35 (by decide) rfl rfl rfl rfl (fun _ _ => rfl) rfl rfl ?_
  show V l mdX2_init 36 1 40 0 0 (ab_End _ _) 66 [(0, .ref 35), (1, .ref 23), (2, .int (0 : Int32))] [] (gst 42 2 0 47)
  exact V_vret 32 rfl rfl ⟨rfl, rfl⟩
set_option maxHeartbeats 4000000 in
set_option maxRecDepth 100000 in
theorem ci11_X0_init {l : Launch} (hl : l.stackTraces = false) : ab_Mt l yX0_init mdX0_init 45 1 40 17 8256 [.ref 44] (gst 45 2 0 50) (fun v σ' => v = none ∧ σ' = (gst 62 2 0 67)) (fun _ _ => False) := by
  refine V_met hl ⟨rfl, rfl, by decide⟩ rfl dkX0_init (by decide) ?_
  show V l mdX0_init 45 1 40 17 8256 (ab_End _ _) 0 [(0, .ref 44)] [] (gst 45 2 0 50)
  refine V_aload_n 0 0 rfl rfl rfl ?_
  refine V_obj 1 rfl mlX0_3 oi_1 oi_2 (by decide) (Nat.le_of_ble_eq_true rfl) ?_
  refine V_aload_n 2 0 rfl rfl rfl ?_
  refine V_bipush 3 (v := (12 : Int32)) rfl (by decide) ?_
  refine V_newa 4 1 (ty := .long) (c := 21) (N := 12) rfl rfl (by decide) ac_long (fun _ => rfl) (fun _ _ => rfl) (fun _ _ => ⟨fun h9 => by first | exact absurd h9 (by decide) | rfl, fun h9 => by first | exact absurd rfl h9 | rfl⟩) (by decide) (by decide) (by decide) (gst_wf 45 2 0 50 (by decide +kernel)) (by decide +kernel) (by decide +kernel) (by decide +kernel) (by decide) (by decide) ?_
  show V l mdX0_init 45 1 40 16 8244 (ab_End _ _) 9 [(0, .ref 44)] [.ref 45, .ref 44] (gst 46 2 0 50)
  refine V_putRF (x := some 45) 5 1 rfl clX0 flX0_9 (by decide) rfl rfl rfl rfl (fun _ _ => rfl) (fun v9 h9 => by rcases h9 with rfl | ⟨a9, rfl⟩ <;> exact ⟨rfl, rfl⟩) ?_
  show V l mdX0_init 45 1 40 16 8244 (ab_End _ _) 12 [(0, .ref 44)] [] (gst 46 2 0 51)
  refine V_aload_n 6 0 rfl rfl rfl ?_
  refine V_bipush 7 (v := (12 : Int32)) rfl (by decide) ?_
  refine V_newa 8 0 (ty := .int) (c := 20) (N := 12) rfl rfl (by decide) ac_int (fun _ => rfl) (fun _ _ => rfl) (fun _ _ => ⟨fun h9 => by first | exact absurd h9 (by decide) | rfl, fun h9 => by first | exact absurd rfl h9 | rfl⟩) (by decide) (by decide) (by decide) (gst_wf 46 2 0 51 (by decide +kernel)) (by decide +kernel) (by decide +kernel) (by decide +kernel) (by decide) (by decide) ?_
  show V l mdX0_init 45 1 40 15 8232 (ab_End _ _) 17 [(0, .ref 44)] [.ref 46, .ref 44] (gst 47 2 0 51)
  refine V_putRF (x := some 46) 9 2 rfl clX0 flX0_15 (by decide) rfl rfl rfl rfl (fun _ _ => rfl) (fun v9 h9 => by rcases h9 with rfl | ⟨a9, rfl⟩ <;> exact ⟨rfl, rfl⟩) ?_
  show V l mdX0_init 45 1 40 15 8232 (ab_End _ _) 20 [(0, .ref 44)] [] (gst 47 2 0 52)
  refine V_aload_n 10 0 rfl rfl rfl ?_
  refine V_bipush 11 (v := (12 : Int32)) rfl (by decide) ?_
  refine V_newa 12 0 (ty := .int) (c := 20) (N := 12) rfl rfl (by decide) ac_int (fun _ => rfl) (fun _ _ => rfl) (fun _ _ => ⟨fun h9 => by first | exact absurd h9 (by decide) | rfl, fun h9 => by first | exact absurd rfl h9 | rfl⟩) (by decide) (by decide) (by decide) (gst_wf 47 2 0 52 (by decide +kernel)) (by decide +kernel) (by decide +kernel) (by decide +kernel) (by decide) (by decide) ?_
  show V l mdX0_init 45 1 40 14 8220 (ab_End _ _) 25 [(0, .ref 44)] [.ref 47, .ref 44] (gst 48 2 0 52)
  refine V_putRF (x := some 47) 13 3 rfl clX0 flX0_19 (by decide) rfl rfl rfl rfl (fun _ _ => rfl) (fun v9 h9 => by rcases h9 with rfl | ⟨a9, rfl⟩ <;> exact ⟨rfl, rfl⟩) ?_
  show V l mdX0_init 45 1 40 14 8220 (ab_End _ _) 28 [(0, .ref 44)] [] (gst 48 2 0 53)
  refine V_aload_n 14 0 rfl rfl rfl ?_
  refine V_bipush 15 (v := (96 : Int32)) rfl (by decide) ?_
  refine V_newa 16 1 (ty := .long) (c := 21) (N := 96) rfl rfl (by decide) ac_long (fun _ => rfl) (fun _ _ => rfl) (fun _ _ => ⟨fun h9 => by first | exact absurd h9 (by decide) | rfl, fun h9 => by first | exact absurd rfl h9 | rfl⟩) (by decide) (by decide) (by decide) (gst_wf 48 2 0 53 (by decide +kernel)) (by decide +kernel) (by decide +kernel) (by decide +kernel) (by decide) (by decide) ?_
  show V l mdX0_init 45 1 40 13 8124 (ab_End _ _) 33 [(0, .ref 44)] [.ref 48, .ref 44] (gst 49 2 0 53)
  refine V_putRF (x := some 48) 17 4 rfl clX0 flX0_22 (by decide) rfl rfl rfl rfl (fun _ _ => rfl) (fun v9 h9 => by rcases h9 with rfl | ⟨a9, rfl⟩ <;> exact ⟨rfl, rfl⟩) ?_
  show V l mdX0_init 45 1 40 13 8124 (ab_End _ _) 36 [(0, .ref 44)] [] (gst 49 2 0 54)
  refine V_aload_n 18 0 rfl rfl rfl ?_
  refine V_bipush 19 (v := (30 : Int32)) rfl (by decide) ?_
  refine V_newa 20 1 (ty := .long) (c := 21) (N := 30) rfl rfl (by decide) ac_long (fun _ => rfl) (fun _ _ => rfl) (fun _ _ => ⟨fun h9 => by first | exact absurd h9 (by decide) | rfl, fun h9 => by first | exact absurd rfl h9 | rfl⟩) (by decide) (by decide) (by decide) (gst_wf 49 2 0 54 (by decide +kernel)) (by decide +kernel) (by decide +kernel) (by decide +kernel) (by decide) (by decide) ?_
  show V l mdX0_init 45 1 40 12 8094 (ab_End _ _) 41 [(0, .ref 44)] [.ref 49, .ref 44] (gst 50 2 0 54)
  refine V_putRF (x := some 49) 21 6 rfl clX0 flX0_25 (by decide) rfl rfl rfl rfl (fun _ _ => rfl) (fun v9 h9 => by rcases h9 with rfl | ⟨a9, rfl⟩ <;> exact ⟨rfl, rfl⟩) ?_
  show V l mdX0_init 45 1 40 12 8094 (ab_End _ _) 44 [(0, .ref 44)] [] (gst 50 2 0 55)
  refine V_aload_n 22 0 rfl rfl rfl ?_
  refine V_bipush 23 (v := (30 : Int32)) rfl (by decide) ?_
  refine V_newa 24 0 (ty := .int) (c := 20) (N := 30) rfl rfl (by decide) ac_int (fun _ => rfl) (fun _ _ => rfl) (fun _ _ => ⟨fun h9 => by first | exact absurd h9 (by decide) | rfl, fun h9 => by first | exact absurd rfl h9 | rfl⟩) (by decide) (by decide) (by decide) (gst_wf 50 2 0 55 (by decide +kernel)) (by decide +kernel) (by decide +kernel) (by decide +kernel) (by decide) (by decide) ?_
  show V l mdX0_init 45 1 40 11 8064 (ab_End _ _) 49 [(0, .ref 44)] [.ref 50, .ref 44] (gst 51 2 0 55)
  refine V_putRF (x := some 50) 25 7 rfl clX0 flX0_28 (by decide) rfl rfl rfl rfl (fun _ _ => rfl) (fun v9 h9 => by rcases h9 with rfl | ⟨a9, rfl⟩ <;> exact ⟨rfl, rfl⟩) ?_
  show V l mdX0_init 45 1 40 11 8064 (ab_End _ _) 52 [(0, .ref 44)] [] (gst 51 2 0 56)
  refine V_aload_n 26 0 rfl rfl rfl ?_
  refine V_bipush 27 (v := (120 : Int32)) rfl (by decide) ?_
  refine V_newa 28 0 (ty := .int) (c := 20) (N := 120) rfl rfl (by decide) ac_int (fun _ => rfl) (fun _ _ => rfl) (fun _ _ => ⟨fun h9 => by first | exact absurd h9 (by decide) | rfl, fun h9 => by first | exact absurd rfl h9 | rfl⟩) (by decide) (by decide) (by decide) (gst_wf 51 2 0 56 (by decide +kernel)) (by decide +kernel) (by decide +kernel) (by decide +kernel) (by decide) (by decide) ?_
  show V l mdX0_init 45 1 40 10 7944 (ab_End _ _) 57 [(0, .ref 44)] [.ref 51, .ref 44] (gst 52 2 0 56)
  refine V_putRF (x := some 51) 29 8 rfl clX0 flX0_31 (by decide) rfl rfl rfl rfl (fun _ _ => rfl) (fun v9 h9 => by rcases h9 with rfl | ⟨a9, rfl⟩ <;> exact ⟨rfl, rfl⟩) ?_
  show V l mdX0_init 45 1 40 10 7944 (ab_End _ _) 60 [(0, .ref 44)] [] (gst 52 2 0 57)
  refine V_aload_n 30 0 rfl rfl rfl ?_
  refine V_bipush 31 (v := (30 : Int32)) rfl (by decide) ?_
  refine V_newa 32 2 (ty := .boolean) (c := 22) (N := 30) rfl rfl (by decide) ac_boolean (fun _ => rfl) (fun _ _ => rfl) (fun _ _ => ⟨fun h9 => by first | exact absurd h9 (by decide) | rfl, fun h9 => by first | exact absurd rfl h9 | rfl⟩) (by decide) (by decide) (by decide) (gst_wf 52 2 0 57 (by decide +kernel)) (by decide +kernel) (by decide +kernel) (by decide +kernel) (by decide) (by decide) ?_
  show V l mdX0_init 45 1 40 9 7914 (ab_End _ _) 65 [(0, .ref 44)] [.ref 52, .ref 44] (gst 53 2 0 57)
  refine V_putRF (x := some 52) 33 9 rfl clX0 flX0_34 (by decide) rfl rfl rfl rfl (fun _ _ => rfl) (fun v9 h9 => by rcases h9 with rfl | ⟨a9, rfl⟩ <;> exact ⟨rfl, rfl⟩) ?_
  show V l mdX0_init 45 1 40 9 7914 (ab_End _ _) 68 [(0, .ref 44)] [] (gst 53 2 0 58)
  refine V_aload_n 34 0 rfl rfl rfl ?_
  refine V_bipush 35 (v := (30 : Int32)) rfl (by decide) ?_
  refine V_newa 36 0 (ty := .int) (c := 20) (N := 30) rfl rfl (by decide) ac_int (fun _ => rfl) (fun _ _ => rfl) (fun _ _ => ⟨fun h9 => by first | exact absurd h9 (by decide) | rfl, fun h9 => by first | exact absurd rfl h9 | rfl⟩) (by decide) (by decide) (by decide) (gst_wf 53 2 0 58 (by decide +kernel)) (by decide +kernel) (by decide +kernel) (by decide +kernel) (by decide) (by decide) ?_
  show V l mdX0_init 45 1 40 8 7884 (ab_End _ _) 73 [(0, .ref 44)] [.ref 53, .ref 44] (gst 54 2 0 58)
  refine V_putRF (x := some 53) 37 10 rfl clX0 flX0_38 (by decide) rfl rfl rfl rfl (fun _ _ => rfl) (fun v9 h9 => by rcases h9 with rfl | ⟨a9, rfl⟩ <;> exact ⟨rfl, rfl⟩) ?_
  show V l mdX0_init 45 1 40 8 7884 (ab_End _ _) 76 [(0, .ref 44)] [] (gst 54 2 0 59)
  refine V_aload_n 38 0 rfl rfl rfl ?_
  refine V_sipush 39 (v := (960 : Int32)) rfl (by decide) ?_
  refine V_newa 40 0 (ty := .int) (c := 20) (N := 960) rfl rfl (by decide) ac_int (fun _ => rfl) (fun _ _ => rfl) (fun _ _ => ⟨fun h9 => by first | exact absurd h9 (by decide) | rfl, fun h9 => by first | exact absurd rfl h9 | rfl⟩) (by decide) (by decide) (by decide) (gst_wf 54 2 0 59 (by decide +kernel)) (by decide +kernel) (by decide +kernel) (by decide +kernel) (by decide) (by decide) ?_
  show V l mdX0_init 45 1 40 7 6924 (ab_End _ _) 82 [(0, .ref 44)] [.ref 54, .ref 44] (gst 55 2 0 59)
  refine V_putRF (x := some 54) 41 11 rfl clX0 flX0_41 (by decide) rfl rfl rfl rfl (fun _ _ => rfl) (fun v9 h9 => by rcases h9 with rfl | ⟨a9, rfl⟩ <;> exact ⟨rfl, rfl⟩) ?_
  show V l mdX0_init 45 1 40 7 6924 (ab_End _ _) 85 [(0, .ref 44)] [] (gst 55 2 0 60)
  refine V_aload_n 42 0 rfl rfl rfl ?_
  refine V_sipush 43 (v := (960 : Int32)) rfl (by decide) ?_
  refine V_newa 44 0 (ty := .int) (c := 20) (N := 960) rfl rfl (by decide) ac_int (fun _ => rfl) (fun _ _ => rfl) (fun _ _ => ⟨fun h9 => by first | exact absurd h9 (by decide) | rfl, fun h9 => by first | exact absurd rfl h9 | rfl⟩) (by decide) (by decide) (by decide) (gst_wf 55 2 0 60 (by decide +kernel)) (by decide +kernel) (by decide +kernel) (by decide +kernel) (by decide) (by decide) ?_
  show V l mdX0_init 45 1 40 6 5964 (ab_End _ _) 91 [(0, .ref 44)] [.ref 55, .ref 44] (gst 56 2 0 60)
  refine V_putRF (x := some 55) 45 12 rfl clX0 flX0_44 (by decide) rfl rfl rfl rfl (fun _ _ => rfl) (fun v9 h9 => by rcases h9 with rfl | ⟨a9, rfl⟩ <;> exact ⟨rfl, rfl⟩) ?_
  show V l mdX0_init 45 1 40 6 5964 (ab_End _ _) 94 [(0, .ref 44)] [] (gst 56 2 0 61)
  refine V_aload_n 46 0 rfl rfl rfl ?_
  refine V_sipush 47 (v := (960 : Int32)) rfl (by decide) ?_
  refine V_newa 48 0 (ty := .int) (c := 20) (N := 960) rfl rfl (by decide) ac_int (fun _ => rfl) (fun _ _ => rfl) (fun _ _ => ⟨fun h9 => by first | exact absurd h9 (by decide) | rfl, fun h9 => by first | exact absurd rfl h9 | rfl⟩) (by decide) (by decide) (by decide) (gst_wf 56 2 0 61 (by decide +kernel)) (by decide +kernel) (by decide +kernel) (by decide +kernel) (by decide) (by decide) ?_
  show V l mdX0_init 45 1 40 5 5004 (ab_End _ _) 100 [(0, .ref 44)] [.ref 56, .ref 44] (gst 57 2 0 61)
  refine V_putRF (x := some 56) 49 13 rfl clX0 flX0_47 (by decide) rfl rfl rfl rfl (fun _ _ => rfl) (fun v9 h9 => by rcases h9 with rfl | ⟨a9, rfl⟩ <;> exact ⟨rfl, rfl⟩) ?_
  show V l mdX0_init 45 1 40 5 5004 (ab_End _ _) 103 [(0, .ref 44)] [] (gst 57 2 0 62)
  refine V_aload_n 50 0 rfl rfl rfl ?_
  refine V_sipush 51 (v := (2400 : Int32)) rfl (by decide) ?_
  refine V_newa 52 0 (ty := .int) (c := 20) (N := 2400) rfl rfl (by decide) ac_int (fun _ => rfl) (fun _ _ => rfl) (fun _ _ => ⟨fun h9 => by first | exact absurd h9 (by decide) | rfl, fun h9 => by first | exact absurd rfl h9 | rfl⟩) (by decide) (by decide) (by decide) (gst_wf 57 2 0 62 (by decide +kernel)) (by decide +kernel) (by decide +kernel) (by decide +kernel) (by decide) (by decide) ?_
  show V l mdX0_init 45 1 40 4 2604 (ab_End _ _) 109 [(0, .ref 44)] [.ref 57, .ref 44] (gst 58 2 0 62)
  refine V_putRF (x := some 57) 53 15 rfl clX0 flX0_50 (by decide) rfl rfl rfl rfl (fun _ _ => rfl) (fun v9 h9 => by rcases h9 with rfl | ⟨a9, rfl⟩ <;> exact ⟨rfl, rfl⟩) ?_
  show V l mdX0_init 45 1 40 4 2604 (ab_End _ _) 112 [(0, .ref 44)] [] (gst 58 2 0 63)
  refine V_aload_n 54 0 rfl rfl rfl ?_
  refine V_sipush 55 (v := (2400 : Int32)) rfl (by decide) ?_
  refine V_newa 56 0 (ty := .int) (c := 20) (N := 2400) rfl rfl (by decide) ac_int (fun _ => rfl) (fun _ _ => rfl) (fun _ _ => ⟨fun h9 => by first | exact absurd h9 (by decide) | rfl, fun h9 => by first | exact absurd rfl h9 | rfl⟩) (by decide) (by decide) (by decide) (gst_wf 58 2 0 63 (by decide +kernel)) (by decide +kernel) (by decide +kernel) (by decide +kernel) (by decide) (by decide) ?_
  show V l mdX0_init 45 1 40 3 204 (ab_End _ _) 118 [(0, .ref 44)] [.ref 58, .ref 44] (gst 59 2 0 63)
  refine V_putRF (x := some 58) 57 16 rfl clX0 flX0_53 (by decide) rfl rfl rfl rfl (fun _ _ => rfl) (fun v9 h9 => by rcases h9 with rfl | ⟨a9, rfl⟩ <;> exact ⟨rfl, rfl⟩) ?_
  show V l mdX0_init 45 1 40 3 204 (ab_End _ _) 121 [(0, .ref 44)] [] (gst 59 2 0 64)
  refine V_aload_n 58 0 rfl rfl rfl ?_
  refine V_bipush 59 (v := (96 : Int32)) rfl (by decide) ?_
  refine V_newa 60 0 (ty := .int) (c := 20) (N := 96) rfl rfl (by decide) ac_int (fun _ => rfl) (fun _ _ => rfl) (fun _ _ => ⟨fun h9 => by first | exact absurd h9 (by decide) | rfl, fun h9 => by first | exact absurd rfl h9 | rfl⟩) (by decide) (by decide) (by decide) (gst_wf 59 2 0 64 (by decide +kernel)) (by decide +kernel) (by decide +kernel) (by decide +kernel) (by decide) (by decide) ?_
  show V l mdX0_init 45 1 40 2 108 (ab_End _ _) 126 [(0, .ref 44)] [.ref 59, .ref 44] (gst 60 2 0 64)
  refine V_putRF (x := some 59) 61 17 rfl clX0 flX0_56 (by decide) rfl rfl rfl rfl (fun _ _ => rfl) (fun v9 h9 => by rcases h9 with rfl | ⟨a9, rfl⟩ <;> exact ⟨rfl, rfl⟩) ?_
  show V l mdX0_init 45 1 40 2 108 (ab_End _ _) 129 [(0, .ref 44)] [] (gst 60 2 0 65)
  refine V_aload_n 62 0 rfl rfl rfl ?_
  refine V_bipush 63 (v := (96 : Int32)) rfl (by decide) ?_
  refine V_newa 64 0 (ty := .int) (c := 20) (N := 96) rfl rfl (by decide) ac_int (fun _ => rfl) (fun _ _ => rfl) (fun _ _ => ⟨fun h9 => by first | exact absurd h9 (by decide) | rfl, fun h9 => by first | exact absurd rfl h9 | rfl⟩) (by decide) (by decide) (by decide) (gst_wf 60 2 0 65 (by decide +kernel)) (by decide +kernel) (by decide +kernel) (by decide +kernel) (by decide) (by decide) ?_
  show V l mdX0_init 45 1 40 1 12 (ab_End _ _) 134 [(0, .ref 44)] [.ref 60, .ref 44] (gst 61 2 0 65)
  refine V_putRF (x := some 60) 65 18 rfl clX0 flX0_59 (by decide) rfl rfl rfl rfl (fun _ _ => rfl) (fun v9 h9 => by rcases h9 with rfl | ⟨a9, rfl⟩ <;> exact ⟨rfl, rfl⟩) ?_
  show V l mdX0_init 45 1 40 1 12 (ab_End _ _) 137 [(0, .ref 44)] [] (gst 61 2 0 66)
  refine V_aload_n 66 0 rfl rfl rfl ?_
  refine V_bipush 67 (v := (12 : Int32)) rfl (by decide) ?_
  refine V_newa 68 0 (ty := .int) (c := 20) (N := 12) rfl rfl (by decide) ac_int (fun _ => rfl) (fun _ _ => rfl) (fun _ _ => ⟨fun h9 => by first | exact absurd h9 (by decide) | rfl, fun h9 => by first | exact absurd rfl h9 | rfl⟩) (by decide) (by decide) (by decide) (gst_wf 61 2 0 66 (by decide +kernel)) (by decide +kernel) (by decide +kernel) (by decide +kernel) (by decide) (by decide) ?_
  show V l mdX0_init 45 1 40 0 0 (ab_End _ _) 142 [(0, .ref 44)] [.ref 61, .ref 44] (gst 62 2 0 66)
  refine V_putRF (x := some 61) 69 19 rfl clX0 flX0_62 (by decide) rfl rfl rfl rfl (fun _ _ => rfl) (fun v9 h9 => by rcases h9 with rfl | ⟨a9, rfl⟩ <;> exact ⟨rfl, rfl⟩) ?_
  show V l mdX0_init 45 1 40 0 0 (ab_End _ _) 145 [(0, .ref 44)] [] (gst 62 2 0 67)
  exact V_vret 70 rfl rfl ⟨rfl, rfl⟩
set_option maxHeartbeats 4000000 in
set_option maxRecDepth 100000 in
theorem ci12_X0_init {l : Launch} (hl : l.stackTraces = false) : ab_Mt l yX0_init mdX0_init 63 1 40 17 8256 [.ref 62] (gst 63 2 0 68) (fun v σ' => v = none ∧ σ' = (gst 80 2 0 85)) (fun _ _ => False) := by
  refine V_met hl ⟨rfl, rfl, by decide⟩ rfl dkX0_init (by decide) ?_
  show V l mdX0_init 63 1 40 17 8256 (ab_End _ _) 0 [(0, .ref 62)] [] (gst 63 2 0 68)
  refine V_aload_n 0 0 rfl rfl rfl ?_
  refine V_obj 1 rfl mlX0_3 oi_1 oi_2 (by decide) (Nat.le_of_ble_eq_true rfl) ?_
  refine V_aload_n 2 0 rfl rfl rfl ?_
  refine V_bipush 3 (v := (12 : Int32)) rfl (by decide) ?_
  refine V_newa 4 1 (ty := .long) (c := 21) (N := 12) rfl rfl (by decide) ac_long (fun _ => rfl) (fun _ _ => rfl) (fun _ _ => ⟨fun h9 => by first | exact absurd h9 (by decide) | rfl, fun h9 => by first | exact absurd rfl h9 | rfl⟩) (by decide) (by decide) (by decide) (gst_wf 63 2 0 68 (by decide +kernel)) (by decide +kernel) (by decide +kernel) (by decide +kernel) (by decide) (by decide) ?_
  show V l mdX0_init 63 1 40 16 8244 (ab_End _ _) 9 [(0, .ref 62)] [.ref 63, .ref 62] (gst 64 2 0 68)
  refine V_putRF (x := some 63) 5 1 rfl clX0 flX0_9 (by decide) rfl rfl rfl rfl (fun _ _ => rfl) (fun v9 h9 => by rcases h9 with rfl | ⟨a9, rfl⟩ <;> exact ⟨rfl, rfl⟩) ?_
  show V l mdX0_init 63 1 40 16 8244 (ab_End _ _) 12 [(0, .ref 62)] [] (gst 64 2 0 69)
  refine V_aload_n 6 0 rfl rfl rfl ?_
  refine V_bipush 7 (v := (12 : Int32)) rfl (by decide) ?_
  refine V_newa 8 0 (ty := .int) (c := 20) (N := 12) rfl rfl (by decide) ac_int (fun _ => rfl) (fun _ _ => rfl) (fun _ _ => ⟨fun h9 => by first | exact absurd h9 (by decide) | rfl, fun h9 => by first | exact absurd rfl h9 | rfl⟩) (by decide) (by decide) (by decide) (gst_wf 64 2 0 69 (by decide +kernel)) (by decide +kernel) (by decide +kernel) (by decide +kernel) (by decide) (by decide) ?_
  show V l mdX0_init 63 1 40 15 8232 (ab_End _ _) 17 [(0, .ref 62)] [.ref 64, .ref 62] (gst 65 2 0 69)
  refine V_putRF (x := some 64) 9 2 rfl clX0 flX0_15 (by decide) rfl rfl rfl rfl (fun _ _ => rfl) (fun v9 h9 => by rcases h9 with rfl | ⟨a9, rfl⟩ <;> exact ⟨rfl, rfl⟩) ?_
  show V l mdX0_init 63 1 40 15 8232 (ab_End _ _) 20 [(0, .ref 62)] [] (gst 65 2 0 70)
  refine V_aload_n 10 0 rfl rfl rfl ?_
  refine V_bipush 11 (v := (12 : Int32)) rfl (by decide) ?_
  refine V_newa 12 0 (ty := .int) (c := 20) (N := 12) rfl rfl (by decide) ac_int (fun _ => rfl) (fun _ _ => rfl) (fun _ _ => ⟨fun h9 => by first | exact absurd h9 (by decide) | rfl, fun h9 => by first | exact absurd rfl h9 | rfl⟩) (by decide) (by decide) (by decide) (gst_wf 65 2 0 70 (by decide +kernel)) (by decide +kernel) (by decide +kernel) (by decide +kernel) (by decide) (by decide) ?_
  show V l mdX0_init 63 1 40 14 8220 (ab_End _ _) 25 [(0, .ref 62)] [.ref 65, .ref 62] (gst 66 2 0 70)
  refine V_putRF (x := some 65) 13 3 rfl clX0 flX0_19 (by decide) rfl rfl rfl rfl (fun _ _ => rfl) (fun v9 h9 => by rcases h9 with rfl | ⟨a9, rfl⟩ <;> exact ⟨rfl, rfl⟩) ?_
  show V l mdX0_init 63 1 40 14 8220 (ab_End _ _) 28 [(0, .ref 62)] [] (gst 66 2 0 71)
  refine V_aload_n 14 0 rfl rfl rfl ?_
  refine V_bipush 15 (v := (96 : Int32)) rfl (by decide) ?_
  refine V_newa 16 1 (ty := .long) (c := 21) (N := 96) rfl rfl (by decide) ac_long (fun _ => rfl) (fun _ _ => rfl) (fun _ _ => ⟨fun h9 => by first | exact absurd h9 (by decide) | rfl, fun h9 => by first | exact absurd rfl h9 | rfl⟩) (by decide) (by decide) (by decide) (gst_wf 66 2 0 71 (by decide +kernel)) (by decide +kernel) (by decide +kernel) (by decide +kernel) (by decide) (by decide) ?_
  show V l mdX0_init 63 1 40 13 8124 (ab_End _ _) 33 [(0, .ref 62)] [.ref 66, .ref 62] (gst 67 2 0 71)
  refine V_putRF (x := some 66) 17 4 rfl clX0 flX0_22 (by decide) rfl rfl rfl rfl (fun _ _ => rfl) (fun v9 h9 => by rcases h9 with rfl | ⟨a9, rfl⟩ <;> exact ⟨rfl, rfl⟩) ?_
  show V l mdX0_init 63 1 40 13 8124 (ab_End _ _) 36 [(0, .ref 62)] [] (gst 67 2 0 72)
  refine V_aload_n 18 0 rfl rfl rfl ?_
  refine V_bipush 19 (v := (30 : Int32)) rfl (by decide) ?_
  refine V_newa 20 1 (ty := .long) (c := 21) (N := 30) rfl rfl (by decide) ac_long (fun _ => rfl) (fun _ _ => rfl) (fun _ _ => ⟨fun h9 => by first | exact absurd h9 (by decide) | rfl, fun h9 => by first | exact absurd rfl h9 | rfl⟩) (by decide) (by decide) (by decide) (gst_wf 67 2 0 72 (by decide +kernel)) (by decide +kernel) (by decide +kernel) (by decide +kernel) (by decide) (by decide) ?_
  show V l mdX0_init 63 1 40 12 8094 (ab_End _ _) 41 [(0, .ref 62)] [.ref 67, .ref 62] (gst 68 2 0 72)
  refine V_putRF (x := some 67) 21 6 rfl clX0 flX0_25 (by decide) rfl rfl rfl rfl (fun _ _ => rfl) (fun v9 h9 => by rcases h9 with rfl | ⟨a9, rfl⟩ <;> exact ⟨rfl, rfl⟩) ?_
  show V l mdX0_init 63 1 40 12 8094 (ab_End _ _) 44 [(0, .ref 62)] [] (gst 68 2 0 73)
  refine V_aload_n 22 0 rfl rfl rfl ?_
  refine V_bipush 23 (v := (30 : Int32)) rfl (by decide) ?_
  refine V_newa 24 0 (ty := .int) (c := 20) (N := 30) rfl rfl (by decide) ac_int (fun _ => rfl) (fun _ _ => rfl) (fun _ _ => ⟨fun h9 => by first | exact absurd h9 (by decide) | rfl, fun h9 => by first | exact absurd rfl h9 | rfl⟩) (by decide) (by decide) (by decide) (gst_wf 68 2 0 73 (by decide +kernel)) (by decide +kernel) (by decide +kernel) (by decide +kernel) (by decide) (by decide) ?_
  show V l mdX0_init 63 1 40 11 8064 (ab_End _ _) 49 [(0, .ref 62)] [.ref 68, .ref 62] (gst 69 2 0 73)
  refine V_putRF (x := some 68) 25 7 rfl clX0 flX0_28 (by decide) rfl rfl rfl rfl (fun _ _ => rfl) (fun v9 h9 => by rcases h9 with rfl | ⟨a9, rfl⟩ <;> exact ⟨rfl, rfl⟩) ?_
  show V l mdX0_init 63 1 40 11 8064 (ab_End _ _) 52 [(0, .ref 62)] [] (gst 69 2 0 74)
  refine V_aload_n 26 0 rfl rfl rfl ?_
  refine V_bipush 27 (v := (120 : Int32)) rfl (by decide) ?_
  refine V_newa 28 0 (ty := .int) (c := 20) (N := 120) rfl rfl (by decide) ac_int (fun _ => rfl) (fun _ _ => rfl) (fun _ _ => ⟨fun h9 => by first | exact absurd h9 (by decide) | rfl, fun h9 => by first | exact absurd rfl h9 | rfl⟩) (by decide) (by decide) (by decide) (gst_wf 69 2 0 74 (by decide +kernel)) (by decide +kernel) (by decide +kernel) (by decide +kernel) (by decide) (by decide) ?_
  show V l mdX0_init 63 1 40 10 7944 (ab_End _ _) 57 [(0, .ref 62)] [.ref 69, .ref 62] (gst 70 2 0 74)
  refine V_putRF (x := some 69) 29 8 rfl clX0 flX0_31 (by decide) rfl rfl rfl rfl (fun _ _ => rfl) (fun v9 h9 => by rcases h9 with rfl | ⟨a9, rfl⟩ <;> exact ⟨rfl, rfl⟩) ?_
  show V l mdX0_init 63 1 40 10 7944 (ab_End _ _) 60 [(0, .ref 62)] [] (gst 70 2 0 75)
  refine V_aload_n 30 0 rfl rfl rfl ?_
  refine V_bipush 31 (v := (30 : Int32)) rfl (by decide) ?_
  refine V_newa 32 2 (ty := .boolean) (c := 22) (N := 30) rfl rfl (by decide) ac_boolean (fun _ => rfl) (fun _ _ => rfl) (fun _ _ => ⟨fun h9 => by first | exact absurd h9 (by decide) | rfl, fun h9 => by first | exact absurd rfl h9 | rfl⟩) (by decide) (by decide) (by decide) (gst_wf 70 2 0 75 (by decide +kernel)) (by decide +kernel) (by decide +kernel) (by decide +kernel) (by decide) (by decide) ?_
  show V l mdX0_init 63 1 40 9 7914 (ab_End _ _) 65 [(0, .ref 62)] [.ref 70, .ref 62] (gst 71 2 0 75)
  refine V_putRF (x := some 70) 33 9 rfl clX0 flX0_34 (by decide) rfl rfl rfl rfl (fun _ _ => rfl) (fun v9 h9 => by rcases h9 with rfl | ⟨a9, rfl⟩ <;> exact ⟨rfl, rfl⟩) ?_
  show V l mdX0_init 63 1 40 9 7914 (ab_End _ _) 68 [(0, .ref 62)] [] (gst 71 2 0 76)
  refine V_aload_n 34 0 rfl rfl rfl ?_
  refine V_bipush 35 (v := (30 : Int32)) rfl (by decide) ?_
  refine V_newa 36 0 (ty := .int) (c := 20) (N := 30) rfl rfl (by decide) ac_int (fun _ => rfl) (fun _ _ => rfl) (fun _ _ => ⟨fun h9 => by first | exact absurd h9 (by decide) | rfl, fun h9 => by first | exact absurd rfl h9 | rfl⟩) (by decide) (by decide) (by decide) (gst_wf 71 2 0 76 (by decide +kernel)) (by decide +kernel) (by decide +kernel) (by decide +kernel) (by decide) (by decide) ?_
  show V l mdX0_init 63 1 40 8 7884 (ab_End _ _) 73 [(0, .ref 62)] [.ref 71, .ref 62] (gst 72 2 0 76)
  refine V_putRF (x := some 71) 37 10 rfl clX0 flX0_38 (by decide) rfl rfl rfl rfl (fun _ _ => rfl) (fun v9 h9 => by rcases h9 with rfl | ⟨a9, rfl⟩ <;> exact ⟨rfl, rfl⟩) ?_
  show V l mdX0_init 63 1 40 8 7884 (ab_End _ _) 76 [(0, .ref 62)] [] (gst 72 2 0 77)
  refine V_aload_n 38 0 rfl rfl rfl ?_
  refine V_sipush 39 (v := (960 : Int32)) rfl (by decide) ?_
  refine V_newa 40 0 (ty := .int) (c := 20) (N := 960) rfl rfl (by decide) ac_int (fun _ => rfl) (fun _ _ => rfl) (fun _ _ => ⟨fun h9 => by first | exact absurd h9 (by decide) | rfl, fun h9 => by first | exact absurd rfl h9 | rfl⟩) (by decide) (by decide) (by decide) (gst_wf 72 2 0 77 (by decide +kernel)) (by decide +kernel) (by decide +kernel) (by decide +kernel) (by decide) (by decide) ?_
  show V l mdX0_init 63 1 40 7 6924 (ab_End _ _) 82 [(0, .ref 62)] [.ref 72, .ref 62] (gst 73 2 0 77)
  refine V_putRF (x := some 72) 41 11 rfl clX0 flX0_41 (by decide) rfl rfl rfl rfl (fun _ _ => rfl) (fun v9 h9 => by rcases h9 with rfl | ⟨a9, rfl⟩ <;> exact ⟨rfl, rfl⟩) ?_
  show V l mdX0_init 63 1 40 7 6924 (ab_End _ _) 85 [(0, .ref 62)] [] (gst 73 2 0 78)
  refine V_aload_n 42 0 rfl rfl rfl ?_
  refine V_sipush 43 (v := (960 : Int32)) rfl (by decide) ?_
  refine V_newa 44 0 (ty := .int) (c := 20) (N := 960) rfl rfl (by decide) ac_int (fun _ => rfl) (fun _ _ => rfl) (fun _ _ => ⟨fun h9 => by first | exact absurd h9 (by decide) | rfl, fun h9 => by first | exact absurd rfl h9 | rfl⟩) (by decide) (by decide) (by decide) (gst_wf 73 2 0 78 (by decide +kernel)) (by decide +kernel) (by decide +kernel) (by decide +kernel) (by decide) (by decide) ?_
  show V l mdX0_init 63 1 40 6 5964 (ab_End _ _) 91 [(0, .ref 62)] [.ref 73, .ref 62] (gst 74 2 0 78)
  refine V_putRF (x := some 73) 45 12 rfl clX0 flX0_44 (by decide) rfl rfl rfl rfl (fun _ _ => rfl) (fun v9 h9 => by rcases h9 with rfl | ⟨a9, rfl⟩ <;> exact ⟨rfl, rfl⟩) ?_
  show V l mdX0_init 63 1 40 6 5964 (ab_End _ _) 94 [(0, .ref 62)] [] (gst 74 2 0 79)
  refine V_aload_n 46 0 rfl rfl rfl ?_
  refine V_sipush 47 (v := (960 : Int32)) rfl (by decide) ?_
  refine V_newa 48 0 (ty := .int) (c := 20) (N := 960) rfl rfl (by decide) ac_int (fun _ => rfl) (fun _ _ => rfl) (fun _ _ => ⟨fun h9 => by first | exact absurd h9 (by decide) | rfl, fun h9 => by first | exact absurd rfl h9 | rfl⟩) (by decide) (by decide) (by decide) (gst_wf 74 2 0 79 (by decide +kernel)) (by decide +kernel) (by decide +kernel) (by decide +kernel) (by decide) (by decide) ?_
  show V l mdX0_init 63 1 40 5 5004 (ab_End _ _) 100 [(0, .ref 62)] [.ref 74, .ref 62] (gst 75 2 0 79)
  refine V_putRF (x := some 74) 49 13 rfl clX0 flX0_47 (by decide) rfl rfl rfl rfl (fun _ _ => rfl) (fun v9 h9 => by rcases h9 with rfl | ⟨a9, rfl⟩ <;> exact ⟨rfl, rfl⟩) ?_
  show V l mdX0_init 63 1 40 5 5004 (ab_End _ _) 103 [(0, .ref 62)] [] (gst 75 2 0 80)
  refine V_aload_n 50 0 rfl rfl rfl ?_
  refine V_sipush 51 (v := (2400 : Int32)) rfl (by decide) ?_
  refine V_newa 52 0 (ty := .int) (c := 20) (N := 2400) rfl rfl (by decide) ac_int (fun _ => rfl) (fun _ _ => rfl) (fun _ _ => ⟨fun h9 => by first | exact absurd h9 (by decide) | rfl, fun h9 => by first | exact absurd rfl h9 | rfl⟩) (by decide) (by decide) (by decide) (gst_wf 75 2 0 80 (by decide +kernel)) (by decide +kernel) (by decide +kernel) (by decide +kernel) (by decide) (by decide) ?_
  show V l mdX0_init 63 1 40 4 2604 (ab_End _ _) 109 [(0, .ref 62)] [.ref 75, .ref 62] (gst 76 2 0 80)
  refine V_putRF (x := some 75) 53 15 rfl clX0 flX0_50 (by decide) rfl rfl rfl rfl (fun _ _ => rfl) (fun v9 h9 => by rcases h9 with rfl | ⟨a9, rfl⟩ <;> exact ⟨rfl, rfl⟩) ?_
  show V l mdX0_init 63 1 40 4 2604 (ab_End _ _) 112 [(0, .ref 62)] [] (gst 76 2 0 81)
  refine V_aload_n 54 0 rfl rfl rfl ?_
  refine V_sipush 55 (v := (2400 : Int32)) rfl (by decide) ?_
  refine V_newa 56 0 (ty := .int) (c := 20) (N := 2400) rfl rfl (by decide) ac_int (fun _ => rfl) (fun _ _ => rfl) (fun _ _ => ⟨fun h9 => by first | exact absurd h9 (by decide) | rfl, fun h9 => by first | exact absurd rfl h9 | rfl⟩) (by decide) (by decide) (by decide) (gst_wf 76 2 0 81 (by decide +kernel)) (by decide +kernel) (by decide +kernel) (by decide +kernel) (by decide) (by decide) ?_
  show V l mdX0_init 63 1 40 3 204 (ab_End _ _) 118 [(0, .ref 62)] [.ref 76, .ref 62] (gst 77 2 0 81)
  refine V_putRF (x := some 76) 57 16 rfl clX0 flX0_53 (by decide) rfl rfl rfl rfl (fun _ _ => rfl) (fun v9 h9 => by rcases h9 with rfl | ⟨a9, rfl⟩ <;> exact ⟨rfl, rfl⟩) ?_
  show V l mdX0_init 63 1 40 3 204 (ab_End _ _) 121 [(0, .ref 62)] [] (gst 77 2 0 82)
  refine V_aload_n 58 0 rfl rfl rfl ?_
  refine V_bipush 59 (v := (96 : Int32)) rfl (by decide) ?_
  refine V_newa 60 0 (ty := .int) (c := 20) (N := 96) rfl rfl (by decide) ac_int (fun _ => rfl) (fun _ _ => rfl) (fun _ _ => ⟨fun h9 => by first | exact absurd h9 (by decide) | rfl, fun h9 => by first | exact absurd rfl h9 | rfl⟩) (by decide) (by decide) (by decide) (gst_wf 77 2 0 82 (by decide +kernel)) (by decide +kernel) (by decide +kernel) (by decide +kernel) (by decide) (by decide) ?_
  show V l mdX0_init 63 1 40 2 108 (ab_End _ _) 126 [(0, .ref 62)] [.ref 77, .ref 62] (gst 78 2 0 82)
  refine V_putRF (x := some 77) 61 17 rfl clX0 flX0_56 (by decide) rfl rfl rfl rfl (fun _ _ => rfl) (fun v9 h9 => by rcases h9 with rfl | ⟨a9, rfl⟩ <;> exact ⟨rfl, rfl⟩) ?_
  show V l mdX0_init 63 1 40 2 108 (ab_End _ _) 129 [(0, .ref 62)] [] (gst 78 2 0 83)
  refine V_aload_n 62 0 rfl rfl rfl ?_
  refine V_bipush 63 (v := (96 : Int32)) rfl (by decide) ?_
  refine V_newa 64 0 (ty := .int) (c := 20) (N := 96) rfl rfl (by decide) ac_int (fun _ => rfl) (fun _ _ => rfl) (fun _ _ => ⟨fun h9 => by first | exact absurd h9 (by decide) | rfl, fun h9 => by first | exact absurd rfl h9 | rfl⟩) (by decide) (by decide) (by decide) (gst_wf 78 2 0 83 (by decide +kernel)) (by decide +kernel) (by decide +kernel) (by decide +kernel) (by decide) (by decide) ?_
  show V l mdX0_init 63 1 40 1 12 (ab_End _ _) 134 [(0, .ref 62)] [.ref 78, .ref 62] (gst 79 2 0 83)
  refine V_putRF (x := some 78) 65 18 rfl clX0 flX0_59 (by decide) rfl rfl rfl rfl (fun _ _ => rfl) (fun v9 h9 => by rcases h9 with rfl | ⟨a9, rfl⟩ <;> exact ⟨rfl, rfl⟩) ?_
  show V l mdX0_init 63 1 40 1 12 (ab_End _ _) 137 [(0, .ref 62)] [] (gst 79 2 0 84)
  refine V_aload_n 66 0 rfl rfl rfl ?_
  refine V_bipush 67 (v := (12 : Int32)) rfl (by decide) ?_
  refine V_newa 68 0 (ty := .int) (c := 20) (N := 12) rfl rfl (by decide) ac_int (fun _ => rfl) (fun _ _ => rfl) (fun _ _ => ⟨fun h9 => by first | exact absurd h9 (by decide) | rfl, fun h9 => by first | exact absurd rfl h9 | rfl⟩) (by decide) (by decide) (by decide) (gst_wf 79 2 0 84 (by decide +kernel)) (by decide +kernel) (by decide +kernel) (by decide +kernel) (by decide) (by decide) ?_
  show V l mdX0_init 63 1 40 0 0 (ab_End _ _) 142 [(0, .ref 62)] [.ref 79, .ref 62] (gst 80 2 0 84)
  refine V_putRF (x := some 79) 69 19 rfl clX0 flX0_62 (by decide) rfl rfl rfl rfl (fun _ _ => rfl) (fun v9 h9 => by rcases h9 with rfl | ⟨a9, rfl⟩ <;> exact ⟨rfl, rfl⟩) ?_
  show V l mdX0_init 63 1 40 0 0 (ab_End _ _) 145 [(0, .ref 62)] [] (gst 80 2 0 85)
  exact V_vret 70 rfl rfl ⟨rfl, rfl⟩
set_option maxHeartbeats 4000000 in
set_option maxRecDepth 100000 in
theorem ci13_X9_init {l : Launch} (hl : l.stackTraces = false) : ab_Mt l yX9_init mdX9_init 81 1 40 5 2000 [.ref 80] (gst 81 2 0 86) (fun v σ' => v = none ∧ σ' = (gst 86 2 0 91)) (fun _ _ => False) := by
  refine V_met hl ⟨rfl, rfl, by decide⟩ rfl dkX9_init (by decide) ?_
  show V l mdX9_init 81 1 40 5 2000 (ab_End _ _) 0 [(0, .ref 80)] [] (gst 81 2 0 86)
  refine V_aload_n 0 0 rfl rfl rfl ?_
  refine V_obj 1 rfl mlX9_3 oi_1 oi_2 (by decide) (Nat.le_of_ble_eq_true rfl) ?_
  refine V_aload_n 2 0 rfl rfl rfl ?_
  refine V_sipush 3 (v := (250 : Int32)) rfl (by decide) ?_
  refine V_newa 4 0 (ty := .int) (c := 20) (N := 250) rfl rfl (by decide) ac_int (fun _ => rfl) (fun _ _ => rfl) (fun _ _ => ⟨fun h9 => by first | exact absurd h9 (by decide) | rfl, fun h9 => by first | exact absurd rfl h9 | rfl⟩) (by decide) (by decide) (by decide) (gst_wf 81 2 0 86 (by decide +kernel)) (by decide +kernel) (by decide +kernel) (by decide +kernel) (by decide) (by decide) ?_
  show V l mdX9_init 81 1 40 4 1750 (ab_End _ _) 10 [(0, .ref 80)] [.ref 81, .ref 80] (gst 82 2 0 86)
  refine V_putRF (x := some 81) 5 1 rfl clX9 flX9_9 (by decide) rfl rfl rfl rfl (fun _ _ => rfl) (fun v9 h9 => by rcases h9 with rfl | ⟨a9, rfl⟩ <;> exact ⟨rfl, rfl⟩) ?_
  show V l mdX9_init 81 1 40 4 1750 (ab_End _ _) 13 [(0, .ref 80)] [] (gst 82 2 0 87)
  refine V_aload_n 6 0 rfl rfl rfl ?_
  refine V_sipush 7 (v := (250 : Int32)) rfl (by decide) ?_
  refine V_newa 8 0 (ty := .int) (c := 20) (N := 250) rfl rfl (by decide) ac_int (fun _ => rfl) (fun _ _ => rfl) (fun _ _ => ⟨fun h9 => by first | exact absurd h9 (by decide) | rfl, fun h9 => by first | exact absurd rfl h9 | rfl⟩) (by decide) (by decide) (by decide) (gst_wf 82 2 0 87 (by decide +kernel)) (by decide +kernel) (by decide +kernel) (by decide +kernel) (by decide) (by decide) ?_
  show V l mdX9_init 81 1 40 3 1500 (ab_End _ _) 19 [(0, .ref 80)] [.ref 82, .ref 80] (gst 83 2 0 87)
  refine V_putRF (x := some 82) 9 2 rfl clX9 flX9_15 (by decide) rfl rfl rfl rfl (fun _ _ => rfl) (fun v9 h9 => by rcases h9 with rfl | ⟨a9, rfl⟩ <;> exact ⟨rfl, rfl⟩) ?_
  show V l mdX9_init 81 1 40 3 1500 (ab_End _ _) 22 [(0, .ref 80)] [] (gst 83 2 0 88)
  refine V_aload_n 10 0 rfl rfl rfl ?_
  refine V_sipush 11 (v := (250 : Int32)) rfl (by decide) ?_
  refine V_newa 12 0 (ty := .int) (c := 20) (N := 250) rfl rfl (by decide) ac_int (fun _ => rfl) (fun _ _ => rfl) (fun _ _ => ⟨fun h9 => by first | exact absurd h9 (by decide) | rfl, fun h9 => by first | exact absurd rfl h9 | rfl⟩) (by decide) (by decide) (by decide) (gst_wf 83 2 0 88 (by decide +kernel)) (by decide +kernel) (by decide +kernel) (by decide +kernel) (by decide) (by decide) ?_
  show V l mdX9_init 81 1 40 2 1250 (ab_End _ _) 28 [(0, .ref 80)] [.ref 83, .ref 80] (gst 84 2 0 88)
  refine V_putRF (x := some 83) 13 3 rfl clX9 flX9_18 (by decide) rfl rfl rfl rfl (fun _ _ => rfl) (fun v9 h9 => by rcases h9 with rfl | ⟨a9, rfl⟩ <;> exact ⟨rfl, rfl⟩) ?_
  show V l mdX9_init 81 1 40 2 1250 (ab_End _ _) 31 [(0, .ref 80)] [] (gst 84 2 0 89)
  refine V_aload_n 14 0 rfl rfl rfl ?_
  refine V_sipush 15 (v := (250 : Int32)) rfl (by decide) ?_
  refine V_newa 16 0 (ty := .int) (c := 20) (N := 250) rfl rfl (by decide) ac_int (fun _ => rfl) (fun _ _ => rfl) (fun _ _ => ⟨fun h9 => by first | exact absurd h9 (by decide) | rfl, fun h9 => by first | exact absurd rfl h9 | rfl⟩) (by decide) (by decide) (by decide) (gst_wf 84 2 0 89 (by decide +kernel)) (by decide +kernel) (by decide +kernel) (by decide +kernel) (by decide) (by decide) ?_
  show V l mdX9_init 81 1 40 1 1000 (ab_End _ _) 37 [(0, .ref 80)] [.ref 84, .ref 80] (gst 85 2 0 89)
  refine V_putRF (x := some 84) 17 4 rfl clX9 flX9_21 (by decide) rfl rfl rfl rfl (fun _ _ => rfl) (fun v9 h9 => by rcases h9 with rfl | ⟨a9, rfl⟩ <;> exact ⟨rfl, rfl⟩) ?_
  show V l mdX9_init 81 1 40 1 1000 (ab_End _ _) 40 [(0, .ref 80)] [] (gst 85 2 0 90)
  refine V_aload_n 18 0 rfl rfl rfl ?_
  refine V_sipush 19 (v := (1000 : Int32)) rfl (by decide) ?_
  refine V_newa 20 0 (ty := .int) (c := 20) (N := 1000) rfl rfl (by decide) ac_int (fun _ => rfl) (fun _ _ => rfl) (fun _ _ => ⟨fun h9 => by first | exact absurd h9 (by decide) | rfl, fun h9 => by first | exact absurd rfl h9 | rfl⟩) (by decide) (by decide) (by decide) (gst_wf 85 2 0 90 (by decide +kernel)) (by decide +kernel) (by decide +kernel) (by decide +kernel) (by decide) (by decide) ?_
  show V l mdX9_init 81 1 40 0 0 (ab_End _ _) 46 [(0, .ref 80)] [.ref 85, .ref 80] (gst 86 2 0 90)
  refine V_putRF (x := some 85) 21 5 rfl clX9 flX9_24 (by decide) rfl rfl rfl rfl (fun _ _ => rfl) (fun v9 h9 => by rcases h9 with rfl | ⟨a9, rfl⟩ <;> exact ⟨rfl, rfl⟩) ?_
  show V l mdX9_init 81 1 40 0 0 (ab_End _ _) 49 [(0, .ref 80)] [] (gst 86 2 0 91)
  exact V_vret 22 rfl rfl ⟨rfl, rfl⟩
set_option maxHeartbeats 4000000 in
set_option maxRecDepth 100000 in
theorem ci14_X9_init {l : Launch} (hl : l.stackTraces = false) : ab_Mt l yX9_init mdX9_init 87 1 40 5 2000 [.ref 86] (gst 87 2 0 92) (fun v σ' => v = none ∧ σ' = (gst 92 2 0 97)) (fun _ _ => False) := by
  refine V_met hl ⟨rfl, rfl, by decide⟩ rfl dkX9_init (by decide) ?_
  show V l mdX9_init 87 1 40 5 2000 (ab_End _ _) 0 [(0, .ref 86)] [] (gst 87 2 0 92)
  refine V_aload_n 0 0 rfl rfl rfl ?_
  refine V_obj 1 rfl mlX9_3 oi_1 oi_2 (by decide) (Nat.le_of_ble_eq_true rfl) ?_
  refine V_aload_n 2 0 rfl rfl rfl ?_
  refine V_sipush 3 (v := (250 : Int32)) rfl (by decide) ?_
  refine V_newa 4 0 (ty := .int) (c := 20) (N := 250) rfl rfl (by decide) ac_int (fun _ => rfl) (fun _ _ => rfl) (fun _ _ => ⟨fun h9 => by first | exact absurd h9 (by decide) | rfl, fun h9 => by first | exact absurd rfl h9 | rfl⟩) (by decide) (by decide) (by decide) (gst_wf 87 2 0 92 (by decide +kernel)) (by decide +kernel) (by decide +kernel) (by decide +kernel) (by decide) (by decide) ?_
  show V l mdX9_init 87 1 40 4 1750 (ab_End _ _) 10 [(0, .ref 86)] [.ref 87, .ref 86] (gst 88 2 0 92)
  refine V_putRF (x := some 87) 5 1 rfl clX9 flX9_9 (by decide) rfl rfl rfl rfl (fun _ _ => rfl) (fun v9 h9 => by rcases h9 with rfl | ⟨a9, rfl⟩ <;> exact ⟨rfl, rfl⟩) ?_
  show V l mdX9_init 87 1 40 4 1750 (ab_End _ _) 13 [(0, .ref 86)] [] (gst 88 2 0 93)
  refine V_aload_n 6 0 rfl rfl rfl ?_
  refine V_sipush 7 (v := (250 : Int32)) rfl (by decide) ?_
  refine V_newa 8 0 (ty := .int) (c := 20) (N := 250) rfl rfl (by decide) ac_int (fun _ => rfl) (fun _ _ => rfl) (fun _ _ => ⟨fun h9 => by first | exact absurd h9 (by decide) | rfl, fun h9 => by first | exact absurd rfl h9 | rfl⟩) (by decide) (by decide) (by decide) (gst_wf 88 2 0 93 (by decide +kernel)) (by decide +kernel) (by decide +kernel) (by decide +kernel) (by decide) (by decide) ?_
  show V l mdX9_init 87 1 40 3 1500 (ab_End _ _) 19 [(0, .ref 86)] [.ref 88, .ref 86] (gst 89 2 0 93)
  refine V_putRF (x := some 88) 9 2 rfl clX9 flX9_15 (by decide) rfl rfl rfl rfl (fun _ _ => rfl) (fun v9 h9 => by rcases h9 with rfl | ⟨a9, rfl⟩ <;> exact ⟨rfl, rfl⟩) ?_
  show V l mdX9_init 87 1 40 3 1500 (ab_End _ _) 22 [(0, .ref 86)] [] (gst 89 2 0 94)
  refine V_aload_n 10 0 rfl rfl rfl ?_
  refine V_sipush 11 (v := (250 : Int32)) rfl (by decide) ?_
  refine V_newa 12 0 (ty := .int) (c := 20) (N := 250) rfl rfl (by decide) ac_int (fun _ => rfl) (fun _ _ => rfl) (fun _ _ => ⟨fun h9 => by first | exact absurd h9 (by decide) | rfl, fun h9 => by first | exact absurd rfl h9 | rfl⟩) (by decide) (by decide) (by decide) (gst_wf 89 2 0 94 (by decide +kernel)) (by decide +kernel) (by decide +kernel) (by decide +kernel) (by decide) (by decide) ?_
  show V l mdX9_init 87 1 40 2 1250 (ab_End _ _) 28 [(0, .ref 86)] [.ref 89, .ref 86] (gst 90 2 0 94)
  refine V_putRF (x := some 89) 13 3 rfl clX9 flX9_18 (by decide) rfl rfl rfl rfl (fun _ _ => rfl) (fun v9 h9 => by rcases h9 with rfl | ⟨a9, rfl⟩ <;> exact ⟨rfl, rfl⟩) ?_
  show V l mdX9_init 87 1 40 2 1250 (ab_End _ _) 31 [(0, .ref 86)] [] (gst 90 2 0 95)
  refine V_aload_n 14 0 rfl rfl rfl ?_
  refine V_sipush 15 (v := (250 : Int32)) rfl (by decide) ?_
  refine V_newa 16 0 (ty := .int) (c := 20) (N := 250) rfl rfl (by decide) ac_int (fun _ => rfl) (fun _ _ => rfl) (fun _ _ => ⟨fun h9 => by first | exact absurd h9 (by decide) | rfl, fun h9 => by first | exact absurd rfl h9 | rfl⟩) (by decide) (by decide) (by decide) (gst_wf 90 2 0 95 (by decide +kernel)) (by decide +kernel) (by decide +kernel) (by decide +kernel) (by decide) (by decide) ?_
  show V l mdX9_init 87 1 40 1 1000 (ab_End _ _) 37 [(0, .ref 86)] [.ref 90, .ref 86] (gst 91 2 0 95)
  refine V_putRF (x := some 90) 17 4 rfl clX9 flX9_21 (by decide) rfl rfl rfl rfl (fun _ _ => rfl) (fun v9 h9 => by rcases h9 with rfl | ⟨a9, rfl⟩ <;> exact ⟨rfl, rfl⟩) ?_
  show V l mdX9_init 87 1 40 1 1000 (ab_End _ _) 40 [(0, .ref 86)] [] (gst 91 2 0 96)
  refine V_aload_n 18 0 rfl rfl rfl ?_
  refine V_sipush 19 (v := (1000 : Int32)) rfl (by decide) ?_
  refine V_newa 20 0 (ty := .int) (c := 20) (N := 1000) rfl rfl (by decide) ac_int (fun _ => rfl) (fun _ _ => rfl) (fun _ _ => ⟨fun h9 => by first | exact absurd h9 (by decide) | rfl, fun h9 => by first | exact absurd rfl h9 | rfl⟩) (by decide) (by decide) (by decide) (gst_wf 91 2 0 96 (by decide +kernel)) (by decide +kernel) (by decide +kernel) (by decide +kernel) (by decide) (by decide) ?_
  show V l mdX9_init 87 1 40 0 0 (ab_End _ _) 46 [(0, .ref 86)] [.ref 91, .ref 86] (gst 92 2 0 96)
  refine V_putRF (x := some 91) 21 5 rfl clX9 flX9_24 (by decide) rfl rfl rfl rfl (fun _ _ => rfl) (fun v9 h9 => by rcases h9 with rfl | ⟨a9, rfl⟩ <;> exact ⟨rfl, rfl⟩) ?_
  show V l mdX9_init 87 1 40 0 0 (ab_End _ _) 49 [(0, .ref 86)] [] (gst 92 2 0 97)
  exact V_vret 22 rfl rfl ⟨rfl, rfl⟩
set_option maxHeartbeats 4000000 in
set_option maxRecDepth 100000 in
theorem ci15_X11_init {l : Launch} (hl : l.stackTraces = false) : ab_Mt l yX11_init mdX11_init 1 2 62 91 55877 [.ref 0] (gst 1 0 0 0) (fun v σ' => v = none ∧ σ' = (gst 92 2 0 98)) (fun _ _ => False) := by
  refine V_met hl ⟨rfl, rfl, by decide⟩ rfl dkX11_init (by decide) ?_
  show V l mdX11_init 1 2 62 91 55877 (ab_End _ _) 0 [(0, .ref 0)] [] (gst 1 0 0 0)
  refine V_aload_n 0 0 rfl rfl rfl ?_
  refine V_obj 1 rfl mlX11_5 oi_1 oi_2 (by decide) (Nat.le_of_ble_eq_true rfl) ?_
  refine V_aload_n 2 0 rfl rfl rfl ?_
  refine V_new 3 rfl clX8 nfX8 klX11_11 mkX8 iniX8 (gst_wf 1 0 0 0 (by decide +kernel)) (by decide +kernel) (by decide +kernel) (by decide +kernel) (by decide) (by decide) ?_
  show V l mdX11_init 1 2 62 90 55875 (ab_End _ _) 8 [(0, .ref 0)] [.ref 1, .ref 0] (gst 2 0 0 0)
  refine V_dup 4 rfl rfl ?_
  refine V_callIN 5 0 2 (dy := mdX8_init) (b := 1) (as := []) (rest := [.ref 1, .ref 0]) rfl mnX11_13 rfl rfl imX8_init iniX8 coX8_init ⟨by decide +kernel, by decide +kernel⟩ (by decide +kernel) rfl rfl (by decide) (by decide) (by decide) (by decide) (by decide) (by decide) (by decide +kernel) (by decide +kernel) (ci1_X8_init hl) ?_
  rintro v9 σ9 ⟨rfl, rfl⟩
  show V l mdX11_init 1 2 62 89 53475 (ab_End _ _) 12 [(0, .ref 0)] [.ref 1, .ref 0] (gst 3 0 0 1)
  refine V_putRF (x := some 1) 6 0 rfl clX11 flX11_14 (by decide) rfl rfl rfl rfl (fun _ _ => rfl) (fun v9 h9 => by rcases h9 with rfl | ⟨a9, rfl⟩ <;> exact ⟨rfl, rfl⟩) ?_
  show V l mdX11_init 1 2 62 89 53475 (ab_End _ _) 15 [(0, .ref 0)] [] (gst 3 0 0 2)
  refine V_new 7 rfl clX6 nfX6 klX11_18 mkX6 iniX6 (gst_wf 3 0 0 2 (by decide +kernel)) (by decide +kernel) (by decide +kernel) (by decide +kernel) (by decide) (by decide) ?_
  show V l mdX11_init 1 2 62 88 53465 (ab_End _ _) 18 [(0, .ref 0)] [.ref 3] (gst 4 0 0 2)
  refine V_dup 8 rfl rfl ?_
  refine V_aload_n 9 0 rfl rfl rfl ?_
  refine V_getR 10 0 (q := 1) rfl clX11 flX11_14 (by decide) rfl (fun _ => rfl) rfl ?_
  refine V_callI 11 1 4 (dy := mdX6_init) (b := 3) (as := [.ref 1]) (rest := [.ref 3]) rfl mlX11_20 rfl rfl imX6_init iniX6 coX6_init ⟨by decide +kernel, by decide +kernel⟩ (by decide +kernel) rfl rfl (by decide) (by decide) (by decide) (by decide) (by decide) (by decide) (by decide +kernel) (by decide +kernel) (ci2_X6_init hl) ?_
  rintro v9 σ9 ⟨rfl, rfl⟩
  show V l mdX11_init 1 2 62 85 46262 (ab_End _ _) 26 [(0, .ref 0)] [.ref 3] (gst 7 0 0 6)
  refine V_astore_n 12 (lv' := [(1, .ref 3), (0, .ref 0)]) rfl rfl (by decide) rfl ?_
  refine V_aload_n 13 1 rfl rfl rfl ?_
  refine V_new 14 rfl clX1 nfX1 klX11_23 mkX1 iniX1 (gst_wf 7 0 0 6 (by decide +kernel)) (by decide +kernel) (by decide +kernel) (by decide +kernel) (by decide) (by decide) ?_
  show V l mdX11_init 1 2 62 84 46258 (ab_End _ _) 31 [(1, .ref 3), (0, .ref 0)] [.ref 7, .ref 0] (gst 8 0 0 6)
  refine V_dup 15 rfl rfl ?_
  refine V_aload_n 16 0 rfl rfl rfl ?_
  refine V_callI 17 1 8 (dy := mdX1_init) (b := 7) (as := [.ref 3]) (rest := [.ref 7, .ref 0]) rfl mlX11_25 rfl rfl imX1_init iniX1 coX1_init ⟨by decide +kernel, by decide +kernel⟩ (by decide +kernel) rfl rfl (by decide) (by decide) (by decide) (by decide) (by decide) (by decide) (by decide +kernel) (by decide +kernel) (ci3_X1_init hl) ?_
  rintro v9 σ9 ⟨rfl, rfl⟩
  show V l mdX11_init 1 2 62 84 46258 (ab_End _ _) 36 [(1, .ref 3), (0, .ref 0)] [.ref 7, .ref 0] (gst 8 0 0 7)
  refine V_putRF (x := some 7) 18 1 rfl clX11 flX11_28 (by decide) rfl rfl rfl rfl (fun _ _ => rfl) (fun v9 h9 => by rcases h9 with rfl | ⟨a9, rfl⟩ <;> exact ⟨rfl, rfl⟩) ?_
  show V l mdX11_init 1 2 62 84 46258 (ab_End _ _) 39 [(1, .ref 3), (0, .ref 0)] [] (gst 8 0 0 8)
  refine V_aload_n 19 1 rfl rfl rfl ?_
  refine V_new 20 rfl clX10 nfX10 klX11_32 mkX10 iniX10 (gst_wf 8 0 0 8 (by decide +kernel)) (by decide +kernel) (by decide +kernel) (by decide +kernel) (by decide) (by decide) ?_
  show V l mdX11_init 1 2 62 83 46254 (ab_End _ _) 43 [(1, .ref 3), (0, .ref 0)] [.ref 8, .ref 0] (gst 9 0 0 8)
  refine V_dup 21 rfl rfl ?_
  refine V_aload_n 22 0 rfl rfl rfl ?_
  refine V_callI 23 1 9 (dy := mdX10_init) (b := 8) (as := [.ref 3]) (rest := [.ref 8, .ref 0]) rfl mlX11_34 rfl rfl imX10_init iniX10 coX10_init ⟨by decide +kernel, by decide +kernel⟩ (by decide +kernel) rfl rfl (by decide) (by decide) (by decide) (by decide) (by decide) (by decide) (by decide +kernel) (by decide +kernel) (ci4_X10_init hl) ?_
  rintro v9 σ9 ⟨rfl, rfl⟩
  show V l mdX11_init 1 2 62 83 46254 (ab_End _ _) 48 [(1, .ref 3), (0, .ref 0)] [.ref 8, .ref 0] (gst 9 0 0 9)
  refine V_putRF (x := some 8) 24 2 rfl clX11 flX11_35 (by decide) rfl rfl rfl rfl (fun _ _ => rfl) (fun v9 h9 => by rcases h9 with rfl | ⟨a9, rfl⟩ <;> exact ⟨rfl, rfl⟩) ?_
  show V l mdX11_init 1 2 62 83 46254 (ab_End _ _) 51 [(1, .ref 3), (0, .ref 0)] [] (gst 9 0 0 10)
  refine V_aload_n 25 1 rfl rfl rfl ?_
  refine V_new 26 rfl clX3 nfX3 klX11_39 mkX3 iniX3 (gst_wf 9 0 0 10 (by decide +kernel)) (by decide +kernel) (by decide +kernel) (by decide +kernel) (by decide) (by decide) ?_
  show V l mdX11_init 1 2 62 82 46253 (ab_End _ _) 55 [(1, .ref 3), (0, .ref 0)] [.ref 9, .ref 0] (gst 10 0 0 10)
  refine V_dup 27 rfl rfl ?_
  refine V_callIN 28 0 10 (dy := mdX3_init) (b := 9) (as := []) (rest := [.ref 9, .ref 0]) rfl mnX11_41 rfl rfl imX3_init iniX3 coX3_init ⟨by decide +kernel, by decide +kernel⟩ (by decide +kernel) rfl rfl (by decide) (by decide) (by decide) (by decide) (by decide) (by decide) (by decide +kernel) (by decide +kernel) (ci5_X3_init hl) ?_
  rintro v9 σ9 ⟨rfl, rfl⟩
  show V l mdX11_init 1 2 62 81 45293 (ab_End _ _) 59 [(1, .ref 3), (0, .ref 0)] [.ref 9, .ref 0] (gst 11 0 0 11)
  refine V_putRF (x := some 9) 29 3 rfl clX11 flX11_42 (by decide) rfl rfl rfl rfl (fun _ _ => rfl) (fun v9 h9 => by rcases h9 with rfl | ⟨a9, rfl⟩ <;> exact ⟨rfl, rfl⟩) ?_
  show V l mdX11_init 1 2 62 81 45293 (ab_End _ _) 62 [(1, .ref 3), (0, .ref 0)] [] (gst 11 0 0 12)
  refine V_aload_n 30 1 rfl rfl rfl ?_
  refine V_new 31 rfl clX4 nfX4 klX11_46 mkX4 iniX4 (gst_wf 11 0 0 12 (by decide +kernel)) (by decide +kernel) (by decide +kernel) (by decide +kernel) (by decide) (by decide) ?_
  show V l mdX11_init 1 2 62 80 45282 (ab_End _ _) 66 [(1, .ref 3), (0, .ref 0)] [.ref 11, .ref 0] (gst 12 0 0 12)
  refine V_dup 32 rfl rfl ?_
  refine V_callIN 33 0 12 (dy := mdX4_init) (b := 11) (as := []) (rest := [.ref 11, .ref 0]) rfl mnX11_48 rfl rfl imX4_init iniX4 coX4_init ⟨by decide +kernel, by decide +kernel⟩ (by decide +kernel) rfl rfl (by decide) (by decide) (by decide) (by decide) (by decide) (by decide) (by decide +kernel) (by decide +kernel) (ci6_X4_init hl) ?_
  rintro v9 σ9 ⟨rfl, rfl⟩
  show V l mdX11_init 1 2 62 73 39038 (ab_End _ _) 70 [(1, .ref 3), (0, .ref 0)] [.ref 11, .ref 0] (gst 19 0 0 19)
  refine V_putRF (x := some 11) 34 4 rfl clX11 flX11_49 (by decide) rfl rfl rfl rfl (fun _ _ => rfl) (fun v9 h9 => by rcases h9 with rfl | ⟨a9, rfl⟩ <;> exact ⟨rfl, rfl⟩) ?_
  show V l mdX11_init 1 2 62 73 39038 (ab_End _ _) 73 [(1, .ref 3), (0, .ref 0)] [] (gst 19 0 0 20)
  refine V_aload_n 35 1 rfl rfl rfl ?_
  refine V_new 36 rfl clX7 nfX7 klX11_53 mkX7 iniX7 (gst_wf 19 0 0 20 (by decide +kernel)) (by decide +kernel) (by decide +kernel) (by decide +kernel) (by decide) (by decide) ?_
  show V l mdX11_init 1 2 62 72 39032 (ab_End _ _) 77 [(1, .ref 3), (0, .ref 0)] [.ref 19, .ref 0] (gst 20 0 0 20)
  refine V_dup 37 rfl rfl ?_
  refine V_aload_n 38 1 rfl rfl rfl ?_
  refine V_getR 39 4 (q := 11) rfl clX11 flX11_49 (by decide) rfl (fun _ => rfl) rfl ?_
  refine V_callI 40 1 20 (dy := mdX7_init) (b := 19) (as := [.ref 11]) (rest := [.ref 19, .ref 0]) rfl mlX11_55 rfl rfl imX7_init iniX7 coX7_init ⟨by decide +kernel, by decide +kernel⟩ (by decide +kernel) rfl rfl (by decide) (by decide) (by decide) (by decide) (by decide) (by decide) (by decide +kernel) (by decide +kernel) (ci7_X7_init hl) ?_
  rintro v9 σ9 ⟨rfl, rfl⟩
  show V l mdX11_init 1 2 62 69 37832 (ab_End _ _) 85 [(1, .ref 3), (0, .ref 0)] [.ref 19, .ref 0] (gst 23 0 0 24)
  refine V_putRF (x := some 19) 41 5 rfl clX11 flX11_58 (by decide) rfl rfl rfl rfl (fun _ _ => rfl) (fun v9 h9 => by rcases h9 with rfl | ⟨a9, rfl⟩ <;> exact ⟨rfl, rfl⟩) ?_
  show V l mdX11_init 1 2 62 69 37832 (ab_End _ _) 88 [(1, .ref 3), (0, .ref 0)] [] (gst 23 0 0 25)
  refine V_aload_n 42 1 rfl rfl rfl ?_
  refine V_new 43 rfl clX5 nfX5 klX11_62 mkX5 iniX5 (gst_wf 23 0 0 25 (by decide +kernel)) (by decide +kernel) (by decide +kernel) (by decide +kernel) (by decide) (by decide) ?_
  show V l mdX11_init 1 2 62 68 37824 (ab_End _ _) 92 [(1, .ref 3), (0, .ref 0)] [.ref 23, .ref 0] (gst 24 0 0 25)
  refine V_dup 44 rfl rfl ?_
  refine V_aload_n 45 1 rfl rfl rfl ?_
  refine V_getR 46 4 (q := 11) rfl clX11 flX11_49 (by decide) rfl (fun _ => rfl) rfl ?_
  refine V_aload_n 47 1 rfl rfl rfl ?_
  refine V_getR 48 5 (q := 19) rfl clX11 flX11_58 (by decide) rfl (fun _ => rfl) rfl ?_
  refine V_callI 49 2 24 (dy := mdX5_init) (b := 23) (as := [.ref 11, .ref 19]) (rest := [.ref 23, .ref 0]) rfl mlX11_64 rfl rfl imX5_init iniX5 coX5_init ⟨by decide +kernel, by decide +kernel⟩ (by decide +kernel) rfl rfl (by decide) (by decide) (by decide) (by decide) (by decide) (by decide) (by decide +kernel) (by decide +kernel) (ci8_X5_init hl) ?_
  rintro v9 σ9 ⟨rfl, rfl⟩
  show V l mdX11_init 1 2 62 64 28614 (ab_End _ _) 104 [(1, .ref 3), (0, .ref 0)] [.ref 23, .ref 0] (gst 28 0 0 31)
  refine V_putRF (x := some 23) 50 6 rfl clX11 flX11_67 (by decide) rfl rfl rfl rfl (fun _ _ => rfl) (fun v9 h9 => by rcases h9 with rfl | ⟨a9, rfl⟩ <;> exact ⟨rfl, rfl⟩) ?_
  show V l mdX11_init 1 2 62 64 28614 (ab_End _ _) 107 [(1, .ref 3), (0, .ref 0)] [] (gst 28 0 0 32)
  refine V_aload_n 51 1 rfl rfl rfl ?_
  refine V_new 52 rfl clX2 nfX2 klX11_71 mkX2 iniX2 (gst_wf 28 0 0 32 (by decide +kernel)) (by decide +kernel) (by decide +kernel) (by decide +kernel) (by decide) (by decide) ?_
  show V l mdX11_init 1 2 62 63 28600 (ab_End _ _) 111 [(1, .ref 3), (0, .ref 0)] [.ref 28, .ref 0] (gst 29 0 0 32)
  refine V_dup 53 rfl rfl ?_
  refine V_aload_n 54 1 rfl rfl rfl ?_
  refine V_getR 55 6 (q := 23) rfl clX11 flX11_67 (by decide) rfl (fun _ => rfl) rfl ?_
  refine V_iconst 56 (v := (1 : Int32)) rfl (by decide) ?_
  refine V_callI 57 2 29 (dy := mdX2_init) (b := 28) (as := [.ref 23, .int (1 : Int32)]) (rest := [.ref 28, .ref 0]) rfl mlX11_73 rfl rfl imX2_init iniX2 coX2_init ⟨by decide +kernel, by decide +kernel⟩ (by decide +kernel) rfl rfl (by decide) (by decide) (by decide) (by decide) (by decide) (by decide) (by decide +kernel) (by decide +kernel) (ci9_X2_init hl) ?_
  rintro v9 σ9 ⟨rfl, rfl⟩
  show V l mdX11_init 1 2 62 57 25714 (ab_End _ _) 120 [(1, .ref 3), (0, .ref 0)] [.ref 28, .ref 0] (gst 35 1 0 39)
  refine V_putRF (x := some 28) 58 7 rfl clX11 flX11_76 (by decide) rfl rfl rfl rfl (fun _ _ => rfl) (fun v9 h9 => by rcases h9 with rfl | ⟨a9, rfl⟩ <;> exact ⟨rfl, rfl⟩) ?_
  show V l mdX11_init 1 2 62 57 25714 (ab_End _ _) 123 [(1, .ref 3), (0, .ref 0)] [] (gst 35 1 0 40)
  refine V_aload_n 59 1 rfl rfl rfl ?_
  refine V_new 60 rfl clX2 nfX2 klX11_71 mkX2 iniX2 (gst_wf 35 1 0 40 (by decide +kernel)) (by decide +kernel) (by decide +kernel) (by decide +kernel) (by decide) (by decide) ?_
  show V l mdX11_init 1 2 62 56 25700 (ab_End _ _) 127 [(1, .ref 3), (0, .ref 0)] [.ref 35, .ref 0] (gst 36 1 0 40)
  refine V_dup 61 rfl rfl ?_
  refine V_aload_n 62 1 rfl rfl rfl ?_
  refine V_getR 63 6 (q := 23) rfl clX11 flX11_67 (by decide) rfl (fun _ => rfl) rfl ?_
  refine V_iconst 64 (v := (0 : Int32)) rfl (by decide) ?_
  refine V_callI 65 2 36 (dy := mdX2_init) (b := 35) (as := [.ref 23, .int (0 : Int32)]) (rest := [.ref 35, .ref 0]) rfl mlX11_73 rfl rfl imX2_init iniX2 coX2_init ⟨by decide +kernel, by decide +kernel⟩ (by decide +kernel) rfl rfl (by decide) (by decide) (by decide) (by decide) (by decide) (by decide) (by decide +kernel) (by decide +kernel) (ci10_X2_init hl) ?_
  rintro v9 σ9 ⟨rfl, rfl⟩
  show V l mdX11_init 1 2 62 50 22814 (ab_End _ _) 136 [(1, .ref 3), (0, .ref 0)] [.ref 35, .ref 0] (gst 42 2 0 47)
  refine V_putRF (x := some 35) 66 8 rfl clX11 flX11_80 (by decide) rfl rfl rfl rfl (fun _ _ => rfl) (fun v9 h9 => by rcases h9 with rfl | ⟨a9, rfl⟩ <;> exact ⟨rfl, rfl⟩) ?_
  show V l mdX11_init 1 2 62 50 22814 (ab_End _ _) 139 [(1, .ref 3), (0, .ref 0)] [] (gst 42 2 0 48)
  refine V_aload_n 67 1 rfl rfl rfl ?_
  refine V_sipush 68 (v := (2000 : Int32)) rfl (by decide) ?_
  refine V_newa 69 1 (ty := .long) (c := 21) (N := 2000) rfl rfl (by decide) ac_long (fun _ => rfl) (fun _ _ => rfl) (fun _ _ => ⟨fun h9 => by first | exact absurd h9 (by decide) | rfl, fun h9 => by first | exact absurd rfl h9 | rfl⟩) (by decide) (by decide) (by decide) (gst_wf 42 2 0 48 (by decide +kernel)) (by decide +kernel) (by decide +kernel) (by decide +kernel) (by decide) (by decide) ?_
  show V l mdX11_init 1 2 62 49 20814 (ab_End _ _) 145 [(1, .ref 3), (0, .ref 0)] [.ref 42, .ref 0] (gst 43 2 0 48)
  refine V_putRF (x := some 42) 70 9 rfl clX11 flX11_83 (by decide) rfl rfl rfl rfl (fun _ _ => rfl) (fun v9 h9 => by rcases h9 with rfl | ⟨a9, rfl⟩ <;> exact ⟨rfl, rfl⟩) ?_
  show V l mdX11_init 1 2 62 49 20814 (ab_End _ _) 148 [(1, .ref 3), (0, .ref 0)] [] (gst 43 2 0 49)
  refine V_aload_n 71 1 rfl rfl rfl ?_
  refine V_sipush 72 (v := (250 : Int32)) rfl (by decide) ?_
  refine V_newa 73 0 (ty := .int) (c := 20) (N := 250) rfl rfl (by decide) ac_int (fun _ => rfl) (fun _ _ => rfl) (fun _ _ => ⟨fun h9 => by first | exact absurd h9 (by decide) | rfl, fun h9 => by first | exact absurd rfl h9 | rfl⟩) (by decide) (by decide) (by decide) (gst_wf 43 2 0 49 (by decide +kernel)) (by decide +kernel) (by decide +kernel) (by decide +kernel) (by decide) (by decide) ?_
  show V l mdX11_init 1 2 62 48 20564 (ab_End _ _) 154 [(1, .ref 3), (0, .ref 0)] [.ref 43, .ref 0] (gst 44 2 0 49)
  refine V_putRF (x := some 43) 74 10 rfl clX11 flX11_87 (by decide) rfl rfl rfl rfl (fun _ _ => rfl) (fun v9 h9 => by rcases h9 with rfl | ⟨a9, rfl⟩ <;> exact ⟨rfl, rfl⟩) ?_
  show V l mdX11_init 1 2 62 48 20564 (ab_End _ _) 157 [(1, .ref 3), (0, .ref 0)] [] (gst 44 2 0 50)
  refine V_aload_n 75 1 rfl rfl rfl ?_
  refine V_new 76 rfl clX0 nfX0 klX11_91 mkX0 iniX0 (gst_wf 44 2 0 50 (by decide +kernel)) (by decide +kernel) (by decide +kernel) (by decide +kernel) (by decide) (by decide) ?_
  show V l mdX11_init 1 2 62 47 20544 (ab_End _ _) 161 [(1, .ref 3), (0, .ref 0)] [.ref 44, .ref 0] (gst 45 2 0 50)
  refine V_dup 77 rfl rfl ?_
  refine V_callIN 78 0 45 (dy := mdX0_init) (b := 44) (as := []) (rest := [.ref 44, .ref 0]) rfl mnX11_93 rfl rfl imX0_init iniX0 coX0_init ⟨by decide +kernel, by decide +kernel⟩ (by decide +kernel) rfl rfl (by decide) (by decide) (by decide) (by decide) (by decide) (by decide) (by decide +kernel) (by decide +kernel) (ci11_X0_init hl) ?_
  rintro v9 σ9 ⟨rfl, rfl⟩
  show V l mdX11_init 1 2 62 30 12288 (ab_End _ _) 165 [(1, .ref 3), (0, .ref 0)] [.ref 44, .ref 0] (gst 62 2 0 67)
  refine V_putR (x := some 44) 79 11 rfl clX11 flX11_94 (by decide) rfl rfl (fun _ _ => rfl) (fun v9 h9 => by rcases h9 with rfl | ⟨a9, rfl⟩ <;> exact ⟨rfl, rfl⟩) ?_
  show V l mdX11_init 1 2 62 30 12288 (ab_End _ _) 168 [(1, .ref 3), (0, .ref 0)] [] (gst 62 2 0 68)
  refine V_aload_n 80 1 rfl rfl rfl ?_
  refine V_new 81 rfl clX0 nfX0 klX11_91 mkX0 iniX0 (gst_wf 62 2 0 68 (by decide +kernel)) (by decide +kernel) (by decide +kernel) (by decide +kernel) (by decide) (by decide) ?_
  show V l mdX11_init 1 2 62 29 12268 (ab_End _ _) 172 [(1, .ref 3), (0, .ref 0)] [.ref 62, .ref 0] (gst 63 2 0 68)
  refine V_dup 82 rfl rfl ?_
  refine V_callIN 83 0 63 (dy := mdX0_init) (b := 62) (as := []) (rest := [.ref 62, .ref 0]) rfl mnX11_93 rfl rfl imX0_init iniX0 coX0_init ⟨by decide +kernel, by decide +kernel⟩ (by decide +kernel) rfl rfl (by decide) (by decide) (by decide) (by decide) (by decide) (by decide) (by decide +kernel) (by decide +kernel) (ci12_X0_init hl) ?_
  rintro v9 σ9 ⟨rfl, rfl⟩
  show V l mdX11_init 1 2 62 12 4012 (ab_End _ _) 176 [(1, .ref 3), (0, .ref 0)] [.ref 62, .ref 0] (gst 80 2 0 85)
  refine V_putR (x := some 62) 84 12 rfl clX11 flX11_98 (by decide) rfl rfl (fun _ _ => rfl) (fun v9 h9 => by rcases h9 with rfl | ⟨a9, rfl⟩ <;> exact ⟨rfl, rfl⟩) ?_
  show V l mdX11_init 1 2 62 12 4012 (ab_End _ _) 179 [(1, .ref 3), (0, .ref 0)] [] (gst 80 2 0 86)
  refine V_aload_n 85 1 rfl rfl rfl ?_
  refine V_new 86 rfl clX9 nfX9 klX11_101 mkX9 iniX9 (gst_wf 80 2 0 86 (by decide +kernel)) (by decide +kernel) (by decide +kernel) (by decide +kernel) (by decide) (by decide) ?_
  show V l mdX11_init 1 2 62 11 4006 (ab_End _ _) 183 [(1, .ref 3), (0, .ref 0)] [.ref 80, .ref 0] (gst 81 2 0 86)
  refine V_dup 87 rfl rfl ?_
  refine V_callIN 88 0 81 (dy := mdX9_init) (b := 80) (as := []) (rest := [.ref 80, .ref 0]) rfl mnX11_103 rfl rfl imX9_init iniX9 coX9_init ⟨by decide +kernel, by decide +kernel⟩ (by decide +kernel) rfl rfl (by decide) (by decide) (by decide) (by decide) (by decide) (by decide) (by decide +kernel) (by decide +kernel) (ci13_X9_init hl) ?_
  rintro v9 σ9 ⟨rfl, rfl⟩
  show V l mdX11_init 1 2 62 6 2006 (ab_End _ _) 187 [(1, .ref 3), (0, .ref 0)] [.ref 80, .ref 0] (gst 86 2 0 91)
  refine V_putR (x := some 80) 89 13 rfl clX11 flX11_104 (by decide) rfl rfl (fun _ _ => rfl) (fun v9 h9 => by rcases h9 with rfl | ⟨a9, rfl⟩ <;> exact ⟨rfl, rfl⟩) ?_
  show V l mdX11_init 1 2 62 6 2006 (ab_End _ _) 190 [(1, .ref 3), (0, .ref 0)] [] (gst 86 2 0 92)
  refine V_aload_n 90 1 rfl rfl rfl ?_
  refine V_new 91 rfl clX9 nfX9 klX11_101 mkX9 iniX9 (gst_wf 86 2 0 92 (by decide +kernel)) (by decide +kernel) (by decide +kernel) (by decide +kernel) (by decide) (by decide) ?_
  show V l mdX11_init 1 2 62 5 2000 (ab_End _ _) 194 [(1, .ref 3), (0, .ref 0)] [.ref 86, .ref 0] (gst 87 2 0 92)
  refine V_dup 92 rfl rfl ?_
  refine V_callIN 93 0 87 (dy := mdX9_init) (b := 86) (as := []) (rest := [.ref 86, .ref 0]) rfl mnX11_103 rfl rfl imX9_init iniX9 coX9_init ⟨by decide +kernel, by decide +kernel⟩ (by decide +kernel) rfl rfl (by decide) (by decide) (by decide) (by decide) (by decide) (by decide) (by decide +kernel) (by decide +kernel) (ci14_X9_init hl) ?_
  rintro v9 σ9 ⟨rfl, rfl⟩
  show V l mdX11_init 1 2 62 0 0 (ab_End _ _) 198 [(1, .ref 3), (0, .ref 0)] [.ref 86, .ref 0] (gst 92 2 0 97)
  refine V_putR (x := some 86) 94 14 rfl clX11 flX11_108 (by decide) rfl rfl (fun _ _ => rfl) (fun v9 h9 => by rcases h9 with rfl | ⟨a9, rfl⟩ <;> exact ⟨rfl, rfl⟩) ?_
  show V l mdX11_init 1 2 62 0 0 (ab_End _ _) 201 [(1, .ref 3), (0, .ref 0)] [] (gst 92 2 0 98)
  exact V_vret 95 rfl rfl ⟨rfl, rfl⟩
set_option maxHeartbeats 4000000 in
set_option maxRecDepth 100000 in
theorem ci16_X12_init {l : Launch} (hl : l.stackTraces = false) : ab_Mt l yX12_init mdX12_init 93 1 40 70 81753 [.ref 92] (gst 93 2 0 98) (fun v σ' => v = none ∧ σ' = (gst 163 2 6 168)) (fun _ _ => False) := by
  refine V_met hl ⟨rfl, rfl, by decide⟩ rfl dkX12_init (by decide) ?_
  show V l mdX12_init 93 1 40 70 81753 (ab_End _ _) 0 [(0, .ref 92)] [] (gst 93 2 0 98)
  refine V_aload_n 0 0 rfl rfl rfl ?_
  refine V_obj 1 rfl mlX12_1 oi_1 oi_2 (by decide) (Nat.le_of_ble_eq_true rfl) ?_
  refine V_aload_n 2 0 rfl rfl rfl ?_
  refine V_sipush 3 (v := (2400 : Int32)) rfl (by decide) ?_
  refine V_newa 4 0 (ty := .int) (c := 20) (N := 2400) rfl rfl (by decide) ac_int (fun _ => rfl) (fun _ _ => rfl) (fun _ _ => ⟨fun h9 => by first | exact absurd h9 (by decide) | rfl, fun h9 => by first | exact absurd rfl h9 | rfl⟩) (by decide) (by decide) (by decide) (gst_wf 93 2 0 98 (by decide +kernel)) (by decide +kernel) (by decide +kernel) (by decide +kernel) (by decide) (by decide) ?_
  show V l mdX12_init 93 1 40 69 79353 (ab_End _ _) 10 [(0, .ref 92)] [.ref 93, .ref 92] (gst 94 2 0 98)
  refine V_putRF (x := some 93) 5 1 rfl clX12 flX12_7 (by decide) rfl rfl rfl rfl (fun _ _ => rfl) (fun v9 h9 => by rcases h9 with rfl | ⟨a9, rfl⟩ <;> exact ⟨rfl, rfl⟩) ?_
  show V l mdX12_init 93 1 40 69 79353 (ab_End _ _) 13 [(0, .ref 92)] [] (gst 94 2 0 99)
  refine V_aload_n 6 0 rfl rfl rfl ?_
  refine V_bipush 7 (v := (7 : Int32)) rfl (by decide) ?_
  refine V_newa 8 1 (ty := .long) (c := 21) (N := 7) rfl rfl (by decide) ac_long (fun _ => rfl) (fun _ _ => rfl) (fun _ _ => ⟨fun h9 => by first | exact absurd h9 (by decide) | rfl, fun h9 => by first | exact absurd rfl h9 | rfl⟩) (by decide) (by decide) (by decide) (gst_wf 94 2 0 99 (by decide +kernel)) (by decide +kernel) (by decide +kernel) (by decide +kernel) (by decide) (by decide) ?_
  show V l mdX12_init 93 1 40 68 79346 (ab_End _ _) 18 [(0, .ref 92)] [.ref 94, .ref 92] (gst 95 2 0 99)
  refine V_putRF (x := some 94) 9 3 rfl clX12 flX12_13 (by decide) rfl rfl rfl rfl (fun _ _ => rfl) (fun v9 h9 => by rcases h9 with rfl | ⟨a9, rfl⟩ <;> exact ⟨rfl, rfl⟩) ?_
  show V l mdX12_init 93 1 40 68 79346 (ab_End _ _) 21 [(0, .ref 92)] [] (gst 95 2 0 100)
  refine V_aload_n 10 0 rfl rfl rfl ?_
  refine V_sipush 11 (v := (2400 : Int32)) rfl (by decide) ?_
  refine V_newa 12 0 (ty := .int) (c := 20) (N := 2400) rfl rfl (by decide) ac_int (fun _ => rfl) (fun _ _ => rfl) (fun _ _ => ⟨fun h9 => by first | exact absurd h9 (by decide) | rfl, fun h9 => by first | exact absurd rfl h9 | rfl⟩) (by decide) (by decide) (by decide) (gst_wf 95 2 0 100 (by decide +kernel)) (by decide +kernel) (by decide +kernel) (by decide +kernel) (by decide) (by decide) ?_
  show V l mdX12_init 93 1 40 67 76946 (ab_End _ _) 27 [(0, .ref 92)] [.ref 95, .ref 92] (gst 96 2 0 100)
  refine V_putRF (x := some 95) 13 5 rfl clX12 flX12_17 (by decide) rfl rfl rfl rfl (fun _ _ => rfl) (fun v9 h9 => by rcases h9 with rfl | ⟨a9, rfl⟩ <;> exact ⟨rfl, rfl⟩) ?_
  show V l mdX12_init 93 1 40 67 76946 (ab_End _ _) 30 [(0, .ref 92)] [] (gst 96 2 0 101)
  refine V_aload_n 14 0 rfl rfl rfl ?_
  refine V_sipush 15 (v := (2400 : Int32)) rfl (by decide) ?_
  refine V_newa 16 0 (ty := .int) (c := 20) (N := 2400) rfl rfl (by decide) ac_int (fun _ => rfl) (fun _ _ => rfl) (fun _ _ => ⟨fun h9 => by first | exact absurd h9 (by decide) | rfl, fun h9 => by first | exact absurd rfl h9 | rfl⟩) (by decide) (by decide) (by decide) (gst_wf 96 2 0 101 (by decide +kernel)) (by decide +kernel) (by decide +kernel) (by decide +kernel) (by decide) (by decide) ?_
  show V l mdX12_init 93 1 40 66 74546 (ab_End _ _) 36 [(0, .ref 92)] [.ref 96, .ref 92] (gst 97 2 0 101)
  refine V_putRF (x := some 96) 17 7 rfl clX12 flX12_20 (by decide) rfl rfl rfl rfl (fun _ _ => rfl) (fun v9 h9 => by rcases h9 with rfl | ⟨a9, rfl⟩ <;> exact ⟨rfl, rfl⟩) ?_
  show V l mdX12_init 93 1 40 66 74546 (ab_End _ _) 39 [(0, .ref 92)] [] (gst 97 2 0 102)
  refine V_aload_n 18 0 rfl rfl rfl ?_
  refine V_bipush 19 (v := (104 : Int32)) rfl (by decide) ?_
  refine V_newa 20 0 (ty := .int) (c := 20) (N := 104) rfl rfl (by decide) ac_int (fun _ => rfl) (fun _ _ => rfl) (fun _ _ => ⟨fun h9 => by first | exact absurd h9 (by decide) | rfl, fun h9 => by first | exact absurd rfl h9 | rfl⟩) (by decide) (by decide) (by decide) (gst_wf 97 2 0 102 (by decide +kernel)) (by decide +kernel) (by decide +kernel) (by decide +kernel) (by decide) (by decide) ?_
  show V l mdX12_init 93 1 40 65 74442 (ab_End _ _) 44 [(0, .ref 92)] [.ref 97, .ref 92] (gst 98 2 0 102)
  refine V_putRF (x := some 97) 21 10 rfl clX12 flX12_23 (by decide) rfl rfl rfl rfl (fun _ _ => rfl) (fun v9 h9 => by rcases h9 with rfl | ⟨a9, rfl⟩ <;> exact ⟨rfl, rfl⟩) ?_
  show V l mdX12_init 93 1 40 65 74442 (ab_End _ _) 47 [(0, .ref 92)] [] (gst 98 2 0 103)
  refine V_aload_n 22 0 rfl rfl rfl ?_
  refine V_sipush 23 (v := (832 : Int32)) rfl (by decide) ?_
  refine V_newa 24 0 (ty := .int) (c := 20) (N := 832) rfl rfl (by decide) ac_int (fun _ => rfl) (fun _ _ => rfl) (fun _ _ => ⟨fun h9 => by first | exact absurd h9 (by decide) | rfl, fun h9 => by first | exact absurd rfl h9 | rfl⟩) (by decide) (by decide) (by decide) (gst_wf 98 2 0 103 (by decide +kernel)) (by decide +kernel) (by decide +kernel) (by decide +kernel) (by decide) (by decide) ?_
  show V l mdX12_init 93 1 40 64 73610 (ab_End _ _) 53 [(0, .ref 92)] [.ref 98, .ref 92] (gst 99 2 0 103)
  refine V_putRF (x := some 98) 25 11 rfl clX12 flX12_26 (by decide) rfl rfl rfl rfl (fun _ _ => rfl) (fun v9 h9 => by rcases h9 with rfl | ⟨a9, rfl⟩ <;> exact ⟨rfl, rfl⟩) ?_
  show V l mdX12_init 93 1 40 64 73610 (ab_End _ _) 56 [(0, .ref 92)] [] (gst 99 2 0 104)
  refine V_aload_n 26 0 rfl rfl rfl ?_
  refine V_bipush 27 (v := (13 : Int32)) rfl (by decide) ?_
  refine V_newa 28 0 (ty := .int) (c := 20) (N := 13) rfl rfl (by decide) ac_int (fun _ => rfl) (fun _ _ => rfl) (fun _ _ => ⟨fun h9 => by first | exact absurd h9 (by decide) | rfl, fun h9 => by first | exact absurd rfl h9 | rfl⟩) (by decide) (by decide) (by decide) (gst_wf 99 2 0 104 (by decide +kernel)) (by decide +kernel) (by decide +kernel) (by decide +kernel) (by decide) (by decide) ?_
  show V l mdX12_init 93 1 40 63 73597 (ab_End _ _) 61 [(0, .ref 92)] [.ref 99, .ref 92] (gst 100 2 0 104)
  refine V_putRF (x := some 99) 29 12 rfl clX12 flX12_29 (by decide) rfl rfl rfl rfl (fun _ _ => rfl) (fun v9 h9 => by rcases h9 with rfl | ⟨a9, rfl⟩ <;> exact ⟨rfl, rfl⟩) ?_
  show V l mdX12_init 93 1 40 63 73597 (ab_End _ _) 64 [(0, .ref 92)] [] (gst 100 2 0 105)
  refine V_aload_n 30 0 rfl rfl rfl ?_
  refine V_bipush 31 (v := (13 : Int32)) rfl (by decide) ?_
  refine V_newa 32 0 (ty := .int) (c := 20) (N := 13) rfl rfl (by decide) ac_int (fun _ => rfl) (fun _ _ => rfl) (fun _ _ => ⟨fun h9 => by first | exact absurd h9 (by decide) | rfl, fun h9 => by first | exact absurd rfl h9 | rfl⟩) (by decide) (by decide) (by decide) (gst_wf 100 2 0 105 (by decide +kernel)) (by decide +kernel) (by decide +kernel) (by decide +kernel) (by decide) (by decide) ?_
  show V l mdX12_init 93 1 40 62 73584 (ab_End _ _) 69 [(0, .ref 92)] [.ref 100, .ref 92] (gst 101 2 0 105)
  refine V_putRF (x := some 100) 33 13 rfl clX12 flX12_32 (by decide) rfl rfl rfl rfl (fun _ _ => rfl) (fun v9 h9 => by rcases h9 with rfl | ⟨a9, rfl⟩ <;> exact ⟨rfl, rfl⟩) ?_
  show V l mdX12_init 93 1 40 62 73584 (ab_End _ _) 72 [(0, .ref 92)] [] (gst 101 2 0 106)
  refine V_aload_n 34 0 rfl rfl rfl ?_
  refine V_sipush 35 (v := (248 : Int32)) rfl (by decide) ?_
  refine V_newa 36 0 (ty := .int) (c := 20) (N := 248) rfl rfl (by decide) ac_int (fun _ => rfl) (fun _ _ => rfl) (fun _ _ => ⟨fun h9 => by first | exact absurd h9 (by decide) | rfl, fun h9 => by first | exact absurd rfl h9 | rfl⟩) (by decide) (by decide) (by decide) (gst_wf 101 2 0 106 (by decide +kernel)) (by decide +kernel) (by decide +kernel) (by decide +kernel) (by decide) (by decide) ?_
  show V l mdX12_init 93 1 40 61 73336 (ab_End _ _) 78 [(0, .ref 92)] [.ref 101, .ref 92] (gst 102 2 0 106)
  refine V_putRF (x := some 101) 37 15 rfl clX12 flX12_35 (by decide) rfl rfl rfl rfl (fun _ _ => rfl) (fun v9 h9 => by rcases h9 with rfl | ⟨a9, rfl⟩ <;> exact ⟨rfl, rfl⟩) ?_
  show V l mdX12_init 93 1 40 61 73336 (ab_End _ _) 81 [(0, .ref 92)] [] (gst 102 2 0 107)
  refine V_aload_n 38 0 rfl rfl rfl ?_
  refine V_bipush 39 (v := (31 : Int32)) rfl (by decide) ?_
  refine V_newa 40 2 (ty := .boolean) (c := 22) (N := 31) rfl rfl (by decide) ac_boolean (fun _ => rfl) (fun _ _ => rfl) (fun _ _ => ⟨fun h9 => by first | exact absurd h9 (by decide) | rfl, fun h9 => by first | exact absurd rfl h9 | rfl⟩) (by decide) (by decide) (by decide) (gst_wf 102 2 0 107 (by decide +kernel)) (by decide +kernel) (by decide +kernel) (by decide +kernel) (by decide) (by decide) ?_
  show V l mdX12_init 93 1 40 60 73305 (ab_End _ _) 86 [(0, .ref 92)] [.ref 102, .ref 92] (gst 103 2 0 107)
  refine V_putRF (x := some 102) 41 16 rfl clX12 flX12_38 (by decide) rfl rfl rfl rfl (fun _ _ => rfl) (fun v9 h9 => by rcases h9 with rfl | ⟨a9, rfl⟩ <;> exact ⟨rfl, rfl⟩) ?_
  show V l mdX12_init 93 1 40 60 73305 (ab_End _ _) 89 [(0, .ref 92)] [] (gst 103 2 0 108)
  refine V_aload_n 42 0 rfl rfl rfl ?_
  refine V_bipush 43 (v := (31 : Int32)) rfl (by decide) ?_
  refine V_newa 44 0 (ty := .int) (c := 20) (N := 31) rfl rfl (by decide) ac_int (fun _ => rfl) (fun _ _ => rfl) (fun _ _ => ⟨fun h9 => by first | exact absurd h9 (by decide) | rfl, fun h9 => by first | exact absurd rfl h9 | rfl⟩) (by decide) (by decide) (by decide) (gst_wf 103 2 0 108 (by decide +kernel)) (by decide +kernel) (by decide +kernel) (by decide +kernel) (by decide) (by decide) ?_
  show V l mdX12_init 93 1 40 59 73274 (ab_End _ _) 94 [(0, .ref 92)] [.ref 103, .ref 92] (gst 104 2 0 108)
  refine V_putRF (x := some 103) 45 17 rfl clX12 flX12_42 (by decide) rfl rfl rfl rfl (fun _ _ => rfl) (fun v9 h9 => by rcases h9 with rfl | ⟨a9, rfl⟩ <;> exact ⟨rfl, rfl⟩) ?_
  show V l mdX12_init 93 1 40 59 73274 (ab_End _ _) 97 [(0, .ref 92)] [] (gst 104 2 0 109)
  refine V_aload_n 46 0 rfl rfl rfl ?_
  refine V_bipush 47 (v := (124 : Int32)) rfl (by decide) ?_
  refine V_newa 48 0 (ty := .int) (c := 20) (N := 124) rfl rfl (by decide) ac_int (fun _ => rfl) (fun _ _ => rfl) (fun _ _ => ⟨fun h9 => by first | exact absurd h9 (by decide) | rfl, fun h9 => by first | exact absurd rfl h9 | rfl⟩) (by decide) (by decide) (by decide) (gst_wf 104 2 0 109 (by decide +kernel)) (by decide +kernel) (by decide +kernel) (by decide +kernel) (by decide) (by decide) ?_
  show V l mdX12_init 93 1 40 58 73150 (ab_End _ _) 102 [(0, .ref 92)] [.ref 104, .ref 92] (gst 105 2 0 109)
  refine V_putRF (x := some 104) 49 18 rfl clX12 flX12_45 (by decide) rfl rfl rfl rfl (fun _ _ => rfl) (fun v9 h9 => by rcases h9 with rfl | ⟨a9, rfl⟩ <;> exact ⟨rfl, rfl⟩) ?_
  show V l mdX12_init 93 1 40 58 73150 (ab_End _ _) 105 [(0, .ref 92)] [] (gst 105 2 0 110)
  refine V_aload_n 50 0 rfl rfl rfl ?_
  refine V_sipush 51 (v := (992 : Int32)) rfl (by decide) ?_
  refine V_newa 52 0 (ty := .int) (c := 20) (N := 992) rfl rfl (by decide) ac_int (fun _ => rfl) (fun _ _ => rfl) (fun _ _ => ⟨fun h9 => by first | exact absurd h9 (by decide) | rfl, fun h9 => by first | exact absurd rfl h9 | rfl⟩) (by decide) (by decide) (by decide) (gst_wf 105 2 0 110 (by decide +kernel)) (by decide +kernel) (by decide +kernel) (by decide +kernel) (by decide) (by decide) ?_
  show V l mdX12_init 93 1 40 57 72158 (ab_End _ _) 111 [(0, .ref 92)] [.ref 105, .ref 92] (gst 106 2 0 110)
  refine V_putRF (x := some 105) 53 19 rfl clX12 flX12_48 (by decide) rfl rfl rfl rfl (fun _ _ => rfl) (fun v9 h9 => by rcases h9 with rfl | ⟨a9, rfl⟩ <;> exact ⟨rfl, rfl⟩) ?_
  show V l mdX12_init 93 1 40 57 72158 (ab_End _ _) 114 [(0, .ref 92)] [] (gst 106 2 0 111)
  refine V_aload_n 54 0 rfl rfl rfl ?_
  refine V_sipush 55 (v := (992 : Int32)) rfl (by decide) ?_
  refine V_newa 56 0 (ty := .int) (c := 20) (N := 992) rfl rfl (by decide) ac_int (fun _ => rfl) (fun _ _ => rfl) (fun _ _ => ⟨fun h9 => by first | exact absurd h9 (by decide) | rfl, fun h9 => by first | exact absurd rfl h9 | rfl⟩) (by decide) (by decide) (by decide) (gst_wf 106 2 0 111 (by decide +kernel)) (by decide +kernel) (by decide +kernel) (by decide +kernel) (by decide) (by decide) ?_
  show V l mdX12_init 93 1 40 56 71166 (ab_End _ _) 120 [(0, .ref 92)] [.ref 106, .ref 92] (gst 107 2 0 111)
  refine V_putRF (x := some 106) 57 20 rfl clX12 flX12_51 (by decide) rfl rfl rfl rfl (fun _ _ => rfl) (fun v9 h9 => by rcases h9 with rfl | ⟨a9, rfl⟩ <;> exact ⟨rfl, rfl⟩) ?_
  show V l mdX12_init 93 1 40 56 71166 (ab_End _ _) 123 [(0, .ref 92)] [] (gst 107 2 0 112)
  refine V_aload_n 58 0 rfl rfl rfl ?_
  refine V_sipush 59 (v := (2500 : Int32)) rfl (by decide) ?_
  refine V_newa 60 0 (ty := .int) (c := 20) (N := 2500) rfl rfl (by decide) ac_int (fun _ => rfl) (fun _ _ => rfl) (fun _ _ => ⟨fun h9 => by first | exact absurd h9 (by decide) | rfl, fun h9 => by first | exact absurd rfl h9 | rfl⟩) (by decide) (by decide) (by decide) (gst_wf 107 2 0 112 (by decide +kernel)) (by decide +kernel) (by decide +kernel) (by decide +kernel) (by decide) (by decide) ?_
  show V l mdX12_init 93 1 40 55 68666 (ab_End _ _) 129 [(0, .ref 92)] [.ref 107, .ref 92] (gst 108 2 0 112)
  refine V_putRF (x := some 107) 61 22 rfl clX12 flX12_54 (by decide) rfl rfl rfl rfl (fun _ _ => rfl) (fun v9 h9 => by rcases h9 with rfl | ⟨a9, rfl⟩ <;> exact ⟨rfl, rfl⟩) ?_
  show V l mdX12_init 93 1 40 55 68666 (ab_End _ _) 132 [(0, .ref 92)] [] (gst 108 2 0 113)
  refine V_aload_n 62 0 rfl rfl rfl ?_
  refine V_sipush 63 (v := (2500 : Int32)) rfl (by decide) ?_
  refine V_newa 64 0 (ty := .int) (c := 20) (N := 2500) rfl rfl (by decide) ac_int (fun _ => rfl) (fun _ _ => rfl) (fun _ _ => ⟨fun h9 => by first | exact absurd h9 (by decide) | rfl, fun h9 => by first | exact absurd rfl h9 | rfl⟩) (by decide) (by decide) (by decide) (gst_wf 108 2 0 113 (by decide +kernel)) (by decide +kernel) (by decide +kernel) (by decide +kernel) (by decide) (by decide) ?_
  show V l mdX12_init 93 1 40 54 66166 (ab_End _ _) 138 [(0, .ref 92)] [.ref 108, .ref 92] (gst 109 2 0 113)
  refine V_putRF (x := some 108) 65 23 rfl clX12 flX12_57 (by decide) rfl rfl rfl rfl (fun _ _ => rfl) (fun v9 h9 => by rcases h9 with rfl | ⟨a9, rfl⟩ <;> exact ⟨rfl, rfl⟩) ?_
  show V l mdX12_init 93 1 40 54 66166 (ab_End _ _) 141 [(0, .ref 92)] [] (gst 109 2 0 114)
  refine V_aload_n 66 0 rfl rfl rfl ?_
  refine V_sipush 67 (v := (992 : Int32)) rfl (by decide) ?_
  refine V_newa 68 1 (ty := .long) (c := 21) (N := 992) rfl rfl (by decide) ac_long (fun _ => rfl) (fun _ _ => rfl) (fun _ _ => ⟨fun h9 => by first | exact absurd h9 (by decide) | rfl, fun h9 => by first | exact absurd rfl h9 | rfl⟩) (by decide) (by decide) (by decide) (gst_wf 109 2 0 114 (by decide +kernel)) (by decide +kernel) (by decide +kernel) (by decide +kernel) (by decide) (by decide) ?_
  show V l mdX12_init 93 1 40 53 65174 (ab_End _ _) 147 [(0, .ref 92)] [.ref 109, .ref 92] (gst 110 2 0 114)
  refine V_putRF (x := some 109) 69 24 rfl clX12 flX12_60 (by decide) rfl rfl rfl rfl (fun _ _ => rfl) (fun v9 h9 => by rcases h9 with rfl | ⟨a9, rfl⟩ <;> exact ⟨rfl, rfl⟩) ?_
  show V l mdX12_init 93 1 40 53 65174 (ab_End _ _) 150 [(0, .ref 92)] [] (gst 110 2 0 115)
  refine V_aload_n 70 0 rfl rfl rfl ?_
  refine V_bipush 71 (v := (104 : Int32)) rfl (by decide) ?_
  refine V_newa 72 1 (ty := .long) (c := 21) (N := 104) rfl rfl (by decide) ac_long (fun _ => rfl) (fun _ _ => rfl) (fun _ _ => ⟨fun h9 => by first | exact absurd h9 (by decide) | rfl, fun h9 => by first | exact absurd rfl h9 | rfl⟩) (by decide) (by decide) (by decide) (gst_wf 110 2 0 115 (by decide +kernel)) (by decide +kernel) (by decide +kernel) (by decide +kernel) (by decide) (by decide) ?_
  show V l mdX12_init 93 1 40 52 65070 (ab_End _ _) 155 [(0, .ref 92)] [.ref 110, .ref 92] (gst 111 2 0 115)
  refine V_putRF (x := some 110) 73 25 rfl clX12 flX12_63 (by decide) rfl rfl rfl rfl (fun _ _ => rfl) (fun v9 h9 => by rcases h9 with rfl | ⟨a9, rfl⟩ <;> exact ⟨rfl, rfl⟩) ?_
  show V l mdX12_init 93 1 40 52 65070 (ab_End _ _) 158 [(0, .ref 92)] [] (gst 111 2 0 116)
  refine V_aload_n 74 0 rfl rfl rfl ?_
  refine V_bipush 75 (v := (104 : Int32)) rfl (by decide) ?_
  refine V_newa 76 0 (ty := .int) (c := 20) (N := 104) rfl rfl (by decide) ac_int (fun _ => rfl) (fun _ _ => rfl) (fun _ _ => ⟨fun h9 => by first | exact absurd h9 (by decide) | rfl, fun h9 => by first | exact absurd rfl h9 | rfl⟩) (by decide) (by decide) (by decide) (gst_wf 111 2 0 116 (by decide +kernel)) (by decide +kernel) (by decide +kernel) (by decide +kernel) (by decide) (by decide) ?_
  show V l mdX12_init 93 1 40 51 64966 (ab_End _ _) 163 [(0, .ref 92)] [.ref 111, .ref 92] (gst 112 2 0 116)
  refine V_putRF (x := some 111) 77 26 rfl clX12 flX12_66 (by decide) rfl rfl rfl rfl (fun _ _ => rfl) (fun v9 h9 => by rcases h9 with rfl | ⟨a9, rfl⟩ <;> exact ⟨rfl, rfl⟩) ?_
  show V l mdX12_init 93 1 40 51 64966 (ab_End _ _) 166 [(0, .ref 92)] [] (gst 112 2 0 117)
  refine V_aload_n 78 0 rfl rfl rfl ?_
  refine V_bipush 79 (v := (13 : Int32)) rfl (by decide) ?_
  refine V_newa 80 0 (ty := .int) (c := 20) (N := 13) rfl rfl (by decide) ac_int (fun _ => rfl) (fun _ _ => rfl) (fun _ _ => ⟨fun h9 => by first | exact absurd h9 (by decide) | rfl, fun h9 => by first | exact absurd rfl h9 | rfl⟩) (by decide) (by decide) (by decide) (gst_wf 112 2 0 117 (by decide +kernel)) (by decide +kernel) (by decide +kernel) (by decide +kernel) (by decide) (by decide) ?_
  show V l mdX12_init 93 1 40 50 64953 (ab_End _ _) 171 [(0, .ref 92)] [.ref 112, .ref 92] (gst 113 2 0 117)
  refine V_putRF (x := some 112) 81 27 rfl clX12 flX12_69 (by decide) rfl rfl rfl rfl (fun _ _ => rfl) (fun v9 h9 => by rcases h9 with rfl | ⟨a9, rfl⟩ <;> exact ⟨rfl, rfl⟩) ?_
  show V l mdX12_init 93 1 40 50 64953 (ab_End _ _) 174 [(0, .ref 92)] [] (gst 113 2 0 118)
  refine V_aload_n 82 0 rfl rfl rfl ?_
  refine V_sipush 83 (v := (1600 : Int32)) rfl (by decide) ?_
  refine V_newa 84 0 (ty := .int) (c := 20) (N := 1600) rfl rfl (by decide) ac_int (fun _ => rfl) (fun _ _ => rfl) (fun _ _ => ⟨fun h9 => by first | exact absurd h9 (by decide) | rfl, fun h9 => by first | exact absurd rfl h9 | rfl⟩) (by decide) (by decide) (by decide) (gst_wf 113 2 0 118 (by decide +kernel)) (by decide +kernel) (by decide +kernel) (by decide +kernel) (by decide) (by decide) ?_
  show V l mdX12_init 93 1 40 49 63353 (ab_End _ _) 180 [(0, .ref 92)] [.ref 113, .ref 92] (gst 114 2 0 118)
  refine V_putRF (x := some 113) 85 29 rfl clX12 flX12_72 (by decide) rfl rfl rfl rfl (fun _ _ => rfl) (fun v9 h9 => by rcases h9 with rfl | ⟨a9, rfl⟩ <;> exact ⟨rfl, rfl⟩) ?_
  show V l mdX12_init 93 1 40 49 63353 (ab_End _ _) 183 [(0, .ref 92)] [] (gst 114 2 0 119)
  refine V_aload_n 86 0 rfl rfl rfl ?_
  refine V_sipush 87 (v := (187 : Int32)) rfl (by decide) ?_
  refine V_newa 88 0 (ty := .int) (c := 20) (N := 187) rfl rfl (by decide) ac_int (fun _ => rfl) (fun _ _ => rfl) (fun _ _ => ⟨fun h9 => by first | exact absurd h9 (by decide) | rfl, fun h9 => by first | exact absurd rfl h9 | rfl⟩) (by decide) (by decide) (by decide) (gst_wf 114 2 0 119 (by decide +kernel)) (by decide +kernel) (by decide +kernel) (by decide +kernel) (by decide) (by decide) ?_
  show V l mdX12_init 93 1 40 48 63166 (ab_End _ _) 189 [(0, .ref 92)] [.ref 114, .ref 92] (gst 115 2 0 119)
  refine V_putRF (x := some 114) 89 30 rfl clX12 flX12_75 (by decide) rfl rfl rfl rfl (fun _ _ => rfl) (fun v9 h9 => by rcases h9 with rfl | ⟨a9, rfl⟩ <;> exact ⟨rfl, rfl⟩) ?_
  show V l mdX12_init 93 1 40 48 63166 (ab_End _ _) 192 [(0, .ref 92)] [] (gst 115 2 0 120)
  refine V_aload_n 90 0 rfl rfl rfl ?_
  refine V_sipush 91 (v := (187 : Int32)) rfl (by decide) ?_
  refine V_newa 92 0 (ty := .int) (c := 20) (N := 187) rfl rfl (by decide) ac_int (fun _ => rfl) (fun _ _ => rfl) (fun _ _ => ⟨fun h9 => by first | exact absurd h9 (by decide) | rfl, fun h9 => by first | exact absurd rfl h9 | rfl⟩) (by decide) (by decide) (by decide) (gst_wf 115 2 0 120 (by decide +kernel)) (by decide +kernel) (by decide +kernel) (by decide +kernel) (by decide) (by decide) ?_
  show V l mdX12_init 93 1 40 47 62979 (ab_End _ _) 198 [(0, .ref 92)] [.ref 115, .ref 92] (gst 116 2 0 120)
  refine V_putRF (x := some 115) 93 31 rfl clX12 flX12_78 (by decide) rfl rfl rfl rfl (fun _ _ => rfl) (fun v9 h9 => by rcases h9 with rfl | ⟨a9, rfl⟩ <;> exact ⟨rfl, rfl⟩) ?_
  show V l mdX12_init 93 1 40 47 62979 (ab_End _ _) 201 [(0, .ref 92)] [] (gst 116 2 0 121)
  refine V_aload_n 94 0 rfl rfl rfl ?_
  refine V_sipush 95 (v := (992 : Int32)) rfl (by decide) ?_
  refine V_newa 96 0 (ty := .int) (c := 20) (N := 992) rfl rfl (by decide) ac_int (fun _ => rfl) (fun _ _ => rfl) (fun _ _ => ⟨fun h9 => by first | exact absurd h9 (by decide) | rfl, fun h9 => by first | exact absurd rfl h9 | rfl⟩) (by decide) (by decide) (by decide) (gst_wf 116 2 0 121 (by decide +kernel)) (by decide +kernel) (by decide +kernel) (by decide +kernel) (by decide) (by decide) ?_
  show V l mdX12_init 93 1 40 46 61987 (ab_End _ _) 207 [(0, .ref 92)] [.ref 116, .ref 92] (gst 117 2 0 121)
  refine V_putRF (x := some 116) 97 32 rfl clX12 flX12_81 (by decide) rfl rfl rfl rfl (fun _ _ => rfl) (fun v9 h9 => by rcases h9 with rfl | ⟨a9, rfl⟩ <;> exact ⟨rfl, rfl⟩) ?_
  show V l mdX12_init 93 1 40 46 61987 (ab_End _ _) 210 [(0, .ref 92)] [] (gst 117 2 0 122)
  refine V_aload_n 98 0 rfl rfl rfl ?_
  refine V_sipush 99 (v := (992 : Int32)) rfl (by decide) ?_
  refine V_newa 100 0 (ty := .int) (c := 20) (N := 992) rfl rfl (by decide) ac_int (fun _ => rfl) (fun _ _ => rfl) (fun _ _ => ⟨fun h9 => by first | exact absurd h9 (by decide) | rfl, fun h9 => by first | exact absurd rfl h9 | rfl⟩) (by decide) (by decide) (by decide) (gst_wf 117 2 0 122 (by decide +kernel)) (by decide +kernel) (by decide +kernel) (by decide +kernel) (by decide) (by decide) ?_
  show V l mdX12_init 93 1 40 45 60995 (ab_End _ _) 216 [(0, .ref 92)] [.ref 117, .ref 92] (gst 118 2 0 122)
  refine V_putRF (x := some 117) 101 33 rfl clX12 flX12_84 (by decide) rfl rfl rfl rfl (fun _ _ => rfl) (fun v9 h9 => by rcases h9 with rfl | ⟨a9, rfl⟩ <;> exact ⟨rfl, rfl⟩) ?_
  show V l mdX12_init 93 1 40 45 60995 (ab_End _ _) 219 [(0, .ref 92)] [] (gst 118 2 0 123)
  refine V_aload_n 102 0 rfl rfl rfl ?_
  refine V_sipush 103 (v := (744 : Int32)) rfl (by decide) ?_
  refine V_newa 104 0 (ty := .int) (c := 20) (N := 744) rfl rfl (by decide) ac_int (fun _ => rfl) (fun _ _ => rfl) (fun _ _ => ⟨fun h9 => by first | exact absurd h9 (by decide) | rfl, fun h9 => by first | exact absurd rfl h9 | rfl⟩) (by decide) (by decide) (by decide) (gst_wf 118 2 0 123 (by decide +kernel)) (by decide +kernel) (by decide +kernel) (by decide +kernel) (by decide) (by decide) ?_
  show V l mdX12_init 93 1 40 44 60251 (ab_End _ _) 225 [(0, .ref 92)] [.ref 118, .ref 92] (gst 119 2 0 123)
  refine V_putRF (x := some 118) 105 34 rfl clX12 flX12_87 (by decide) rfl rfl rfl rfl (fun _ _ => rfl) (fun v9 h9 => by rcases h9 with rfl | ⟨a9, rfl⟩ <;> exact ⟨rfl, rfl⟩) ?_
  show V l mdX12_init 93 1 40 44 60251 (ab_End _ _) 228 [(0, .ref 92)] [] (gst 119 2 0 124)
  refine V_aload_n 106 0 rfl rfl rfl ?_
  refine V_sipush 107 (v := (744 : Int32)) rfl (by decide) ?_
  refine V_newa 108 0 (ty := .int) (c := 20) (N := 744) rfl rfl (by decide) ac_int (fun _ => rfl) (fun _ _ => rfl) (fun _ _ => ⟨fun h9 => by first | exact absurd h9 (by decide) | rfl, fun h9 => by first | exact absurd rfl h9 | rfl⟩) (by decide) (by decide) (by decide) (gst_wf 119 2 0 124 (by decide +kernel)) (by decide +kernel) (by decide +kernel) (by decide +kernel) (by decide) (by decide) ?_
  show V l mdX12_init 93 1 40 43 59507 (ab_End _ _) 234 [(0, .ref 92)] [.ref 119, .ref 92] (gst 120 2 0 124)
  refine V_putRF (x := some 119) 109 35 rfl clX12 flX12_90 (by decide) rfl rfl rfl rfl (fun _ _ => rfl) (fun v9 h9 => by rcases h9 with rfl | ⟨a9, rfl⟩ <;> exact ⟨rfl, rfl⟩) ?_
  show V l mdX12_init 93 1 40 43 59507 (ab_End _ _) 237 [(0, .ref 92)] [] (gst 120 2 0 125)
  refine V_aload_n 110 0 rfl rfl rfl ?_
  refine V_bipush 111 (v := (32 : Int32)) rfl (by decide) ?_
  refine V_newa 112 2 (ty := .boolean) (c := 22) (N := 32) rfl rfl (by decide) ac_boolean (fun _ => rfl) (fun _ _ => rfl) (fun _ _ => ⟨fun h9 => by first | exact absurd h9 (by decide) | rfl, fun h9 => by first | exact absurd rfl h9 | rfl⟩) (by decide) (by decide) (by decide) (gst_wf 120 2 0 125 (by decide +kernel)) (by decide +kernel) (by decide +kernel) (by decide +kernel) (by decide) (by decide) ?_
  show V l mdX12_init 93 1 40 42 59475 (ab_End _ _) 242 [(0, .ref 92)] [.ref 120, .ref 92] (gst 121 2 0 125)
  refine V_putRF (x := some 120) 113 36 rfl clX12 flX12_93 (by decide) rfl rfl rfl rfl (fun _ _ => rfl) (fun v9 h9 => by rcases h9 with rfl | ⟨a9, rfl⟩ <;> exact ⟨rfl, rfl⟩) ?_
  show V l mdX12_init 93 1 40 42 59475 (ab_End _ _) 245 [(0, .ref 92)] [] (gst 121 2 0 126)
  refine V_aload_n 114 0 rfl rfl rfl ?_
  refine V_iconst 115 (v := (4 : Int32)) rfl (by decide) ?_
  refine V_newa 116 0 (ty := .int) (c := 20) (N := 4) rfl rfl (by decide) ac_int (fun _ => rfl) (fun _ _ => rfl) (fun _ _ => ⟨fun h9 => by first | exact absurd h9 (by decide) | rfl, fun h9 => by first | exact absurd rfl h9 | rfl⟩) (by decide) (by decide) (by decide) (gst_wf 121 2 0 126 (by decide +kernel)) (by decide +kernel) (by decide +kernel) (by decide +kernel) (by decide) (by decide) ?_
  show V l mdX12_init 93 1 40 41 59471 (ab_End _ _) 249 [(0, .ref 92)] [.ref 121, .ref 92] (gst 122 2 0 126)
  refine V_putRF (x := some 121) 117 37 rfl clX12 flX12_96 (by decide) rfl rfl rfl rfl (fun _ _ => rfl) (fun v9 h9 => by rcases h9 with rfl | ⟨a9, rfl⟩ <;> exact ⟨rfl, rfl⟩) ?_
  show V l mdX12_init 93 1 40 41 59471 (ab_End _ _) 252 [(0, .ref 92)] [] (gst 122 2 0 127)
  refine V_aload_n 118 0 rfl rfl rfl ?_
  refine V_sipush 119 (v := (8112 : Int32)) rfl (by decide) ?_
  refine V_newa 120 2 (ty := .boolean) (c := 22) (N := 8112) rfl rfl (by decide) ac_boolean (fun _ => rfl) (fun _ _ => rfl) (fun _ _ => ⟨fun h9 => by first | exact absurd h9 (by decide) | rfl, fun h9 => by first | exact absurd rfl h9 | rfl⟩) (by decide) (by decide) (by decide) (gst_wf 122 2 0 127 (by decide +kernel)) (by decide +kernel) (by decide +kernel) (by decide +kernel) (by decide) (by decide) ?_
  show V l mdX12_init 93 1 40 40 51359 (ab_End _ _) 258 [(0, .ref 92)] [.ref 122, .ref 92] (gst 123 2 0 127)
  refine V_putRF (x := some 122) 121 38 rfl clX12 flX12_99 (by decide) rfl rfl rfl rfl (fun _ _ => rfl) (fun v9 h9 => by rcases h9 with rfl | ⟨a9, rfl⟩ <;> exact ⟨rfl, rfl⟩) ?_
  show V l mdX12_init 93 1 40 40 51359 (ab_End _ _) 261 [(0, .ref 92)] [] (gst 123 2 0 128)
  refine V_aload_n 122 0 rfl rfl rfl ?_
  refine V_bipush 123 (v := (104 : Int32)) rfl (by decide) ?_
  refine V_newa 124 0 (ty := .int) (c := 20) (N := 104) rfl rfl (by decide) ac_int (fun _ => rfl) (fun _ _ => rfl) (fun _ _ => ⟨fun h9 => by first | exact absurd h9 (by decide) | rfl, fun h9 => by first | exact absurd rfl h9 | rfl⟩) (by decide) (by decide) (by decide) (gst_wf 123 2 0 128 (by decide +kernel)) (by decide +kernel) (by decide +kernel) (by decide +kernel) (by decide) (by decide) ?_
  show V l mdX12_init 93 1 40 39 51255 (ab_End _ _) 266 [(0, .ref 92)] [.ref 123, .ref 92] (gst 124 2 0 128)
  refine V_putRF (x := some 123) 125 39 rfl clX12 flX12_102 (by decide) rfl rfl rfl rfl (fun _ _ => rfl) (fun v9 h9 => by rcases h9 with rfl | ⟨a9, rfl⟩ <;> exact ⟨rfl, rfl⟩) ?_
  show V l mdX12_init 93 1 40 39 51255 (ab_End _ _) 269 [(0, .ref 92)] [] (gst 124 2 0 129)
  refine V_aload_n 126 0 rfl rfl rfl ?_
  refine V_bipush 127 (v := (40 : Int32)) rfl (by decide) ?_
  refine V_newa 128 0 (ty := .int) (c := 20) (N := 40) rfl rfl (by decide) ac_int (fun _ => rfl) (fun _ _ => rfl) (fun _ _ => ⟨fun h9 => by first | exact absurd h9 (by decide) | rfl, fun h9 => by first | exact absurd rfl h9 | rfl⟩) (by decide) (by decide) (by decide) (gst_wf 124 2 0 129 (by decide +kernel)) (by decide +kernel) (by decide +kernel) (by decide +kernel) (by decide) (by decide) ?_
  show V l mdX12_init 93 1 40 38 51215 (ab_End _ _) 274 [(0, .ref 92)] [.ref 124, .ref 92] (gst 125 2 0 129)
  refine V_putRF (x := some 124) 129 46 rfl clX12 flX12_105 (by decide) rfl rfl rfl rfl (fun _ _ => rfl) (fun v9 h9 => by rcases h9 with rfl | ⟨a9, rfl⟩ <;> exact ⟨rfl, rfl⟩) ?_
  show V l mdX12_init 93 1 40 38 51215 (ab_End _ _) 277 [(0, .ref 92)] [] (gst 125 2 0 130)
  refine V_aload_n 130 0 rfl rfl rfl ?_
  refine V_bipush 131 (v := (40 : Int32)) rfl (by decide) ?_
  refine V_newa 132 2 (ty := .boolean) (c := 22) (N := 40) rfl rfl (by decide) ac_boolean (fun _ => rfl) (fun _ _ => rfl) (fun _ _ => ⟨fun h9 => by first | exact absurd h9 (by decide) | rfl, fun h9 => by first | exact absurd rfl h9 | rfl⟩) (by decide) (by decide) (by decide) (gst_wf 125 2 0 130 (by decide +kernel)) (by decide +kernel) (by decide +kernel) (by decide +kernel) (by decide) (by decide) ?_
  show V l mdX12_init 93 1 40 37 51175 (ab_End _ _) 282 [(0, .ref 92)] [.ref 125, .ref 92] (gst 126 2 0 130)
  refine V_putRF (x := some 125) 133 47 rfl clX12 flX12_108 (by decide) rfl rfl rfl rfl (fun _ _ => rfl) (fun v9 h9 => by rcases h9 with rfl | ⟨a9, rfl⟩ <;> exact ⟨rfl, rfl⟩) ?_
  show V l mdX12_init 93 1 40 37 51175 (ab_End _ _) 285 [(0, .ref 92)] [] (gst 126 2 0 131)
  refine V_aload_n 134 0 rfl rfl rfl ?_
  refine V_bipush 135 (v := (40 : Int32)) rfl (by decide) ?_
  refine V_newa 136 0 (ty := .int) (c := 20) (N := 40) rfl rfl (by decide) ac_int (fun _ => rfl) (fun _ _ => rfl) (fun _ _ => ⟨fun h9 => by first | exact absurd h9 (by decide) | rfl, fun h9 => by first | exact absurd rfl h9 | rfl⟩) (by decide) (by decide) (by decide) (gst_wf 126 2 0 131 (by decide +kernel)) (by decide +kernel) (by decide +kernel) (by decide +kernel) (by decide) (by decide) ?_
  show V l mdX12_init 93 1 40 36 51135 (ab_End _ _) 290 [(0, .ref 92)] [.ref 126, .ref 92] (gst 127 2 0 131)
  refine V_putRF (x := some 126) 137 48 rfl clX12 flX12_111 (by decide) rfl rfl rfl rfl (fun _ _ => rfl) (fun v9 h9 => by rcases h9 with rfl | ⟨a9, rfl⟩ <;> exact ⟨rfl, rfl⟩) ?_
  show V l mdX12_init 93 1 40 36 51135 (ab_End _ _) 293 [(0, .ref 92)] [] (gst 127 2 0 132)
  refine V_aload_n 138 0 rfl rfl rfl ?_
  refine V_bipush 139 (v := (80 : Int32)) rfl (by decide) ?_
  refine V_newa 140 0 (ty := .int) (c := 20) (N := 80) rfl rfl (by decide) ac_int (fun _ => rfl) (fun _ _ => rfl) (fun _ _ => ⟨fun h9 => by first | exact absurd h9 (by decide) | rfl, fun h9 => by first | exact absurd rfl h9 | rfl⟩) (by decide) (by decide) (by decide) (gst_wf 127 2 0 132 (by decide +kernel)) (by decide +kernel) (by decide +kernel) (by decide +kernel) (by decide) (by decide) ?_
  show V l mdX12_init 93 1 40 35 51055 (ab_End _ _) 298 [(0, .ref 92)] [.ref 127, .ref 92] (gst 128 2 0 132)
  refine V_putRF (x := some 127) 141 50 rfl clX12 flX12_114 (by decide) rfl rfl rfl rfl (fun _ _ => rfl) (fun v9 h9 => by rcases h9 with rfl | ⟨a9, rfl⟩ <;> exact ⟨rfl, rfl⟩) ?_
  show V l mdX12_init 93 1 40 35 51055 (ab_End _ _) 301 [(0, .ref 92)] [] (gst 128 2 0 133)
  refine V_aload_n 142 0 rfl rfl rfl ?_
  refine V_sipush 143 (v := (251 : Int32)) rfl (by decide) ?_
  refine V_newa 144 0 (ty := .int) (c := 20) (N := 251) rfl rfl (by decide) ac_int (fun _ => rfl) (fun _ _ => rfl) (fun _ _ => ⟨fun h9 => by first | exact absurd h9 (by decide) | rfl, fun h9 => by first | exact absurd rfl h9 | rfl⟩) (by decide) (by decide) (by decide) (gst_wf 128 2 0 133 (by decide +kernel)) (by decide +kernel) (by decide +kernel) (by decide +kernel) (by decide) (by decide) ?_
  show V l mdX12_init 93 1 40 34 50804 (ab_End _ _) 307 [(0, .ref 92)] [.ref 128, .ref 92] (gst 129 2 0 133)
  refine V_putRF (x := some 128) 145 54 rfl clX12 flX12_117 (by decide) rfl rfl rfl rfl (fun _ _ => rfl) (fun v9 h9 => by rcases h9 with rfl | ⟨a9, rfl⟩ <;> exact ⟨rfl, rfl⟩) ?_
  show V l mdX12_init 93 1 40 34 50804 (ab_End _ _) 310 [(0, .ref 92)] [] (gst 129 2 0 134)
  refine V_aload_n 146 0 rfl rfl rfl ?_
  refine V_sipush 147 (v := (251 : Int32)) rfl (by decide) ?_
  refine V_newa 148 0 (ty := .int) (c := 20) (N := 251) rfl rfl (by decide) ac_int (fun _ => rfl) (fun _ _ => rfl) (fun _ _ => ⟨fun h9 => by first | exact absurd h9 (by decide) | rfl, fun h9 => by first | exact absurd rfl h9 | rfl⟩) (by decide) (by decide) (by decide) (gst_wf 129 2 0 134 (by decide +kernel)) (by decide +kernel) (by decide +kernel) (by decide +kernel) (by decide) (by decide) ?_
  show V l mdX12_init 93 1 40 33 50553 (ab_End _ _) 316 [(0, .ref 92)] [.ref 129, .ref 92] (gst 130 2 0 134)
  refine V_putRF (x := some 129) 149 55 rfl clX12 flX12_120 (by decide) rfl rfl rfl rfl (fun _ _ => rfl) (fun v9 h9 => by rcases h9 with rfl | ⟨a9, rfl⟩ <;> exact ⟨rfl, rfl⟩) ?_
  show V l mdX12_init 93 1 40 33 50553 (ab_End _ _) 319 [(0, .ref 92)] [] (gst 130 2 0 135)
  refine V_aload_n 150 0 rfl rfl rfl ?_
  refine V_sipush 151 (v := (251 : Int32)) rfl (by decide) ?_
  refine V_newa 152 0 (ty := .int) (c := 20) (N := 251) rfl rfl (by decide) ac_int (fun _ => rfl) (fun _ _ => rfl) (fun _ _ => ⟨fun h9 => by first | exact absurd h9 (by decide) | rfl, fun h9 => by first | exact absurd rfl h9 | rfl⟩) (by decide) (by decide) (by decide) (gst_wf 130 2 0 135 (by decide +kernel)) (by decide +kernel) (by decide +kernel) (by decide +kernel) (by decide) (by decide) ?_
  show V l mdX12_init 93 1 40 32 50302 (ab_End _ _) 325 [(0, .ref 92)] [.ref 130, .ref 92] (gst 131 2 0 135)
  refine V_putRF (x := some 130) 153 56 rfl clX12 flX12_123 (by decide) rfl rfl rfl rfl (fun _ _ => rfl) (fun v9 h9 => by rcases h9 with rfl | ⟨a9, rfl⟩ <;> exact ⟨rfl, rfl⟩) ?_
  show V l mdX12_init 93 1 40 32 50302 (ab_End _ _) 328 [(0, .ref 92)] [] (gst 131 2 0 136)
  refine V_aload_n 154 0 rfl rfl rfl ?_
  refine V_sipush 155 (v := (251 : Int32)) rfl (by decide) ?_
  refine V_newa 156 0 (ty := .int) (c := 20) (N := 251) rfl rfl (by decide) ac_int (fun _ => rfl) (fun _ _ => rfl) (fun _ _ => ⟨fun h9 => by first | exact absurd h9 (by decide) | rfl, fun h9 => by first | exact absurd rfl h9 | rfl⟩) (by decide) (by decide) (by decide) (gst_wf 131 2 0 136 (by decide +kernel)) (by decide +kernel) (by decide +kernel) (by decide +kernel) (by decide) (by decide) ?_
  show V l mdX12_init 93 1 40 31 50051 (ab_End _ _) 334 [(0, .ref 92)] [.ref 131, .ref 92] (gst 132 2 0 136)
  refine V_putRF (x := some 131) 157 57 rfl clX12 flX12_126 (by decide) rfl rfl rfl rfl (fun _ _ => rfl) (fun v9 h9 => by rcases h9 with rfl | ⟨a9, rfl⟩ <;> exact ⟨rfl, rfl⟩) ?_
  show V l mdX12_init 93 1 40 31 50051 (ab_End _ _) 337 [(0, .ref 92)] [] (gst 132 2 0 137)
  refine V_aload_n 158 0 rfl rfl rfl ?_
  refine V_sipush 159 (v := (753 : Int32)) rfl (by decide) ?_
  refine V_newa 160 0 (ty := .int) (c := 20) (N := 753) rfl rfl (by decide) ac_int (fun _ => rfl) (fun _ _ => rfl) (fun _ _ => ⟨fun h9 => by first | exact absurd h9 (by decide) | rfl, fun h9 => by first | exact absurd rfl h9 | rfl⟩) (by decide) (by decide) (by decide) (gst_wf 132 2 0 137 (by decide +kernel)) (by decide +kernel) (by decide +kernel) (by decide +kernel) (by decide) (by decide) ?_
  show V l mdX12_init 93 1 40 30 49298 (ab_End _ _) 343 [(0, .ref 92)] [.ref 132, .ref 92] (gst 133 2 0 137)
  refine V_putRF (x := some 132) 161 58 rfl clX12 flX12_129 (by decide) rfl rfl rfl rfl (fun _ _ => rfl) (fun v9 h9 => by rcases h9 with rfl | ⟨a9, rfl⟩ <;> exact ⟨rfl, rfl⟩) ?_
  show V l mdX12_init 93 1 40 30 49298 (ab_End _ _) 346 [(0, .ref 92)] [] (gst 133 2 0 138)
  refine V_aload_n 162 0 rfl rfl rfl ?_
  refine V_sipush 163 (v := (251 : Int32)) rfl (by decide) ?_
  refine V_newa 164 0 (ty := .int) (c := 20) (N := 251) rfl rfl (by decide) ac_int (fun _ => rfl) (fun _ _ => rfl) (fun _ _ => ⟨fun h9 => by first | exact absurd h9 (by decide) | rfl, fun h9 => by first | exact absurd rfl h9 | rfl⟩) (by decide) (by decide) (by decide) (gst_wf 133 2 0 138 (by decide +kernel)) (by decide +kernel) (by decide +kernel) (by decide +kernel) (by decide) (by decide) ?_
  show V l mdX12_init 93 1 40 29 49047 (ab_End _ _) 352 [(0, .ref 92)] [.ref 133, .ref 92] (gst 134 2 0 138)
  refine V_putRF (x := some 133) 165 60 rfl clX12 flX12_132 (by decide) rfl rfl rfl rfl (fun _ _ => rfl) (fun v9 h9 => by rcases h9 with rfl | ⟨a9, rfl⟩ <;> exact ⟨rfl, rfl⟩) ?_
  show V l mdX12_init 93 1 40 29 49047 (ab_End _ _) 355 [(0, .ref 92)] [] (gst 134 2 0 139)
  refine V_aload_n 166 0 rfl rfl rfl ?_
  refine V_sipush 167 (v := (251 : Int32)) rfl (by decide) ?_
  refine V_newa 168 0 (ty := .int) (c := 20) (N := 251) rfl rfl (by decide) ac_int (fun _ => rfl) (fun _ _ => rfl) (fun _ _ => ⟨fun h9 => by first | exact absurd h9 (by decide) | rfl, fun h9 => by first | exact absurd rfl h9 | rfl⟩) (by decide) (by decide) (by decide) (gst_wf 134 2 0 139 (by decide +kernel)) (by decide +kernel) (by decide +kernel) (by decide +kernel) (by decide) (by decide) ?_
  show V l mdX12_init 93 1 40 28 48796 (ab_End _ _) 361 [(0, .ref 92)] [.ref 134, .ref 92] (gst 135 2 0 139)
  refine V_putRF (x := some 134) 169 61 rfl clX12 flX12_135 (by decide) rfl rfl rfl rfl (fun _ _ => rfl) (fun v9 h9 => by rcases h9 with rfl | ⟨a9, rfl⟩ <;> exact ⟨rfl, rfl⟩) ?_
  show V l mdX12_init 93 1 40 28 48796 (ab_End _ _) 364 [(0, .ref 92)] [] (gst 135 2 0 140)
  refine V_aload_n 170 0 rfl rfl rfl ?_
  refine V_sipush 171 (v := (251 : Int32)) rfl (by decide) ?_
  refine V_newa 172 0 (ty := .int) (c := 20) (N := 251) rfl rfl (by decide) ac_int (fun _ => rfl) (fun _ _ => rfl) (fun _ _ => ⟨fun h9 => by first | exact absurd h9 (by decide) | rfl, fun h9 => by first | exact absurd rfl h9 | rfl⟩) (by decide) (by decide) (by decide) (gst_wf 135 2 0 140 (by decide +kernel)) (by decide +kernel) (by decide +kernel) (by decide +kernel) (by decide) (by decide) ?_
  show V l mdX12_init 93 1 40 27 48545 (ab_End _ _) 370 [(0, .ref 92)] [.ref 135, .ref 92] (gst 136 2 0 140)
  refine V_putRF (x := some 135) 173 62 rfl clX12 flX12_138 (by decide) rfl rfl rfl rfl (fun _ _ => rfl) (fun v9 h9 => by rcases h9 with rfl | ⟨a9, rfl⟩ <;> exact ⟨rfl, rfl⟩) ?_
  show V l mdX12_init 93 1 40 27 48545 (ab_End _ _) 373 [(0, .ref 92)] [] (gst 136 2 0 141)
  refine V_aload_n 174 0 rfl rfl rfl ?_
  refine V_sipush 175 (v := (251 : Int32)) rfl (by decide) ?_
  refine V_newa 176 0 (ty := .int) (c := 20) (N := 251) rfl rfl (by decide) ac_int (fun _ => rfl) (fun _ _ => rfl) (fun _ _ => ⟨fun h9 => by first | exact absurd h9 (by decide) | rfl, fun h9 => by first | exact absurd rfl h9 | rfl⟩) (by decide) (by decide) (by decide) (gst_wf 136 2 0 141 (by decide +kernel)) (by decide +kernel) (by decide +kernel) (by decide +kernel) (by decide) (by decide) ?_
  show V l mdX12_init 93 1 40 26 48294 (ab_End _ _) 379 [(0, .ref 92)] [.ref 136, .ref 92] (gst 137 2 0 141)
  refine V_putRF (x := some 136) 177 63 rfl clX12 flX12_141 (by decide) rfl rfl rfl rfl (fun _ _ => rfl) (fun v9 h9 => by rcases h9 with rfl | ⟨a9, rfl⟩ <;> exact ⟨rfl, rfl⟩) ?_
  show V l mdX12_init 93 1 40 26 48294 (ab_End _ _) 382 [(0, .ref 92)] [] (gst 137 2 0 142)
  refine V_aload_n 178 0 rfl rfl rfl ?_
  refine V_sipush 179 (v := (251 : Int32)) rfl (by decide) ?_
  refine V_newa 180 0 (ty := .int) (c := 20) (N := 251) rfl rfl (by decide) ac_int (fun _ => rfl) (fun _ _ => rfl) (fun _ _ => ⟨fun h9 => by first | exact absurd h9 (by decide) | rfl, fun h9 => by first | exact absurd rfl h9 | rfl⟩) (by decide) (by decide) (by decide) (gst_wf 137 2 0 142 (by decide +kernel)) (by decide +kernel) (by decide +kernel) (by decide +kernel) (by decide) (by decide) ?_
  show V l mdX12_init 93 1 40 25 48043 (ab_End _ _) 388 [(0, .ref 92)] [.ref 137, .ref 92] (gst 138 2 0 142)
  refine V_putRF (x := some 137) 181 65 rfl clX12 flX12_144 (by decide) rfl rfl rfl rfl (fun _ _ => rfl) (fun v9 h9 => by rcases h9 with rfl | ⟨a9, rfl⟩ <;> exact ⟨rfl, rfl⟩) ?_
  show V l mdX12_init 93 1 40 25 48043 (ab_End _ _) 391 [(0, .ref 92)] [] (gst 138 2 0 143)
  refine V_aload_n 182 0 rfl rfl rfl ?_
  refine V_sipush 183 (v := (251 : Int32)) rfl (by decide) ?_
  refine V_newa 184 0 (ty := .int) (c := 20) (N := 251) rfl rfl (by decide) ac_int (fun _ => rfl) (fun _ _ => rfl) (fun _ _ => ⟨fun h9 => by first | exact absurd h9 (by decide) | rfl, fun h9 => by first | exact absurd rfl h9 | rfl⟩) (by decide) (by decide) (by decide) (gst_wf 138 2 0 143 (by decide +kernel)) (by decide +kernel) (by decide +kernel) (by decide +kernel) (by decide) (by decide) ?_
  show V l mdX12_init 93 1 40 24 47792 (ab_End _ _) 397 [(0, .ref 92)] [.ref 138, .ref 92] (gst 139 2 0 143)
  refine V_putRF (x := some 138) 185 66 rfl clX12 flX12_147 (by decide) rfl rfl rfl rfl (fun _ _ => rfl) (fun v9 h9 => by rcases h9 with rfl | ⟨a9, rfl⟩ <;> exact ⟨rfl, rfl⟩) ?_
  show V l mdX12_init 93 1 40 24 47792 (ab_End _ _) 400 [(0, .ref 92)] [] (gst 139 2 0 144)
  refine V_aload_n 186 0 rfl rfl rfl ?_
  refine V_sipush 187 (v := (2000 : Int32)) rfl (by decide) ?_
  refine V_newa 188 0 (ty := .int) (c := 20) (N := 2000) rfl rfl (by decide) ac_int (fun _ => rfl) (fun _ _ => rfl) (fun _ _ => ⟨fun h9 => by first | exact absurd h9 (by decide) | rfl, fun h9 => by first | exact absurd rfl h9 | rfl⟩) (by decide) (by decide) (by decide) (gst_wf 139 2 0 144 (by decide +kernel)) (by decide +kernel) (by decide +kernel) (by decide +kernel) (by decide) (by decide) ?_
  show V l mdX12_init 93 1 40 23 45792 (ab_End _ _) 406 [(0, .ref 92)] [.ref 139, .ref 92] (gst 140 2 0 144)
  refine V_putRF (x := some 139) 189 67 rfl clX12 flX12_150 (by decide) rfl rfl rfl rfl (fun _ _ => rfl) (fun v9 h9 => by rcases h9 with rfl | ⟨a9, rfl⟩ <;> exact ⟨rfl, rfl⟩) ?_
  show V l mdX12_init 93 1 40 23 45792 (ab_End _ _) 409 [(0, .ref 92)] [] (gst 140 2 0 145)
  refine V_aload_n 190 0 rfl rfl rfl ?_
  refine V_sipush 191 (v := (2000 : Int32)) rfl (by decide) ?_
  refine V_newa 192 2 (ty := .boolean) (c := 22) (N := 2000) rfl rfl (by decide) ac_boolean (fun _ => rfl) (fun _ _ => rfl) (fun _ _ => ⟨fun h9 => by first | exact absurd h9 (by decide) | rfl, fun h9 => by first | exact absurd rfl h9 | rfl⟩) (by decide) (by decide) (by decide) (gst_wf 140 2 0 145 (by decide +kernel)) (by decide +kernel) (by decide +kernel) (by decide +kernel) (by decide) (by decide) ?_
  show V l mdX12_init 93 1 40 22 43792 (ab_End _ _) 415 [(0, .ref 92)] [.ref 140, .ref 92] (gst 141 2 0 145)
  refine V_putRF (x := some 140) 193 68 rfl clX12 flX12_153 (by decide) rfl rfl rfl rfl (fun _ _ => rfl) (fun v9 h9 => by rcases h9 with rfl | ⟨a9, rfl⟩ <;> exact ⟨rfl, rfl⟩) ?_
  show V l mdX12_init 93 1 40 22 43792 (ab_End _ _) 418 [(0, .ref 92)] [] (gst 141 2 0 146)
  refine V_aload_n 194 0 rfl rfl rfl ?_
  refine V_sipush 195 (v := (2000 : Int32)) rfl (by decide) ?_
  refine V_newa 196 2 (ty := .boolean) (c := 22) (N := 2000) rfl rfl (by decide) ac_boolean (fun _ => rfl) (fun _ _ => rfl) (fun _ _ => ⟨fun h9 => by first | exact absurd h9 (by decide) | rfl, fun h9 => by first | exact absurd rfl h9 | rfl⟩) (by decide) (by decide) (by decide) (gst_wf 141 2 0 146 (by decide +kernel)) (by decide +kernel) (by decide +kernel) (by decide +kernel) (by decide) (by decide) ?_
  show V l mdX12_init 93 1 40 21 41792 (ab_End _ _) 424 [(0, .ref 92)] [.ref 141, .ref 92] (gst 142 2 0 146)
  refine V_putRF (x := some 141) 197 69 rfl clX12 flX12_156 (by decide) rfl rfl rfl rfl (fun _ _ => rfl) (fun v9 h9 => by rcases h9 with rfl | ⟨a9, rfl⟩ <;> exact ⟨rfl, rfl⟩) ?_
  show V l mdX12_init 93 1 40 21 41792 (ab_End _ _) 427 [(0, .ref 92)] [] (gst 142 2 0 147)
  refine V_aload_n 198 0 rfl rfl rfl ?_
  refine V_sipush 199 (v := (2000 : Int32)) rfl (by decide) ?_
  refine V_newa 200 0 (ty := .int) (c := 20) (N := 2000) rfl rfl (by decide) ac_int (fun _ => rfl) (fun _ _ => rfl) (fun _ _ => ⟨fun h9 => by first | exact absurd h9 (by decide) | rfl, fun h9 => by first | exact absurd rfl h9 | rfl⟩) (by decide) (by decide) (by decide) (gst_wf 142 2 0 147 (by decide +kernel)) (by decide +kernel) (by decide +kernel) (by decide +kernel) (by decide) (by decide) ?_
  show V l mdX12_init 93 1 40 20 39792 (ab_End _ _) 433 [(0, .ref 92)] [.ref 142, .ref 92] (gst 143 2 0 147)
  refine V_putRF (x := some 142) 201 70 rfl clX12 flX12_159 (by decide) rfl rfl rfl rfl (fun _ _ => rfl) (fun v9 h9 => by rcases h9 with rfl | ⟨a9, rfl⟩ <;> exact ⟨rfl, rfl⟩) ?_
  show V l mdX12_init 93 1 40 20 39792 (ab_End _ _) 436 [(0, .ref 92)] [] (gst 143 2 0 148)
  refine V_aload_n 202 0 rfl rfl rfl ?_
  refine V_sipush 203 (v := (2000 : Int32)) rfl (by decide) ?_
  refine V_newa 204 2 (ty := .boolean) (c := 22) (N := 2000) rfl rfl (by decide) ac_boolean (fun _ => rfl) (fun _ _ => rfl) (fun _ _ => ⟨fun h9 => by first | exact absurd h9 (by decide) | rfl, fun h9 => by first | exact absurd rfl h9 | rfl⟩) (by decide) (by decide) (by decide) (gst_wf 143 2 0 148 (by decide +kernel)) (by decide +kernel) (by decide +kernel) (by decide +kernel) (by decide) (by decide) ?_
  show V l mdX12_init 93 1 40 19 37792 (ab_End _ _) 442 [(0, .ref 92)] [.ref 143, .ref 92] (gst 144 2 0 148)
  refine V_putRF (x := some 143) 205 71 rfl clX12 flX12_162 (by decide) rfl rfl rfl rfl (fun _ _ => rfl) (fun v9 h9 => by rcases h9 with rfl | ⟨a9, rfl⟩ <;> exact ⟨rfl, rfl⟩) ?_
  show V l mdX12_init 93 1 40 19 37792 (ab_End _ _) 445 [(0, .ref 92)] [] (gst 144 2 0 149)
  refine V_aload_n 206 0 rfl rfl rfl ?_
  refine V_bipush 207 (v := (64 : Int32)) rfl (by decide) ?_
  refine V_newa 208 0 (ty := .int) (c := 20) (N := 64) rfl rfl (by decide) ac_int (fun _ => rfl) (fun _ _ => rfl) (fun _ _ => ⟨fun h9 => by first | exact absurd h9 (by decide) | rfl, fun h9 => by first | exact absurd rfl h9 | rfl⟩) (by decide) (by decide) (by decide) (gst_wf 144 2 0 149 (by decide +kernel)) (by decide +kernel) (by decide +kernel) (by decide +kernel) (by decide) (by decide) ?_
  show V l mdX12_init 93 1 40 18 37728 (ab_End _ _) 450 [(0, .ref 92)] [.ref 144, .ref 92] (gst 145 2 0 149)
  refine V_putRF (x := some 144) 209 72 rfl clX12 flX12_165 (by decide) rfl rfl rfl rfl (fun _ _ => rfl) (fun v9 h9 => by rcases h9 with rfl | ⟨a9, rfl⟩ <;> exact ⟨rfl, rfl⟩) ?_
  show V l mdX12_init 93 1 40 18 37728 (ab_End _ _) 453 [(0, .ref 92)] [] (gst 145 2 0 150)
  refine V_aload_n 210 0 rfl rfl rfl ?_
  refine V_bipush 211 (v := (64 : Int32)) rfl (by decide) ?_
  refine V_newa 212 2 (ty := .boolean) (c := 22) (N := 64) rfl rfl (by decide) ac_boolean (fun _ => rfl) (fun _ _ => rfl) (fun _ _ => ⟨fun h9 => by first | exact absurd h9 (by decide) | rfl, fun h9 => by first | exact absurd rfl h9 | rfl⟩) (by decide) (by decide) (by decide) (gst_wf 145 2 0 150 (by decide +kernel)) (by decide +kernel) (by decide +kernel) (by decide +kernel) (by decide) (by decide) ?_
  show V l mdX12_init 93 1 40 17 37664 (ab_End _ _) 458 [(0, .ref 92)] [.ref 145, .ref 92] (gst 146 2 0 150)
  refine V_putRF (x := some 145) 213 73 rfl clX12 flX12_168 (by decide) rfl rfl rfl rfl (fun _ _ => rfl) (fun v9 h9 => by rcases h9 with rfl | ⟨a9, rfl⟩ <;> exact ⟨rfl, rfl⟩) ?_
  show V l mdX12_init 93 1 40 17 37664 (ab_End _ _) 461 [(0, .ref 92)] [] (gst 146 2 0 151)
  refine V_aload_n 214 0 rfl rfl rfl ?_
  refine V_sipush 215 (v := (7000 : Int32)) rfl (by decide) ?_
  refine V_newa 216 0 (ty := .int) (c := 20) (N := 7000) rfl rfl (by decide) ac_int (fun _ => rfl) (fun _ _ => rfl) (fun _ _ => ⟨fun h9 => by first | exact absurd h9 (by decide) | rfl, fun h9 => by first | exact absurd rfl h9 | rfl⟩) (by decide) (by decide) (by decide) (gst_wf 146 2 0 151 (by decide +kernel)) (by decide +kernel) (by decide +kernel) (by decide +kernel) (by decide) (by decide) ?_
  show V l mdX12_init 93 1 40 16 30664 (ab_End _ _) 467 [(0, .ref 92)] [.ref 146, .ref 92] (gst 147 2 0 151)
  refine V_putRF (x := some 146) 217 75 rfl clX12 flX12_171 (by decide) rfl rfl rfl rfl (fun _ _ => rfl) (fun v9 h9 => by rcases h9 with rfl | ⟨a9, rfl⟩ <;> exact ⟨rfl, rfl⟩) ?_
  show V l mdX12_init 93 1 40 16 30664 (ab_End _ _) 470 [(0, .ref 92)] [] (gst 147 2 0 152)
  refine V_aload_n 218 0 rfl rfl rfl ?_
  refine V_sipush 219 (v := (7000 : Int32)) rfl (by decide) ?_
  refine V_newa 220 0 (ty := .int) (c := 20) (N := 7000) rfl rfl (by decide) ac_int (fun _ => rfl) (fun _ _ => rfl) (fun _ _ => ⟨fun h9 => by first | exact absurd h9 (by decide) | rfl, fun h9 => by first | exact absurd rfl h9 | rfl⟩) (by decide) (by decide) (by decide) (gst_wf 147 2 0 152 (by decide +kernel)) (by decide +kernel) (by decide +kernel) (by decide +kernel) (by decide) (by decide) ?_
  show V l mdX12_init 93 1 40 15 23664 (ab_End _ _) 476 [(0, .ref 92)] [.ref 147, .ref 92] (gst 148 2 0 152)
  refine V_putRF (x := some 147) 221 76 rfl clX12 flX12_174 (by decide) rfl rfl rfl rfl (fun _ _ => rfl) (fun v9 h9 => by rcases h9 with rfl | ⟨a9, rfl⟩ <;> exact ⟨rfl, rfl⟩) ?_
  show V l mdX12_init 93 1 40 15 23664 (ab_End _ _) 479 [(0, .ref 92)] [] (gst 148 2 0 153)
  refine V_aload_n 222 0 rfl rfl rfl ?_
  refine V_sipush 223 (v := (187 : Int32)) rfl (by decide) ?_
  refine V_newa 224 0 (ty := .int) (c := 20) (N := 187) rfl rfl (by decide) ac_int (fun _ => rfl) (fun _ _ => rfl) (fun _ _ => ⟨fun h9 => by first | exact absurd h9 (by decide) | rfl, fun h9 => by first | exact absurd rfl h9 | rfl⟩) (by decide) (by decide) (by decide) (gst_wf 148 2 0 153 (by decide +kernel)) (by decide +kernel) (by decide +kernel) (by decide +kernel) (by decide) (by decide) ?_
  show V l mdX12_init 93 1 40 14 23477 (ab_End _ _) 485 [(0, .ref 92)] [.ref 148, .ref 92] (gst 149 2 0 153)
  refine V_putRF (x := some 148) 225 77 rfl clX12 flX12_177 (by decide) rfl rfl rfl rfl (fun _ _ => rfl) (fun v9 h9 => by rcases h9 with rfl | ⟨a9, rfl⟩ <;> exact ⟨rfl, rfl⟩) ?_
  show V l mdX12_init 93 1 40 14 23477 (ab_End _ _) 488 [(0, .ref 92)] [] (gst 149 2 0 154)
  refine V_aload_n 226 0 rfl rfl rfl ?_
  refine V_sipush 227 (v := (2500 : Int32)) rfl (by decide) ?_
  refine V_newa 228 0 (ty := .int) (c := 20) (N := 2500) rfl rfl (by decide) ac_int (fun _ => rfl) (fun _ _ => rfl) (fun _ _ => ⟨fun h9 => by first | exact absurd h9 (by decide) | rfl, fun h9 => by first | exact absurd rfl h9 | rfl⟩) (by decide) (by decide) (by decide) (gst_wf 149 2 0 154 (by decide +kernel)) (by decide +kernel) (by decide +kernel) (by decide +kernel) (by decide) (by decide) ?_
  show V l mdX12_init 93 1 40 13 20977 (ab_End _ _) 494 [(0, .ref 92)] [.ref 149, .ref 92] (gst 150 2 0 154)
  refine V_putRF (x := some 149) 229 78 rfl clX12 flX12_180 (by decide) rfl rfl rfl rfl (fun _ _ => rfl) (fun v9 h9 => by rcases h9 with rfl | ⟨a9, rfl⟩ <;> exact ⟨rfl, rfl⟩) ?_
  show V l mdX12_init 93 1 40 13 20977 (ab_End _ _) 497 [(0, .ref 92)] [] (gst 150 2 0 155)
  refine V_aload_n 230 0 rfl rfl rfl ?_
  refine V_sipush 231 (v := (2500 : Int32)) rfl (by decide) ?_
  refine V_newa 232 0 (ty := .int) (c := 20) (N := 2500) rfl rfl (by decide) ac_int (fun _ => rfl) (fun _ _ => rfl) (fun _ _ => ⟨fun h9 => by first | exact absurd h9 (by decide) | rfl, fun h9 => by first | exact absurd rfl h9 | rfl⟩) (by decide) (by decide) (by decide) (gst_wf 150 2 0 155 (by decide +kernel)) (by decide +kernel) (by decide +kernel) (by decide +kernel) (by decide) (by decide) ?_
  show V l mdX12_init 93 1 40 12 18477 (ab_End _ _) 503 [(0, .ref 92)] [.ref 150, .ref 92] (gst 151 2 0 155)
  refine V_putRF (x := some 150) 233 79 rfl clX12 flX12_183 (by decide) rfl rfl rfl rfl (fun _ _ => rfl) (fun v9 h9 => by rcases h9 with rfl | ⟨a9, rfl⟩ <;> exact ⟨rfl, rfl⟩) ?_
  show V l mdX12_init 93 1 40 12 18477 (ab_End _ _) 506 [(0, .ref 92)] [] (gst 151 2 0 156)
  refine V_aload_n 234 0 rfl rfl rfl ?_
  refine V_sipush 235 (v := (2500 : Int32)) rfl (by decide) ?_
  refine V_newa 236 0 (ty := .int) (c := 20) (N := 2500) rfl rfl (by decide) ac_int (fun _ => rfl) (fun _ _ => rfl) (fun _ _ => ⟨fun h9 => by first | exact absurd h9 (by decide) | rfl, fun h9 => by first | exact absurd rfl h9 | rfl⟩) (by decide) (by decide) (by decide) (gst_wf 151 2 0 156 (by decide +kernel)) (by decide +kernel) (by decide +kernel) (by decide +kernel) (by decide) (by decide) ?_
  show V l mdX12_init 93 1 40 11 15977 (ab_End _ _) 512 [(0, .ref 92)] [.ref 151, .ref 92] (gst 152 2 0 156)
  refine V_putRF (x := some 151) 237 80 rfl clX12 flX12_186 (by decide) rfl rfl rfl rfl (fun _ _ => rfl) (fun v9 h9 => by rcases h9 with rfl | ⟨a9, rfl⟩ <;> exact ⟨rfl, rfl⟩) ?_
  show V l mdX12_init 93 1 40 11 15977 (ab_End _ _) 515 [(0, .ref 92)] [] (gst 152 2 0 157)
  refine V_aload_n 238 0 rfl rfl rfl ?_
  refine V_sipush 239 (v := (2500 : Int32)) rfl (by decide) ?_
  refine V_newa 240 0 (ty := .int) (c := 20) (N := 2500) rfl rfl (by decide) ac_int (fun _ => rfl) (fun _ _ => rfl) (fun _ _ => ⟨fun h9 => by first | exact absurd h9 (by decide) | rfl, fun h9 => by first | exact absurd rfl h9 | rfl⟩) (by decide) (by decide) (by decide) (gst_wf 152 2 0 157 (by decide +kernel)) (by decide +kernel) (by decide +kernel) (by decide +kernel) (by decide) (by decide) ?_
  show V l mdX12_init 93 1 40 10 13477 (ab_End _ _) 521 [(0, .ref 92)] [.ref 152, .ref 92] (gst 153 2 0 157)
  refine V_putRF (x := some 152) 241 81 rfl clX12 flX12_189 (by decide) rfl rfl rfl rfl (fun _ _ => rfl) (fun v9 h9 => by rcases h9 with rfl | ⟨a9, rfl⟩ <;> exact ⟨rfl, rfl⟩) ?_
  show V l mdX12_init 93 1 40 10 13477 (ab_End _ _) 524 [(0, .ref 92)] [] (gst 153 2 0 158)
  refine V_aload_n 242 0 rfl rfl rfl ?_
  refine V_sipush 243 (v := (2500 : Int32)) rfl (by decide) ?_
  refine V_newa 244 0 (ty := .int) (c := 20) (N := 2500) rfl rfl (by decide) ac_int (fun _ => rfl) (fun _ _ => rfl) (fun _ _ => ⟨fun h9 => by first | exact absurd h9 (by decide) | rfl, fun h9 => by first | exact absurd rfl h9 | rfl⟩) (by decide) (by decide) (by decide) (gst_wf 153 2 0 158 (by decide +kernel)) (by decide +kernel) (by decide +kernel) (by decide +kernel) (by decide) (by decide) ?_
  show V l mdX12_init 93 1 40 9 10977 (ab_End _ _) 530 [(0, .ref 92)] [.ref 153, .ref 92] (gst 154 2 0 158)
  refine V_putRF (x := some 153) 245 82 rfl clX12 flX12_192 (by decide) rfl rfl rfl rfl (fun _ _ => rfl) (fun v9 h9 => by rcases h9 with rfl | ⟨a9, rfl⟩ <;> exact ⟨rfl, rfl⟩) ?_
  show V l mdX12_init 93 1 40 9 10977 (ab_End _ _) 533 [(0, .ref 92)] [] (gst 154 2 0 159)
  refine V_aload_n 246 0 rfl rfl rfl ?_
  refine V_sipush 247 (v := (251 : Int32)) rfl (by decide) ?_
  refine V_newa 248 0 (ty := .int) (c := 20) (N := 251) rfl rfl (by decide) ac_int (fun _ => rfl) (fun _ _ => rfl) (fun _ _ => ⟨fun h9 => by first | exact absurd h9 (by decide) | rfl, fun h9 => by first | exact absurd rfl h9 | rfl⟩) (by decide) (by decide) (by decide) (gst_wf 154 2 0 159 (by decide +kernel)) (by decide +kernel) (by decide +kernel) (by decide +kernel) (by decide) (by decide) ?_
  show V l mdX12_init 93 1 40 8 10726 (ab_End _ _) 539 [(0, .ref 92)] [.ref 154, .ref 92] (gst 155 2 0 159)
  refine V_putRF (x := some 154) 249 87 rfl clX12 flX12_195 (by decide) rfl rfl rfl rfl (fun _ _ => rfl) (fun v9 h9 => by rcases h9 with rfl | ⟨a9, rfl⟩ <;> exact ⟨rfl, rfl⟩) ?_
  show V l mdX12_init 93 1 40 8 10726 (ab_End _ _) 542 [(0, .ref 92)] [] (gst 155 2 0 160)
  refine V_aload_n 250 0 rfl rfl rfl ?_
  refine V_sipush 251 (v := (251 : Int32)) rfl (by decide) ?_
  refine V_newa 252 0 (ty := .int) (c := 20) (N := 251) rfl rfl (by decide) ac_int (fun _ => rfl) (fun _ _ => rfl) (fun _ _ => ⟨fun h9 => by first | exact absurd h9 (by decide) | rfl, fun h9 => by first | exact absurd rfl h9 | rfl⟩) (by decide) (by decide) (by decide) (gst_wf 155 2 0 160 (by decide +kernel)) (by decide +kernel) (by decide +kernel) (by decide +kernel) (by decide) (by decide) ?_
  show V l mdX12_init 93 1 40 7 10475 (ab_End _ _) 548 [(0, .ref 92)] [.ref 155, .ref 92] (gst 156 2 0 160)
  refine V_putRF (x := some 155) 253 88 rfl clX12 flX12_198 (by decide) rfl rfl rfl rfl (fun _ _ => rfl) (fun v9 h9 => by rcases h9 with rfl | ⟨a9, rfl⟩ <;> exact ⟨rfl, rfl⟩) ?_
  show V l mdX12_init 93 1 40 7 10475 (ab_End _ _) 551 [(0, .ref 92)] [] (gst 156 2 0 161)
  refine V_aload_n 254 0 rfl rfl rfl ?_
  refine V_sipush 255 (v := (251 : Int32)) rfl (by decide) ?_
  refine V_newa 256 0 (ty := .int) (c := 20) (N := 251) rfl rfl (by decide) ac_int (fun _ => rfl) (fun _ _ => rfl) (fun _ _ => ⟨fun h9 => by first | exact absurd h9 (by decide) | rfl, fun h9 => by first | exact absurd rfl h9 | rfl⟩) (by decide) (by decide) (by decide) (gst_wf 156 2 0 161 (by decide +kernel)) (by decide +kernel) (by decide +kernel) (by decide +kernel) (by decide) (by decide) ?_
  show V l mdX12_init 93 1 40 6 10224 (ab_End _ _) 557 [(0, .ref 92)] [.ref 156, .ref 92] (gst 157 2 0 161)
  refine V_putRF (x := some 156) 257 89 rfl clX12 flX12_201 (by decide) rfl rfl rfl rfl (fun _ _ => rfl) (fun v9 h9 => by rcases h9 with rfl | ⟨a9, rfl⟩ <;> exact ⟨rfl, rfl⟩) ?_
  show V l mdX12_init 93 1 40 6 10224 (ab_End _ _) 560 [(0, .ref 92)] [] (gst 157 2 0 162)
  refine V_aload_n 258 0 rfl rfl rfl ?_
  refine V_sipush 259 (v := (3000 : Int32)) rfl (by decide) ?_
  refine V_newa 260 0 (ty := .int) (c := 20) (N := 3000) rfl rfl (by decide) ac_int (fun _ => rfl) (fun _ _ => rfl) (fun _ _ => ⟨fun h9 => by first | exact absurd h9 (by decide) | rfl, fun h9 => by first | exact absurd rfl h9 | rfl⟩) (by decide) (by decide) (by decide) (gst_wf 157 2 0 162 (by decide +kernel)) (by decide +kernel) (by decide +kernel) (by decide +kernel) (by decide) (by decide) ?_
  show V l mdX12_init 93 1 40 5 7224 (ab_End _ _) 566 [(0, .ref 92)] [.ref 157, .ref 92] (gst 158 2 0 162)
  refine V_putRF (x := some 157) 261 91 rfl clX12 flX12_204 (by decide) rfl rfl rfl rfl (fun _ _ => rfl) (fun v9 h9 => by rcases h9 with rfl | ⟨a9, rfl⟩ <;> exact ⟨rfl, rfl⟩) ?_
  show V l mdX12_init 93 1 40 5 7224 (ab_End _ _) 569 [(0, .ref 92)] [] (gst 158 2 0 163)
  refine V_aload_n 262 0 rfl rfl rfl ?_
  refine V_sipush 263 (v := (3000 : Int32)) rfl (by decide) ?_
  refine V_newa 264 2 (ty := .boolean) (c := 22) (N := 3000) rfl rfl (by decide) ac_boolean (fun _ => rfl) (fun _ _ => rfl) (fun _ _ => ⟨fun h9 => by first | exact absurd h9 (by decide) | rfl, fun h9 => by first | exact absurd rfl h9 | rfl⟩) (by decide) (by decide) (by decide) (gst_wf 158 2 0 163 (by decide +kernel)) (by decide +kernel) (by decide +kernel) (by decide +kernel) (by decide) (by decide) ?_
  show V l mdX12_init 93 1 40 4 4224 (ab_End _ _) 575 [(0, .ref 92)] [.ref 158, .ref 92] (gst 159 2 0 163)
  refine V_putRF (x := some 158) 265 92 rfl clX12 flX12_207 (by decide) rfl rfl rfl rfl (fun _ _ => rfl) (fun v9 h9 => by rcases h9 with rfl | ⟨a9, rfl⟩ <;> exact ⟨rfl, rfl⟩) ?_
  show V l mdX12_init 93 1 40 4 4224 (ab_End _ _) 578 [(0, .ref 92)] [] (gst 159 2 0 164)
  refine V_aload_n 266 0 rfl rfl rfl ?_
  refine V_bipush 267 (v := (104 : Int32)) rfl (by decide) ?_
  refine V_newa 268 0 (ty := .int) (c := 20) (N := 104) rfl rfl (by decide) ac_int (fun _ => rfl) (fun _ _ => rfl) (fun _ _ => ⟨fun h9 => by first | exact absurd h9 (by decide) | rfl, fun h9 => by first | exact absurd rfl h9 | rfl⟩) (by decide) (by decide) (by decide) (gst_wf 159 2 0 164 (by decide +kernel)) (by decide +kernel) (by decide +kernel) (by decide +kernel) (by decide) (by decide) ?_
  show V l mdX12_init 93 1 40 3 4120 (ab_End _ _) 583 [(0, .ref 92)] [.ref 159, .ref 92] (gst 160 2 0 164)
  refine V_putRF (x := some 159) 269 93 rfl clX12 flX12_210 (by decide) rfl rfl rfl rfl (fun _ _ => rfl) (fun v9 h9 => by rcases h9 with rfl | ⟨a9, rfl⟩ <;> exact ⟨rfl, rfl⟩) ?_
  show V l mdX12_init 93 1 40 3 4120 (ab_End _ _) 586 [(0, .ref 92)] [] (gst 160 2 0 165)
  refine V_aload_n 270 0 rfl rfl rfl ?_
  refine V_bipush 271 (v := (104 : Int32)) rfl (by decide) ?_
  refine V_newa 272 2 (ty := .boolean) (c := 22) (N := 104) rfl rfl (by decide) ac_boolean (fun _ => rfl) (fun _ _ => rfl) (fun _ _ => ⟨fun h9 => by first | exact absurd h9 (by decide) | rfl, fun h9 => by first | exact absurd rfl h9 | rfl⟩) (by decide) (by decide) (by decide) (gst_wf 160 2 0 165 (by decide +kernel)) (by decide +kernel) (by decide +kernel) (by decide +kernel) (by decide) (by decide) ?_
  show V l mdX12_init 93 1 40 2 4016 (ab_End _ _) 591 [(0, .ref 92)] [.ref 160, .ref 92] (gst 161 2 0 165)
  refine V_putRF (x := some 160) 273 94 rfl clX12 flX12_213 (by decide) rfl rfl rfl rfl (fun _ _ => rfl) (fun v9 h9 => by rcases h9 with rfl | ⟨a9, rfl⟩ <;> exact ⟨rfl, rfl⟩) ?_
  show V l mdX12_init 93 1 40 2 4016 (ab_End _ _) 594 [(0, .ref 92)] [] (gst 161 2 0 166)
  refine V_aload_n 274 0 rfl rfl rfl ?_
  refine V_sipush 275 (v := (2008 : Int32)) rfl (by decide) ?_
  refine V_newa 276 0 (ty := .int) (c := 20) (N := 2008) rfl rfl (by decide) ac_int (fun _ => rfl) (fun _ _ => rfl) (fun _ _ => ⟨fun h9 => by first | exact absurd h9 (by decide) | rfl, fun h9 => by first | exact absurd rfl h9 | rfl⟩) (by decide) (by decide) (by decide) (gst_wf 161 2 0 166 (by decide +kernel)) (by decide +kernel) (by decide +kernel) (by decide +kernel) (by decide) (by decide) ?_
  show V l mdX12_init 93 1 40 1 2008 (ab_End _ _) 600 [(0, .ref 92)] [.ref 161, .ref 92] (gst 162 2 0 166)
  refine V_putRF (x := some 161) 277 95 rfl clX12 flX12_216 (by decide) rfl rfl rfl rfl (fun _ _ => rfl) (fun v9 h9 => by rcases h9 with rfl | ⟨a9, rfl⟩ <;> exact ⟨rfl, rfl⟩) ?_
  show V l mdX12_init 93 1 40 1 2008 (ab_End _ _) 603 [(0, .ref 92)] [] (gst 162 2 0 167)
  refine V_aload_n 278 0 rfl rfl rfl ?_
  refine V_sipush 279 (v := (2008 : Int32)) rfl (by decide) ?_
  refine V_newa 280 2 (ty := .boolean) (c := 22) (N := 2008) rfl rfl (by decide) ac_boolean (fun _ => rfl) (fun _ _ => rfl) (fun _ _ => ⟨fun h9 => by first | exact absurd h9 (by decide) | rfl, fun h9 => by first | exact absurd rfl h9 | rfl⟩) (by decide) (by decide) (by decide) (gst_wf 162 2 0 167 (by decide +kernel)) (by decide +kernel) (by decide +kernel) (by decide +kernel) (by decide) (by decide) ?_
  show V l mdX12_init 93 1 40 0 0 (ab_End _ _) 609 [(0, .ref 92)] [.ref 162, .ref 92] (gst 163 2 0 167)
  refine V_putRF (x := some 162) 281 96 rfl clX12 flX12_219 (by decide) rfl rfl rfl rfl (fun _ _ => rfl) (fun v9 h9 => by rcases h9 with rfl | ⟨a9, rfl⟩ <;> exact ⟨rfl, rfl⟩) ?_
  show V l mdX12_init 93 1 40 0 0 (ab_End _ _) 612 [(0, .ref 92)] [] (gst 163 2 0 168)
  refine V_aload_n 282 0 rfl rfl rfl ?_
  refine V_getR 283 3 (q := 94) rfl clX12 flX12_13 (by decide) rfl (fun _ => rfl) rfl ?_
  refine V_iconst 284 (v := (1 : Int32)) rfl (by decide) ?_
  refine V_ldc2 285 (v := (418461491 : Int64)) rfl ctX12_222 ?_
  refine V_last 286 rfl (i := 94) (n := 7) rfl (by unfold vp_in; decide) ?_
  show V l mdX12_init 93 1 40 0 0 (ab_End _ _) 621 [(0, .ref 92)] [] (gst 163 2 1 168)
  refine V_aload_n 287 0 rfl rfl rfl ?_
  refine V_getR 288 3 (q := 94) rfl clX12 flX12_13 (by decide) rfl (fun _ => rfl) rfl ?_
  refine V_iconst 289 (v := (2 : Int32)) rfl (by decide) ?_
  refine V_ldc2 290 (v := (482788 : Int64)) rfl ctX12_224 ?_
  refine V_last 291 rfl (i := 94) (n := 7) rfl (by unfold vp_in; decide) ?_
  show V l mdX12_init 93 1 40 0 0 (ab_End _ _) 630 [(0, .ref 92)] [] (gst 163 2 2 168)
  refine V_aload_n 292 0 rfl rfl rfl ?_
  refine V_getR 293 3 (q := 94) rfl clX12 flX12_13 (by decide) rfl (fun _ => rfl) rfl ?_
  refine V_iconst 294 (v := (3 : Int32)) rfl (by decide) ?_
  refine V_ldc2 295 (v := (533 : Int64)) rfl ctX12_226 ?_
  refine V_last 296 rfl (i := 94) (n := 7) rfl (by unfold vp_in; decide) ?_
  show V l mdX12_init 93 1 40 0 0 (ab_End _ _) 639 [(0, .ref 92)] [] (gst 163 2 3 168)
  refine V_aload_n 297 0 rfl rfl rfl ?_
  refine V_getR 298 3 (q := 94) rfl clX12 flX12_13 (by decide) rfl (fun _ => rfl) rfl ?_
  refine V_iconst 299 (v := (4 : Int32)) rfl (by decide) ?_
  refine V_ldc2 300 (v := (201 : Int64)) rfl ctX12_228 ?_
  refine V_last 301 rfl (i := 94) (n := 7) rfl (by unfold vp_in; decide) ?_
  show V l mdX12_init 93 1 40 0 0 (ab_End _ _) 648 [(0, .ref 92)] [] (gst 163 2 4 168)
  refine V_aload_n 302 0 rfl rfl rfl ?_
  refine V_getR 303 3 (q := 94) rfl clX12 flX12_13 (by decide) rfl (fun _ => rfl) rfl ?_
  refine V_iconst 304 (v := (5 : Int32)) rfl (by decide) ?_
  refine V_ldc2 305 (v := (464148 : Int64)) rfl ctX12_230 ?_
  refine V_last 306 rfl (i := 94) (n := 7) rfl (by unfold vp_in; decide) ?_
  show V l mdX12_init 93 1 40 0 0 (ab_End _ _) 657 [(0, .ref 92)] [] (gst 163 2 5 168)
  refine V_aload_n 307 0 rfl rfl rfl ?_
  refine V_getR 308 3 (q := 94) rfl clX12 flX12_13 (by decide) rfl (fun _ => rfl) rfl ?_
  refine V_bipush 309 (v := (6 : Int32)) rfl (by decide) ?_
  refine V_ldc2 310 (v := (183685 : Int64)) rfl ctX12_232 ?_
  refine V_last 311 rfl (i := 94) (n := 7) rfl (by unfold vp_in; decide) ?_
  show V l mdX12_init 93 1 40 0 0 (ab_End _ _) 667 [(0, .ref 92)] [] (gst 163 2 6 168)
  exact V_vret 312 rfl rfl ⟨rfl, rfl⟩
