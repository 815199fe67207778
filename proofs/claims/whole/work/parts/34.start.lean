theorem ts_U : Cond.laysStatic Bundle.tN "UNASSIGNED_STACK" Bundle.steD ∈ lw_tbl := List.mem_of_getElem? (i := 930) (by decide +kernel)
theorem ts_S : Cond.laysStatic Bundle.tN "SUPPRESSED_SENTINEL" Bundle.listD ∈ lw_tbl := List.mem_of_getElem? (i := 932) (by decide +kernel)
theorem ts_I : Cond.initialized Bundle.tN ∈ lw_tbl := List.mem_of_getElem? (i := 177) (by decide +kernel)
theorem sn_ex : ∀ i, i < 7 → Cond.exactly (Term.string RX6 (skI.getD i 0)) "java/lang/String" ∈ flatC (Jvm.Cond.and given_1 narrow_1) := by decide +kernel
theorem sn_co : ∀ i, i < 7 → Cond.eq (Term.field (Term.string RX6 (skI.getD i 0)) "java/lang/String" "coder" "B") (.int 0) ∈ flatC (Jvm.Cond.and given_1 narrow_1) := by decide +kernel
theorem sn_ar : ∀ i, i < 7 → Cond.arrayOf (Term.field (Term.string RX6 (skI.getD i 0)) "java/lang/String" "value" "[B") .byte ∈ flatC (Jvm.Cond.and given_1 narrow_1) := by decide +kernel
theorem sn_le : ∀ i, i < 7 → Cond.eq (.length (Term.field (Term.string RX6 (skI.getD i 0)) "java/lang/String" "value" "[B")) (.int (Int32.ofNat (skL.getD i 0))) ∈ flatC (Jvm.Cond.and given_1 narrow_1) := by decide +kernel
theorem sn_el : ∀ i, i < 7 → ∀ j, j < skL.getD i 0 → Cond.eq (.elem (Term.field (Term.string RX6 (skI.getD i 0)) "java/lang/String" "value" "[B") (.int (Int32.ofNat j))) (.int ((skB.getD i []).getD j 0)) ∈ flatC (Jvm.Cond.and given_1 narrow_1) := by decide +kernel
theorem sn_ne : ∀ i, i < 7 → ∀ j, j < 7 → i ≠ j → Cond.not (Cond.eq (Term.string RX6 (skI.getD i 0)) (Term.string RX6 (skI.getD j 0))) ∈ flatC (Jvm.Cond.and given_1 narrow_1) ∨ Cond.not (Cond.eq (Term.string RX6 (skI.getD j 0)) (Term.string RX6 (skI.getD i 0))) ∈ flatC (Jvm.Cond.and given_1 narrow_1) := by decide +kernel
theorem sn_tb : ∀ i, i < 7 → Cond.stringRef RX6 (skI.getD i 0) (skT.getD i "") ∈ lw_tbl
  | 0, _ => List.mem_of_getElem? (i := 725) (by decide +kernel)
  | 1, _ => List.mem_of_getElem? (i := 778) (by decide +kernel)
  | 2, _ => List.mem_of_getElem? (i := 779) (by decide +kernel)
  | 3, _ => List.mem_of_getElem? (i := 780) (by decide +kernel)
  | 4, _ => List.mem_of_getElem? (i := 781) (by decide +kernel)
  | 5, _ => List.mem_of_getElem? (i := 782) (by decide +kernel)
  | 6, _ => List.mem_of_getElem? (i := 792) (by decide +kernel)
  | i + 7, h => absurd h (by omega)
theorem ts_f1 : Cond.laysStatic "jdk/internal/util/Preconditions" "SIOOBE_FORMATTER" "Ljava/util/function/BiFunction;" ∈ lw_tbl := List.mem_of_getElem? (i := 755) (by decide +kernel)
theorem ts_f2 : Cond.initialized "jdk/internal/util/Preconditions" ∈ lw_tbl := List.mem_of_getElem? (i := 184) (by decide +kernel)
theorem ts_f3 : Cond.isRef (.static "jdk/internal/util/Preconditions" "SIOOBE_FORMATTER" "Ljava/util/function/BiFunction;") ∈ flatC (Jvm.Cond.and given_1 narrow_1) := by decide +kernel
theorem ts_c1 : Cond.laysStatic "java/lang/String" "COMPACT_STRINGS" "Z" ∈ lw_tbl := List.mem_of_getElem? (i := 739) (by decide +kernel)
theorem ts_c2 : Cond.initialized "java/lang/String" ∈ lw_tbl := List.mem_of_getElem? (i := 182) (by decide +kernel)
theorem ts_c3 : Cond.eq (.static "java/lang/String" "COMPACT_STRINGS" "Z") (.int 1) ∈ flatC (Jvm.Cond.and given_1 narrow_1) := by decide +kernel
theorem ncw_in : ∀ q ∈ ncw, Cond.not (.castable q.1 q.2) ∈ flatC (Jvm.Cond.and given_1 narrow_1) := by decide +kernel
theorem gst_wire : Wire (gst 164 2 6 168) := ⟨by rfl, by decide +kernel⟩
set_option maxHeartbeats 4000000 in
set_option maxRecDepth 100000 in
theorem law_pre {l : Launch} (hl : l.stackTraces = false) {b L : Nat} {xs : Nat → Int32} (n : Nat) (h : wL_law L xs n (0 : Int32) (gst 164 2 6 168)) : V l mdL_law 0 614 12190 (10 * n + 164) (60 * n + 137746) (ab_LZ b L xs) 0 [(0, .ref 1000000)] [] (gst 0 0 0 0) := by
  refine V_new 0 rfl clX11 nfX11 klL_8 mkX11 iniX11 (gst_wf 0 0 0 0 (by decide +kernel)) (Nat.zero_le _) (by decide +kernel) (by decide +kernel) (by omega) (by omega) ?_
  refine V_less (kc' := 10 * n + 163) (ks' := 60 * n + 137728) (by omega) (by omega) ?_
  show V l mdL_law 0 614 12190 _ _ (ab_LZ b L xs) 3 [(0, .ref 1000000)] [.ref 0] (gst 1 0 0 0)
  refine V_dup 1 rfl rfl ?_
  refine V_callI 2 0 1 (dy := mdX11_init) (b := 0) (as := []) (rest := [.ref 0]) rfl mlL_88 rfl rfl imX11_init iniX11 coX11_init ⟨by decide +kernel, by decide +kernel⟩ (by decide +kernel) rfl rfl (by decide) (by decide) (by decide) (by omega) (by omega) (Nat.zero_le _) (by decide +kernel) (by decide +kernel) (ci15_X11_init hl) ?_
  rintro v9 σ9 ⟨rfl, rfl⟩
  refine V_less (kc' := 10 * n + 72) (ks' := 60 * n + 81851) (by omega) (by omega) ?_
  show V l mdL_law 0 614 12190 _ _ (ab_LZ b L xs) 7 [(0, .ref 1000000)] [.ref 0] (gst 92 2 0 98)
  refine V_astore_n 3 (lv' := [(1, .ref 0), (0, .ref 1000000)]) rfl rfl (by decide) rfl ?_
  refine V_new 4 rfl clX12 nfX12 klL_89 mkX12 iniX12 (gst_wf 92 2 0 98 (by decide +kernel)) (Nat.zero_le _) (by decide +kernel) (by decide +kernel) (by omega) (by omega) ?_
  refine V_less (kc' := 10 * n + 71) (ks' := 60 * n + 81754) (by omega) (by omega) ?_
  show V l mdL_law 0 614 12190 _ _ (ab_LZ b L xs) 11 [(1, .ref 0), (0, .ref 1000000)] [.ref 92] (gst 93 2 0 98)
  refine V_dup 5 rfl rfl ?_
  refine V_callI 6 0 93 (dy := mdX12_init) (b := 92) (as := []) (rest := [.ref 92]) rfl mlL_91 rfl rfl imX12_init iniX12 coX12_init ⟨by decide +kernel, by decide +kernel⟩ (by decide +kernel) rfl rfl (by decide) (by decide) (by decide) (by omega) (by omega) (Nat.zero_le _) (by decide +kernel) (by decide +kernel) (ci16_X12_init hl) ?_
  rintro v9 σ9 ⟨rfl, rfl⟩
  refine V_less (kc' := 10 * n + 1) (ks' := 60 * n + 1) (by omega) (by omega) ?_
  show V l mdL_law 0 614 12190 _ _ (ab_LZ b L xs) 15 [(1, .ref 0), (0, .ref 1000000)] [.ref 92] (gst 163 2 6 168)
  refine V_astore_n 7 (lv' := [(2, .ref 92), (1, .ref 0), (0, .ref 1000000)]) rfl rfl (by decide) rfl ?_
  refine V_iconst 8 (v := (1 : Int32)) rfl (by decide) ?_
  refine V_newa 9 1 (ty := .long) (c := 21) (N := 1) rfl rfl (by decide) ac_long (fun _ => rfl) (fun _ _ => rfl) (fun _ _ => ⟨fun _ => rfl, fun h9 => absurd rfl h9⟩) (by decide) (by decide) (by decide) (gst_wf 163 2 6 168 (by decide +kernel)) (Nat.zero_le _) (by decide +kernel) (by decide +kernel) (by omega) (by omega) ?_
  refine V_less (kc' := 10 * n + 0) (ks' := 60 * n + 0) (by omega) (by omega) ?_
  show V l mdL_law 0 614 12190 _ _ (ab_LZ b L xs) 19 [(2, .ref 92), (1, .ref 0), (0, .ref 1000000)] [.ref 163] (gst 164 2 6 168)
  refine V_astore_n 10 (lv' := [(3, .ref 163), (2, .ref 92), (1, .ref 0), (0, .ref 1000000)]) rfl rfl (by decide) rfl ?_
  refine V_iconst 11 (v := (0 : Int32)) rfl (by decide) ?_
  refine V_istore 12 (lv' := [(4, .int (0 : Int32)), (3, .ref 163), (2, .ref 92), (1, .ref 0), (0, .ref 1000000)]) rfl (by decide) rfl ?_
  refine V_sub [4, 3, 2, 1, 0] (lv' := [(0, .ref 1000000), (1, .ref 0), (2, .ref 92), (3, .ref 163), (4, .int (0 : Int32))]) rfl ?_
  exact ce_law hl n (0 : Int32) (gst 164 2 6 168) gst_wire h
theorem ab_arr {s : State} {args : Array Value} {ty : FieldType} (h : (Cond.arrayClass ty).before args s = true) : ∃ cA : ClassId, ArrOfT s cA ty ∧ s.vm.findClass ("[" ++ ty.toString) = some cA := by
  obtain ⟨cA, kA, comp, h1, h2, h3⟩ := Cond.arrayClass_spec h
  exact ⟨cA, fun n z => ⟨fun k h => (by cases h), kA, h2, comp, h3⟩, h1⟩
set_option maxHeartbeats 4000000 in
set_option maxRecDepth 100000 in
theorem law_W {p : Program} {e : Env} {s : State} {m : MethodId} {below : List Frame} {meth : Method} {c : Code} (l : Launch) (hl : l.stackTraces = false) {b L : Nat} {xs : Nat → Int32} (C0 : lw_At p s m meth c b L xs) (hne : c.exceptionTable.isEmpty = true) (hnm : meth.name = "law") (n : Nat) (hn : n ≤ 600) (h : wL_law L xs n (0 : Int32) (gst 164 2 6 168)) : W p l e room_1 s m #[Value.ref b] below meth c s.heap [] 0 0 (lw_Z below #[Value.ref b] s) (entryFrame m ([Value.ref b] : List Value).toArray 7) := by
  obtain ⟨hx, hb, hr, hml, hown, hts, hX, hbl, hlocks, hgv⟩ := id C0
  obtain ⟨c0, i0, hKn0⟩ := u_known (C := RX0) (T := TX0) (N := 20) (n := 20) hts inX0 (hts _ (List.mem_filter.mp mkX0).1)
  obtain ⟨c1, i1, hKn1⟩ := u_known (C := RX1) (T := TX1) (N := 4) (n := 4) hts inX1 (hts _ (List.mem_filter.mp mkX1).1)
  obtain ⟨c2, i2, hKn2⟩ := u_known (C := RX2) (T := TX2) (N := 14) (n := 14) hts inX2 (hts _ (List.mem_filter.mp mkX2).1)
  obtain ⟨c3, i3, hKn3⟩ := u_known (C := RX3) (T := TX3) (N := 1) (n := 1) hts inX3 (hts _ (List.mem_filter.mp mkX3).1)
  obtain ⟨c4, i4, hKn4⟩ := u_known (C := RX4) (T := TX4) (N := 11) (n := 11) hts inX4 (hts _ (List.mem_filter.mp mkX4).1)
  obtain ⟨c5, i5, hKn5⟩ := u_known (C := RX5) (T := TX5) (N := 8) (n := 8) hts inX5 (hts _ (List.mem_filter.mp mkX5).1)
  obtain ⟨c6, i6, hKn6⟩ := u_known (C := RX6) (T := TX6) (N := 10) (n := 10) hts inX6 (hts _ (List.mem_filter.mp mkX6).1)
  obtain ⟨c7, i7, hKn7⟩ := u_known (C := RX7) (T := TX7) (N := 6) (n := 6) hts inX7 (hts _ (List.mem_filter.mp mkX7).1)
  obtain ⟨c8, i8, hKn8⟩ := u_known (C := RX8) (T := TX8) (N := 2) (n := 2) hts inX8 (hts _ (List.mem_filter.mp mkX8).1)
  obtain ⟨c9, i9, hKn9⟩ := u_known (C := RX9) (T := TX9) (N := 6) (n := 6) hts inX9 (hts _ (List.mem_filter.mp mkX9).1)
  obtain ⟨c10, i10, hKn10⟩ := u_known (C := RX10) (T := TX10) (N := 4) (n := 4) hts inX10 (hts _ (List.mem_filter.mp mkX10).1)
  obtain ⟨c11, i11, hKn11⟩ := u_known (C := RX11) (T := TX11) (N := 18) (n := 18) hts inX11 (hts _ (List.mem_filter.mp mkX11).1)
  obtain ⟨c12, i12, hKn12⟩ := u_known (C := RX12) (T := TX12) (N := 97) (n := 97) hts inX12 (hts _ (List.mem_filter.mp mkX12).1)
  obtain ⟨dC, dI, hKc⟩ : ∃ (dC : Nat → ClassId) (dI : Nat → Nat → Nat), ∀ (k : Nat) (q : vw_C), vwc[k]? = some q → u_Kn s q.1 q.2.1 q.2.2 (dC k) (dI k) := by
    refine ⟨fun k => if k = 0 then c0 else if k = 1 then c1 else if k = 2 then c2 else if k = 3 then c3 else if k = 4 then c4 else if k = 5 then c5 else if k = 6 then c6 else if k = 7 then c7 else if k = 8 then c8 else if k = 9 then c9 else if k = 10 then c10 else if k = 11 then c11 else c12, fun k => if k = 0 then i0 else if k = 1 then i1 else if k = 2 then i2 else if k = 3 then i3 else if k = 4 then i4 else if k = 5 then i5 else if k = 6 then i6 else if k = 7 then i7 else if k = 8 then i8 else if k = 9 then i9 else if k = 10 then i10 else if k = 11 then i11 else i12, ?_⟩
    intro k q hq
    match k, hq with
    | 0, hq => cases hq; exact hKn0
    | 1, hq => cases hq; exact hKn1
    | 2, hq => cases hq; exact hKn2
    | 3, hq => cases hq; exact hKn3
    | 4, hq => cases hq; exact hKn4
    | 5, hq => cases hq; exact hKn5
    | 6, hq => cases hq; exact hKn6
    | 7, hq => cases hq; exact hKn7
    | 8, hq => cases hq; exact hKn8
    | 9, hq => cases hq; exact hKn9
    | 10, hq => cases hq; exact hKn10
    | 11, hq => cases hq; exact hKn11
    | 12, hq => cases hq; exact hKn12
    | k + 13, hq => simp at hq
  obtain ⟨cI, hI1, hI2⟩ := ab_arr (hts _ (List.mem_filter.mp ac_int).1)
  obtain ⟨cL, hL1, hL2⟩ := ab_arr (hts _ (List.mem_filter.mp ac_long).1)
  obtain ⟨cZ, hZ1, hZ2⟩ := ab_arr (hts _ (List.mem_filter.mp ac_boolean).1)
  obtain ⟨cC, hC1, hC2⟩ := ab_arr (hts _ (List.mem_filter.mp ac_char).1)
  have hfl := flat_of_before _ hgv
  have hA : ∀ q : Nat, s.heap.size ≤ q → (fun q : Nat => s.heap.size ≤ q) q := fun _ h => h
  have hAn : ∀ a : Nat, a < s.heap.size → ¬ (fun q : Nat => s.heap.size ≤ q) a := fun a h => Nat.not_le.mpr h
  have hK : va_K (dC, dI) vwc (ab_tys (fun k => if k = 20 then cI else if k = 21 then cL else if k = 22 then cZ else cC)) s := by
    refine ⟨hKc, fun k q hq => ?_⟩
    match k, hq with
    | 0, hq => cases hq; exact ⟨hI1, hI2⟩
    | 1, hq => cases hq; exact ⟨hL1, hL2⟩
    | 2, hq => cases hq; exact ⟨hZ1, hZ2⟩
    | 3, hq => cases hq; exact ⟨hC1, hC2⟩
    | k + 4, hq => simp [ab_tys] at hq
  obtain ⟨adK, adV, hS7, hE7⟩ := vk_Sof (args := #[Value.ref b]) (s := s) (N := 7) (tm := fun i => Term.string RX6 (skI.getD i 0)) (len := skL) (byt := skB) (A := fun q : Nat => s.heap.size ≤ q) (by decide) (fun i hi => hfl _ (sn_ex i hi)) (fun i hi => hfl _ (sn_co i hi)) (fun i hi => hfl _ (sn_ar i hi)) (fun i hi => hfl _ (sn_le i hi)) (fun i hi j hj => hfl _ (sn_el i hi j hj)) (fun i j hi hj hij => (sn_ne i hi j hj hij).imp (fun h => hfl _ h) (fun h => hfl _ h)) hAn
  obtain ⟨qF, vF, hvF, hzF⟩ : ∃ (qF : Nat) (v : Value), (v = .null ∨ v = .ref qF) ∧ va_Z "jdk/internal/util/Preconditions" "SIOOBE_FORMATTER" "Ljava/util/function/BiFunction;" v (fun q : Nat => s.heap.size ≤ q) s s.heap := by
    rcases va_Zqof (A := fun q : Nat => s.heap.size ≤ q) (hts _ ts_f1) (hts _ ts_f2) (hfl _ ts_f3) hAn with h9 | ⟨t9, h9⟩
    · exact ⟨0, .null, Or.inl rfl, h9⟩
    · exact ⟨t9, .ref t9, Or.inr rfl, h9⟩
  obtain ⟨adS, hadS0, hadS1, hadS2, hadS3⟩ : ∃ adS : Nat → Nat, adS 1000000 = b ∧ (∀ i, i < 7 → adS (1000001 + i) = adK i) ∧ (∀ i, adS (1000101 + i) = adV i) ∧ adS 1000008 = qF :=
    ⟨fun i => if i = 1000000 then b else if i = 1000008 then qF else if 1000101 ≤ i then adV (i - 1000101) else adK (i - 1000001), rfl, fun i hi => by
      simp only []
      rw [if_neg (by omega), if_neg (by omega), if_neg (by omega), Nat.add_sub_cancel_left], fun i => by
      simp only []
      rw [if_neg (by omega), if_neg (by omega), if_pos (by omega), Nat.add_sub_cancel_left], rfl⟩
  have hSt : ab_St adS (fun q : Nat => s.heap.size ≤ q) s s.heap := by
    refine ⟨vx_Zqof (hts _ ts_U) (hts _ ts_I) (hfl _ (by decide +kernel)) hAn, vx_Zqof (hts _ ts_S) (hts _ ts_I) (hfl _ (by decide +kernel)) hAn, fun w hw => va_Nw.of (ng_on hw) (hts w (List.mem_filter.mp hw).1), fun q hq => ?_, ⟨fun i hi => ?_, fun i j hi hj e9 => ?_⟩, fun i hi => ?_, va_Zof (hts _ ts_c1) (hts _ ts_c2) (va_eqt (hfl _ ts_c3)) hAn, vF, ?_, hzF⟩
    · exact va_Nc.of (hfl (.not (.castable q.1 q.2)) (ncw_in q hq))
    · simp only []
      rw [hadS1 i hi, hadS2 i]
      exact hS7.1 i hi
    · simp only [] at e9
      rw [hadS1 i hi, hadS1 j hj] at e9
      exact hS7.2 i j hi hj e9
    · rw [hadS1 i hi]
      exact vk_R.of (hts _ (sn_tb i hi)) (hE7 i hi)
    · rw [hadS3]; exact hvF
  have hl0 := lv_entry ([.ref b]) (n := 7) (Nat.le_of_ble_eq_true rfl)
  rw [lg_entry_eq]
  generalize (lg_sl ([.ref b]) ++ List.replicate (7 - (lg_sl ([.ref b])).length) Slot.unset).toArray = ls at hl0 ⊢
  have htb : c.exceptionTable.toList = tableOf [] := by
    rw [Array.isEmpty_iff.mp hne]; rfl
  have hV := law_pre (l := l) (b := b) (L := L) (xs := xs) hl n h p e room_1 s m #[Value.ref b] below meth c (dC, dI) (fun k => if k = 20 then cI else if k = 21 then cL else if k = 22 then cZ else cC) (fun q : Nat => s.heap.size ≤ q) 0 adS 601024 7293034
    ⟨⟨hx, hb⟩, ⟨hml, hr⟩, ⟨hown, fun w hw => hts w (List.mem_filter.mp hw).1⟩, ⟨hlocks, hnm⟩, ⟨htb, hl⟩, ⟨hK, hSt⟩, ⟨hA, by decide, by decide⟩, dkL_law⟩
    ⟨⟨hX, hbl, fun q h => h, hadS0⟩, Nat.le_refl 0⟩ (by decide) (by decide) adS s.heap [] 0 0 ls (by omega) (by omega) ⟨fun k q hq => by simp [ab_ws, gst] at hq, ⟨fun i j p q hp => by simp [ab_ws, gst] at hp, fun k q hq => by simp [ab_ws, gst] at hq⟩, va_S.rf, fun _ _ => rfl, by show lv_has ls 7 [(0, .ref (adS 1000000))]; rw [hadS0]; exact hl0⟩
  intro T hT X
  obtain ⟨t, a1, b1⟩ := hV T hT X
  exact ⟨t, a1, b1 (by decide) (by decide)⟩
