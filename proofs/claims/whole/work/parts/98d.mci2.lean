/-! ===== the machine: visits, their ends ===== -/
section MK
variable {Γ : GRT} {T : TST} {b : Bool} {S : MST} {e κ : Nat → Nat} {n bk : Nat} {r : List (Nat × Nat)}
/-- a visit of a child -/
theorem mi_vis (hG : GOK Γ) (hT : TOK Γ T) (h : MIr Γ T b S e κ n bk r) {o w : Nat} (ht : TpV Γ T S e κ n o w) : T.ch n o < T.N ∧ S.vi (T.ch n o) + 1 = w ∧ (∀ z, z ∈ r → z.1 < n) ∧ n < T.ch n o ∧ w ≤ svs Γ (hdS Γ (T.pr (T.ch n o))) ∧ ∃ κ', sumN κ T.N + 1 ≤ sumN κ' T.N ∧ κ' (T.ch n o) = pgS Γ (T.pr (T.ch n o)) (e (T.ch n o)) + (w - 1) ∧ MIr Γ T b (pgV Γ (T.pr (T.ch n o)) w + 1, (T.ch n o, S.pc + 1) :: S.sk, uf S.vi (T.ch n o) w, [], S.kp, S.va) (uf e n (e n + 1)) κ' (T.ch n o) (S.pc + 1) ((n, bk) :: r) := by
  obtain ⟨h1, h2, h3, ⟨h4, h5, _⟩, h6⟩ := h
  obtain ⟨t1, t2, t3, t4, t5, t6, t7, t8, t9, t10⟩ := ht
  have hG0 := hG
  obtain ⟨hV, hL, hx, _⟩ := hG
  obtain ⟨tn, tc⟩ := hT.2.2 n h4
  have hp : T.pr n < Γ.2.1 := tn.1
  have hrt : rt Γ (T.pr n) ≤ 3 := (hV.2.2.2 _ hp).2.1.1
  obtain ⟨c1, c2, c3, c4⟩ := tn.2.2.2.2.2.2.1 o t5 (by omega)
  have hI := plI_A hL hV hp (svs Γ (hdS Γ (T.pr n)))
  have hO := plO_A hV hL hp (svs Γ (hdS Γ (T.pr n)))
  have hO4 : ∀ w', 1 ≤ w' → w' < w → (plP Γ (T.pr n)).va o w' < (plP Γ (T.pr n)).va o w := ((hO.2.2.2) o w t3 t4).2
  obtain ⟨v1, v2, v3⟩ := h2 n h4
  obtain ⟨v4, v5⟩ := v3 o t5 t6
  have hw : S.vi (T.ch n o) + 1 = w := by
    have a := (v5 w t3 t4).mp
    have a' : ¬ w ≤ S.vi (T.ch n o) := fun z => by have := a z; omega
    by_cases w1 : w = 1
    · omega
    · have := (v5 (w - 1) (by omega) (by omega)).mpr (by have := hO4 (w - 1) (by omega) (by omega); omega)
      omega
  have tch := (hT.2.2 _ c2).1
  have ehd : hdS Γ (T.pr (T.ch n o)) = oSy Γ (T.pr n) o := by
    have := (tch.2.2.2.2.2.2.2 (by omega)).2.2.2
    rw [c3, c4, show n + 1 - 1 = n by omega] at this
    exact this
  have hsv : w ≤ svs Γ (hdS Γ (T.pr (T.ch n o))) := by
    rw [ehd]
    have := ((hI.2.1 o).2 (by have t4 : w ≤ (plP Γ (T.pr n)).vs o := t4; show (plP Γ (T.pr n)).vs o ≠ 0; omega)).2.2
    have this : (plP Γ (T.pr n)).vs o ≤ svs Γ (oSy Γ (T.pr n) o) := this
    omega
  have hin := h6 (T.ch n o) c2 (by omega) (fun z hz => by have := h3.lt z hz; omega)
  have evn : gE (plP Γ (T.pr n)) (e n) = (o, S.vi n, w) := t2
  have hle : pgB Γ (T.pr n) ≤ eP Γ (T.pr n) (e n) := Nat.le_add_right _ _
  refine ⟨c2, hw, fun z hz => h3.lt z hz, c1, hsv, uf κ n (eP Γ (T.pr n) (e n) + 1 - pgB Γ (T.pr n)), sum_lt h4 (by omega), by rw [uf_o _ _ (by omega), hin.2]; omega, by rw [h1], fun m hm => ?_, ⟨⟨c1, c2, c3, ?_, ?_, ?_, ?_, ?_, ?_, ?_⟩, ?_⟩, ?_, fun m hm hmn hz => ?_⟩
  · -- VOK
    obtain ⟨b1, b2, b3⟩ := h2 m hm
    have tm := (hT.2.2 m hm).1
    have tmc := (hT.2.2 m hm).2
    have hVm : uf S.vi (T.ch n o) w m ≤ svs Γ (hdS Γ (T.pr m)) := by
      by_cases em : m = T.ch n o
      · rw [em, uf_s]; exact hsv
      · rw [uf_o _ _ em]; exact b2
    by_cases em : m = n
    · rw [em, uf_s]
      rw [em] at hVm
      refine ⟨t1, hVm, fun o' o1 o2 => ?_⟩
      obtain ⟨d1, d2⟩ := v3 o' o1 o2
      by_cases eo : o' = o
      · rw [eo]
        show uf S.vi (T.ch n o) w (T.ch n o) ≤ _ ∧ _
        rw [uf_s]
        refine ⟨t4, fun w' w1 w2 => ?_⟩
        show w' ≤ uf S.vi (T.ch n o) w (T.ch n o) ↔ _
        rw [uf_s]
        by_cases hlt : w' < w
        · have := hO4 w' w1 hlt
          exact ⟨fun _ => by omega, fun _ => by omega⟩
        · by_cases heq : w' = w
          · rw [heq]; exact ⟨fun _ => by omega, fun _ => Nat.le_refl _⟩
          · have := ((hO.2.2.2) o w' w1 w2).2 w t3 (by omega)
            have this : (plP Γ (T.pr n)).va o w < (plP Γ (T.pr n)).va o w' := this
            exact ⟨fun z => by omega, fun z => by omega⟩
      · obtain ⟨f1, f2, f3, f4⟩ := tn.2.2.2.2.2.2.1 o' o1 (by omega)
        have hne : T.ch n o' ≠ T.ch n o := fun z => by rw [z] at f4; omega
        show uf S.vi (T.ch n o) w (T.ch n o') ≤ _ ∧ _
        rw [uf_o _ _ hne]
        refine ⟨d1, fun w' w1 w2 => ?_⟩
        show w' ≤ uf S.vi (T.ch n o) w (T.ch n o') ↔ _
        rw [uf_o _ _ hne, d2 w' w1 w2]
        have hne2 : (plP Γ (T.pr n)).va o' w' ≠ e n := by
          intro z
          have := (hI.2.2.2.2 o' w' w1 w2).2.1
          have z2 : (gE (plP Γ (T.pr n)) ((plP Γ (T.pr n)).va o' w')).1 = o' := this
          rw [z, evn] at z2
          exact eo z2.symm
        omega
    · rw [uf_o _ _ em]
      refine ⟨b1, hVm, fun o' o1 o2 => ?_⟩
      obtain ⟨f1, f2, f3, f4⟩ := tm.2.2.2.2.2.2.1 o' o1 (by omega)
      have hne : T.ch m o' ≠ T.ch n o := fun z => by rw [z, c3] at f3; omega
      show uf S.vi (T.ch n o) w (T.ch m o') ≤ _ ∧ _
      rw [uf_o _ _ hne]
      obtain ⟨d1, d2⟩ := b3 o' o1 o2
      refine ⟨d1, fun w' w1 w2 => ?_⟩
      show w' ≤ uf S.vi (T.ch n o) w (T.ch m o') ↔ _
      rw [uf_o _ _ hne]; exact d2 w' w1 w2
  · rw [uf_s]; omega
  · rw [uf_s, show e n + 1 - 1 = e n by omega, evn]; exact c4.symm
  · rw [uf_s, show e n + 1 - 1 = e n by omega, evn]; exact t3
  · rw [uf_s, show e n + 1 - 1 = e n by omega, evn]
    show w = uf S.vi (T.ch n o) w (T.ch n o)
    rw [uf_s]
  · rw [uf_s, show e n + 1 - 1 = e n by omega, evn]
    show S.vi n = uf S.vi (T.ch n o) w n
    rw [uf_o _ _ (by omega)]
  · rw [uf_s, show e n + 1 - 1 = e n by omega, t8]
  · rw [uf_s, uf_s, show e n + 1 - 1 = e n by omega]; omega
  · exact h3.cg (by show uf S.vi (T.ch n o) w n = _; rw [uf_o _ _ (by omega)]) (fun m hm => ⟨by show uf S.vi (T.ch n o) w m = _; rw [uf_o _ _ (by omega)], uf_o _ _ (by omega), uf_o _ _ (by omega)⟩)
  · have hi1 := hin.1
    have hi2 := hin.2
    obtain ⟨u, hu⟩ : ∃ u, w = u + 1 := ⟨w - 1, by omega⟩
    have hvc : S.vi (T.ch n o) = u := by omega
    have hvw : MST.vi (pgV Γ (T.pr (T.ch n o)) w + 1, (T.ch n o, S.pc + 1) :: S.sk, uf S.vi (T.ch n o) w, [], S.kp, S.va) (T.ch n o) = u + 1 := by show uf S.vi (T.ch n o) w (T.ch n o) = _; rw [uf_s, hu]
    have hmo := plF_mo (Γ := Γ) (p := T.pr (T.ch n o)) (u := u)
    refine top_at hG0 hT c2 (i := plF Γ (T.pr (T.ch n o)) (u + 1)) (by rw [hvw]; omega) (by rw [hvw, ← hu]; exact hsv) (by rw [hvw]; exact Nat.le_refl _) (by rw [hvw]; exact hmo) ?_ rfl ?_ ?_
    · rw [uf_o _ _ (by omega), hi1, hvc]
    · rw [hvw, hu]; rfl
    · rw [hvw, uf_o _ _ (by omega), hi2, hi1, hvc]; rfl
  · have hm2 : m ≠ n := fun z => hz (n, bk) (List.mem_cons_self ..) z.symm
    obtain ⟨i1, i2⟩ := h6 m hm hm2 (fun z hz' => hz z (List.mem_cons_of_mem _ hz'))
    have ev : uf S.vi (T.ch n o) w m = S.vi m := uf_o _ _ hmn
    refine ⟨?_, ?_⟩
    · rw [uf_o _ _ hm2, i1]
      show _ = plF Γ (T.pr m) (uf S.vi (T.ch n o) w m + 1)
      rw [ev]
    · rw [uf_o _ _ hm2, uf_o _ _ hm2, i2]
      show _ = _ + uf S.vi (T.ch n o) w m
      rw [ev]
/-- the end of a visit: the parent goes on -/
theorem mi_back (hG : GOK Γ) (hT : TOK Γ T) {n2 b2 : Nat} (h : MIr Γ T b S e κ n bk ((n2, b2) :: r)) (ht : TpB Γ T S e κ n) : ∃ κ', sumN κ T.N + 1 ≤ sumN κ' T.N ∧ κ' n2 = pgS Γ (T.pr n2) (e n2) + (S.vi n2 - 1) ∧ MIr Γ T b (bk, (n2, b2) :: r, S.vi, [], S.kp, S.va) e κ' n2 b2 r := by
  obtain ⟨h1, h2, ⟨⟨a1, a2, a3, a4, a5, a6, a7, a8, a9, a10⟩, h3⟩, ⟨h4, h5, _⟩, h6⟩ := h
  obtain ⟨t1, t2, t3, t4⟩ := ht
  have hG0 := hG
  obtain ⟨hV, hL, hx, _⟩ := hG
  have hn2 : n2 < T.N := by omega
  have hp2 : T.pr n2 < Γ.2.1 := ((hT.2.2 n2 hn2).1).1
  have hle := (h2 n2 hn2).1
  have hi : e n2 - 1 < plN Γ (T.pr n2) := by omega
  obtain ⟨v1, v2⟩ := vis_1 hV hL hp2 hi
  rw [a8] at v1 v2
  have hr := (plF_v hV hL hp2 v1 v2 hi).mpr a8
  have epg : pgn Γ (T.pr n2) (e n2 - 1) = 1 := by
    have hpl := ((hT.2.2 n a2).1.2.2.2.2.2.2.2 (by omega)).2.1
    rw [a3, show n2 + 1 - 1 = n2 by omega, (hT.2.2 n2 hn2).2] at hpl
    have hrt : rt Γ (T.pr n2) ≤ 3 := (hV.2.2.2 _ hp2).2.1.1
    unfold pgn; rw [if_pos (by rw [a5]; omega)]
  have eS : pgS Γ (T.pr n2) (e n2) = pgS Γ (T.pr n2) (e n2 - 1) + 1 := by
    have : pgS Γ (T.pr n2) (e n2 - 1 + 1) = pgS Γ (T.pr n2) (e n2 - 1) + pgn Γ (T.pr n2) (e n2 - 1) := rfl
    rw [show e n2 - 1 + 1 = e n2 by omega, epg] at this
    exact this
  have ee : eP Γ (T.pr n2) (e n2 - 1) = pgB Γ (T.pr n2) + (pgS Γ (T.pr n2) (e n2 - 1) + (S.vi n2 - 1)) := by unfold eP; rw [a8]
  have eb : bP Γ (T.pr n) (S.vi n) = pgB Γ (T.pr n) + (pgS Γ (T.pr n) (plF Γ (T.pr n) (S.vi n + 1)) + (S.vi n - 1)) := rfl
  refine ⟨uf κ n (κ n + 1), sum_lt h4 (by omega), by rw [uf_o _ _ (by omega)]; omega, rfl, h2, h3.cg rfl (fun m hm => ⟨rfl, rfl, uf_o _ _ (by omega)⟩), ?_, fun m hm hmn hz => ?_⟩
  · exact top_at hG0 hT hn2 (i := e n2) v1 v2 (by show plF Γ (T.pr n2) (S.vi n2) ≤ e n2; have := hr.1; omega) (by show e n2 ≤ plF Γ (T.pr n2) (S.vi n2 + 1); have := hr.2; omega) rfl rfl (by show bk = pgB Γ (T.pr n2) + (pgS Γ (T.pr n2) (e n2) + (S.vi n2 - 1)) + 1; rw [a9, ee, eS]; omega) (by rw [uf_o _ _ (by omega)]; show κ n2 = pgS Γ (T.pr n2) (e n2) + (S.vi n2 - 1); omega)
  · by_cases em : m = n
    · rw [em]
      refine ⟨t1, ?_⟩
      rw [uf_s, t1]
      show _ = _ + S.vi n
      omega
    · obtain ⟨i1, i2⟩ := h6 m hm em (fun z hz' => by
        rcases List.mem_cons.mp hz' with rfl | hz'
        · exact fun q => hmn q.symm
        · exact hz z hz')
      exact ⟨i1, by rw [uf_o _ _ em]; exact i2⟩
/-- the end of a visit of the root, not its last -/
theorem mi_root (hG : GOK Γ) (hT : TOK Γ T) (h : MIr Γ T b S e κ n bk []) (ht : TpB Γ T S e κ n) (hl : S.vi n < svs Γ (hdS Γ (T.pr n))) : n = 0 ∧ bk = 0 ∧ ∃ κ', sumN κ T.N + 1 ≤ sumN κ' T.N ∧ κ' n = pgS Γ (T.pr n) (e n) + S.vi n ∧ MIr Γ T b (pgV Γ (T.pr n) (S.vi n + 1) + 1, [(n, 0)], uf S.vi n (S.vi n + 1), [], S.kp, S.va) e κ' n 0 [] := by
  obtain ⟨h1, h2, ⟨h3, h3'⟩, ⟨h4, h5, _⟩, h6⟩ := h
  obtain ⟨t1, t2, t3, t4⟩ := ht
  have eb : bP Γ (T.pr n) (S.vi n) = pgB Γ (T.pr n) + (pgS Γ (T.pr n) (plF Γ (T.pr n) (S.vi n + 1)) + (S.vi n - 1)) := rfl
  have hvw : MST.vi (pgV Γ (T.pr n) (S.vi n + 1) + 1, [(n, 0)], uf S.vi n (S.vi n + 1), [], S.kp, S.va) n = S.vi n + 1 := uf_s _ _ _
  have hmo := plF_mo (Γ := Γ) (p := T.pr n) (u := S.vi n)
  refine ⟨h3, h3', uf κ n (κ n + 1), sum_lt h4 (by omega), by rw [uf_s, t1]; omega, rfl, fun m hm => ?_, ⟨h3, rfl⟩, top_at hG hT h4 (i := plF Γ (T.pr n) (S.vi n + 1)) (by rw [hvw]; omega) (by rw [hvw]; omega) (by rw [hvw]; exact Nat.le_refl _) (by rw [hvw]; exact hmo) t1 rfl (by rw [hvw]; rfl) (by rw [hvw, uf_s]; show κ n + 1 = pgS Γ (T.pr n) (plF Γ (T.pr n) (S.vi n + 1)) + S.vi n; omega), fun m hm hmn hz => ?_⟩
  · obtain ⟨b1, b2, b3⟩ := h2 m hm
    have tm := (hT.2.2 m hm).1
    have tmc := (hT.2.2 m hm).2
    refine ⟨b1, ?_, fun o o1 o2 => ?_⟩
    · show uf S.vi n (S.vi n + 1) m ≤ _
      by_cases em : m = n
      · rw [em, uf_s]; omega
      · rw [uf_o _ _ em]; exact b2
    · obtain ⟨f1, f2, f3, f4⟩ := tm.2.2.2.2.2.2.1 o o1 (by omega)
      have hne : T.ch m o ≠ n := by omega
      show uf S.vi n (S.vi n + 1) (T.ch m o) ≤ _ ∧ ∀ w, 1 ≤ w → w ≤ _ → (w ≤ uf S.vi n (S.vi n + 1) (T.ch m o) ↔ _)
      rw [uf_o _ _ hne]
      exact b3 o o1 o2
  · obtain ⟨i1, i2⟩ := h6 m hm hmn hz
    have ev : uf S.vi n (S.vi n + 1) m = S.vi m := uf_o _ _ hmn
    refine ⟨?_, ?_⟩
    · rw [i1]
      show _ = plF Γ (T.pr m) (uf S.vi n (S.vi n + 1) m + 1)
      rw [ev]
    · rw [uf_o _ _ hmn, i2]
      show _ = _ + uf S.vi n (S.vi n + 1) m
      rw [ev]
/-- the end of the root's last visit -/
theorem mi_end (hG : GOK Γ) (hT : TOK Γ T) (h : MIr Γ T b S e κ n bk []) (ht : TpB Γ T S e κ n) (hl : ¬ S.vi n < svs Γ (hdS Γ (T.pr n))) : n = 0 ∧ bk = 0 ∧ ∃ κ', sumN κ T.N + 1 ≤ sumN κ' T.N ∧ MIe Γ T (0, [], S.vi, [], S.kp, S.va) e κ' := by
  obtain ⟨h1, h2, ⟨h3, h3'⟩, ⟨h4, h5, _⟩, h6⟩ := h
  obtain ⟨t1, t2, t3, t4⟩ := ht
  have eb : bP Γ (T.pr n) (S.vi n) = pgB Γ (T.pr n) + (pgS Γ (T.pr n) (plF Γ (T.pr n) (S.vi n + 1)) + (S.vi n - 1)) := rfl
  refine ⟨h3, h3', uf κ n (κ n + 1), sum_lt h4 (by omega), rfl, rfl, rfl, h2, fun m hm => ?_, ?_⟩
  · by_cases em : m = n
    · rw [em]
      refine ⟨t1, ?_⟩
      rw [uf_s, t1]
      show _ = _ + S.vi n
      omega
    · obtain ⟨i1, i2⟩ := h6 m hm em (fun z hz => absurd hz (by simp))
      exact ⟨i1, by rw [uf_o _ _ em]; exact i2⟩
  · have := (h2 n h4).2.1
    rw [h3] at hl this
    show S.vi 0 = _
    omega
/-- how it starts -/
theorem mi_start (hG : GOK Γ) (hT : TOK Γ T) (kp : Nat → Nat → VL8) (va : Nat → VL8) : MIr Γ T b (pgV Γ (T.pr 0) 1 + 1, [(0, 0)], uf (fun _ => 0) 0 1, [], kp, va) (fun _ => 0) (fun _ => 0) 0 0 [] := by
  have h0 : 0 < T.N := hT.1
  have hp : T.pr 0 < Γ.2.1 := ((hT.2.2 0 h0).1).1
  have hhd : hdS Γ (T.pr 0) < Γ.1.1 := (hG.1.2.2.2 _ hp).2.1.2.1 0 (Nat.zero_le _)
  have hvis := hG.2.1.vis _ hhd
  have hvw : MST.vi (pgV Γ (T.pr 0) 1 + 1, [(0, 0)], uf (fun _ => 0) 0 1, [], kp, va) 0 = 1 := rfl
  refine ⟨rfl, fun m hm => ?_, ⟨rfl, rfl⟩, top_at hG hT h0 (i := 0) (by rw [hvw]; exact Nat.le_refl _) (by rw [hvw]; exact hvis.1) (by rw [hvw, plF_1]; exact Nat.le_refl _) (Nat.zero_le _) rfl rfl (by rw [hvw]; rfl) (by rw [hvw]; rfl), fun m hm hmn hz => ?_⟩
  · have tm := (hT.2.2 m hm).1
    have tmc := (hT.2.2 m hm).2
    refine ⟨Nat.zero_le _, ?_, fun o o1 o2 => ?_⟩
    · show uf (fun _ => 0) 0 1 m ≤ _
      by_cases em : m = 0
      · rw [em, uf_s]; exact hvis.1
      · rw [uf_o _ _ em]; exact Nat.zero_le _
    · obtain ⟨f1, f2, f3, f4⟩ := tm.2.2.2.2.2.2.1 o o1 (by omega)
      have hne : T.ch m o ≠ 0 := by omega
      show uf (fun _ => 0) 0 1 (T.ch m o) ≤ _ ∧ ∀ w, 1 ≤ w → w ≤ _ → (w ≤ uf (fun _ => 0) 0 1 (T.ch m o) ↔ _)
      rw [uf_o _ _ hne]
      exact ⟨Nat.zero_le _, fun w w1 w2 => ⟨fun z => by omega, fun z => absurd z (Nat.not_lt_zero _)⟩⟩
  · have ev : uf (fun _ => 0) 0 1 m = 0 := uf_o _ _ hmn
    refine ⟨?_, ?_⟩
    · show 0 = plF Γ (T.pr m) (uf (fun _ => 0) 0 1 m + 1)
      rw [ev, plF_1]
    · show 0 = pgS Γ (T.pr m) 0 + uf (fun _ => 0) 0 1 m
      rw [ev]; rfl
end MK
