/-! ===== trees, the model's: a node ===== -/
def tInc (T : TST) : TST := (T.N, T.pr, T.pa, T.li, (if T.ab = 0 then T.nc else uf T.nc (T.ab - 1) (T.nc (T.ab - 1) + 1)), T.ch, T.pl, T.ab)
section MR
variable {σ : ab_S} {t : Nat → Nat} {n q d : Nat} {Γ : GRT} {T : TST} {E : String → ab_S → Prop}
theorem m_kind (hS : MS σ t n q) {w : Nat} (hw : w < 128) (hw2 : sgn w = true) : σ.2.1 92 40 = nI (mk w) ↔ tkK t n q = w := by
  have hk := tkK_lt (t := t) (n := n) (q := q)
  have hb := (mk_lt _ hk).1
  have hb2 := (mk_lt _ hw).1
  rw [hS.2.2.2.2.1, nI_eqE (by omega) (by omega)]
  exact mk_inj _ hk (tkK_vk (t := t) (n := n) (q := q)) _ hw hw2
theorem m_kn3 (hS : MS σ t n q) : σ.2.1 92 40 = (2 : Int32) ↔ tkK t n q = 3 := by
  have hk := tkK_lt (t := t) (n := n) (q := q)
  have hb := (mk_lt _ hk).1
  rw [hS.2.2.2.2.1]
  show nI _ = nI 2 ↔ _
  rw [nI_eqE (by omega) (by omega)]
  exact kind3 _ hk (tkK_vk (t := t) (n := n) (q := q))
theorem MRd.li {v : Int32} (h : MRd σ t n q Γ T d) (hV : GRV Γ) (hN : 1 ≤ T.N) : MRd (ab_I σ 136 (T.N - 1) v) t n q Γ (tLi T v) d ∧ FM SmT σ (ab_I σ 136 (T.N - 1) v) := by
  obtain ⟨m1, m2, m3, m4, m5, m6⟩ := h
  have F2 : FM (fun a _ => decide (a = 136)) σ (ab_I σ 136 (T.N - 1) v) := (FM.rf _ σ).I (decide_eq_true rfl)
  refine ⟨⟨m1.fm F2 (decide_eq_false (by omega)) (fun i => decide_eq_false (by omega)) (fun i => decide_eq_false (by omega)) (decide_eq_false (by omega)) (decide_eq_false (by omega)) (decide_eq_false (by omega)) (decide_eq_false (by omega)), ?_, m3.fm hV F2 ⟨decide_eq_false (by omega), decide_eq_false (by omega), decide_eq_false (by omega)⟩ (fun a i q1 q2 => decide_eq_false (by omega)), ⟨by rw [gI_o (by omega)]; exact m4.1, fun k hk => ?_⟩, by rw [gI_o (by omega)]; exact m5, ?_⟩, F2.mono (fun a i y => by have y := of_decide_eq_false y; exact decide_eq_false (by omega))⟩
  · unfold MOk; rw [F2.1 _ _ (decide_eq_false (by omega))]; exact m2
  · obtain ⟨a1, a2, a3, a4⟩ := m4.2 k hk
    refine ⟨by rw [gI_o (by omega)]; exact a1, by rw [gI_o (by omega)]; exact a2, by rw [gI_o (by omega)]; exact a3, ?_⟩
    rw [gI_s]
    show _ = uf T.li (T.N - 1) v k
    by_cases e : k = T.N - 1
    · rw [if_pos e, e, uf_s]
    · rw [if_neg e, uf_o _ _ e]; exact a4
  · have e : ∀ d a, Pth σ T d a → Pth (ab_I σ 136 (T.N - 1) v) (tLi T v) d a := by
      intro d
      induction d with
      | zero => intro a h; exact h
      | succ d ih =>
        intro a h
        exact ⟨h.1, by rw [gI_o (by omega)]; exact h.2.1, by rw [gI_o (by omega)]; exact h.2.2.1, ih _ h.2.2.2⟩
    exact e _ _ m6
theorem m_tnd (hn : n ≤ 2400) (hM : MRd σ t n q Γ (tInc T) d) (hV : GRV Γ) (hI : TI Γ T) (hr : TRy Γ T) (hN : T.N ≤ 250) (hd : d ≤ 250) {Q : ab_S → Prop} (kb : T.N = 250 → ∀ τ, FM SmT σ τ → MBad τ q → Q τ) (k : T.N < 250 → ∀ τ, MAft σ τ t n Γ T d (tH Γ t n T q) → Q τ) : wX12_treeNode (nI (tSy Γ T)) (abI T.ab) (nI (if T.ab = 0 then 0 else T.nc (T.ab - 1) + 1)) Q E σ := by
  have h30 := hV.2.1
  have h12 := hV.1.1
  obtain ⟨m1, m2, m3, m4, m5, m6⟩ := hM
  have m4 : MTr σ T := m4
  have hab := hI.1
  have hk := tkK_lt (t := t) (n := n) (q := q)
  have hsy : tSy Γ T < 13 := by
    unfold tSy
    by_cases e : T.ab = 0
    · rw [if_pos e]; omega
    · rw [if_neg e]
      have := (hV.2.2.2 _ (hI.2.1 (T.ab - 1) (by omega)).1).2.1.2.1 _ (hr.2 e)
      have h2 : oSy Γ (T.pr (T.ab - 1)) (T.nc (T.ab - 1) + 1) < Γ.1.1 := this
      omega
  have bad : tH Γ t n T q = (false, q, T) ∨ T.N = 250 → wX12_treeNode_j43 (nI (tSy Γ T)) (abI T.ab) (nI (if T.ab = 0 then 0 else T.nc (T.ab - 1) + 1)) Q E σ := by
    intro e
    unfold wX12_treeNode_j43
    rw [m1.2.2.1]
    obtain ⟨B1, F1⟩ := m_bad m1 hn
    refine m_failY m2 ?_
    by_cases e250 : T.N = 250
    · exact kb e250 _ F1 B1
    · refine k (by omega) _ ⟨F1, Or.inl ?_⟩
      rw [e.resolve_right e250]
      exact ⟨rfl, B1⟩
  unfold wX12_treeNode
  rw [m3.2.1]
  by_cases k2 : tkK t n q = 2
  · refine m_find (A := 101) (An := 248) (from' := 0) (N := Γ.2.1) m1 k2 (by omega) (by omega) (nm := fun i => (Γ.2.2.1 i).1) (fun i hi => ⟨fun j hj => by rw [Nat.zero_add]; exact (m3.2.2.2 i hi).1 j hj, (hV.2.2.2 i hi).1⟩) hV.2.2.1 ?_
    have epn : fi (fun i => (Γ.2.2.1 i).1) Γ.2.1 (nml t n q) = pnF Γ t n q := rfl
    unfold fiI
    rw [epn]
    by_cases kp : pnF Γ t n q < Γ.2.1
    · rw [if_pos kp]
      have hhd : hdS Γ (pnF Γ t n q) < Γ.1.1 := (hV.2.2.2 _ kp).2.1.2.1 0 (Nat.zero_le _)
      have e4 : (4 : Int32) * nI (pnF Γ t n q) = nI (4 * pnF Γ t n q) := by show nI 4 * _ = _; rw [nI_mulE]
      have w4 : σ.2.1 104 (4 * pnF Γ t n q) = nI (hdS Γ (pnF Γ t n q)) := (m3.2.2.2 _ kp).2.2.1 0 (by omega)
      rw [e4, nI_clampE (show 4 * pnF Γ t n q < 2147483648 by omega), w4]
      refine no (nI_pos (by omega)) ⟨by simp (disch := omega) only [nI_lit, nI_add, nI_mulE, nI_clampE, nI_eqE, nI_leE, nI_ltE, vp_nIE, true_and, and_true]; omega, ?_⟩
      by_cases ks : hdS Γ (pnF Γ t n q) = tSy Γ T
      · refine no (fun z => z (by rw [ks])) ?_
        rw [m4.1]
        by_cases e250 : T.N = 250
        · exact no (fun z => z (by rw [e250]; rfl)) (bad (Or.inr e250))
        · have hN1 : T.N < 250 := by omega
          have kk := k hN1
          have ecN : (nI T.N).toNatClampNeg = T.N := nI_clampE (by omega)
          have evN : vp_in (nI T.N) 251 := by simp (disch := omega) only [nI_lit, nI_add, nI_mulE, nI_clampE, nI_eqE, nI_leE, nI_ltE, vp_nIE, true_and, and_true]; omega
          refine yes (by show ¬ _ = nI 250; rw [nI_eqE (by omega) (by omega)]; exact e250) (fe ⟨evN, ?_⟩)
          rw [ecN]
          refine fe ⟨evN, fe ⟨evN, fe ⟨evN, fe ?_⟩⟩⟩
          rw [gI_o (by omega), gI_o (by omega), gI_o (by omega), gI_o (by omega), m4.1, nI_1]
          refine fe ?_
          generalize hσ1 : ab_I (ab_I (ab_I (ab_I (ab_I σ 133 T.N (nI (pnF Γ t n q))) 134 T.N (abI T.ab)) 135 T.N (nI (if T.ab = 0 then 0 else T.nc (T.ab - 1) + 1))) 136 T.N 0) 92 59 (nI (T.N + 1)) = σ1
          have F1 : FM (fun a i => decide ((a = 92 ∧ i = 59) ∨ (133 ≤ a ∧ a ≤ 136))) σ σ1 := by
            rw [← hσ1]
            exact (((((FM.rf _ σ).I (decide_eq_true (by omega))).I (decide_eq_true (by omega))).I (decide_eq_true (by omega))).I (decide_eq_true (by omega))).I (decide_eq_true (by omega))
          have F1' : FM SmT σ σ1 := F1.mono (fun a i y => by have y := of_decide_eq_false y; exact decide_eq_false (by omega))
          have M1 : MRd σ1 t n q Γ (tAd T (pnF Γ t n q)) d := by
            refine ⟨m1.fm F1 (decide_eq_false (by omega)) (fun i => decide_eq_false (by omega)) (fun i => decide_eq_false (by omega)) (decide_eq_false (by omega)) (decide_eq_false (by omega)) (decide_eq_false (by omega)) (decide_eq_false (by omega)), ?_, m3.fm hV F1 ⟨decide_eq_false (by omega), decide_eq_false (by omega), decide_eq_false (by omega)⟩ (fun a i q1 q2 => decide_eq_false (by omega)), ⟨by rw [← hσ1, gI_s, if_pos rfl]; rfl, fun j hj => ?_⟩, by rw [F1.1 _ _ (decide_eq_false (by omega))]; exact m5, ?_⟩
            · unfold MOk; rw [F1.1 _ _ (decide_eq_false (by omega))]; exact m2
            · have hj : j < T.N + 1 := hj
              have w1 : σ1.2.1 133 j = if j = T.N then nI (pnF Γ t n q) else σ.2.1 133 j := by rw [← hσ1, gI_o (by omega), gI_o (by omega), gI_o (by omega), gI_o (by omega), gI_s]
              have w2 : σ1.2.1 134 j = if j = T.N then abI T.ab else σ.2.1 134 j := by rw [← hσ1, gI_o (by omega), gI_o (by omega), gI_o (by omega), gI_s, gI_o (by omega)]
              have w3 : σ1.2.1 135 j = if j = T.N then nI (if T.ab = 0 then 0 else T.nc (T.ab - 1) + 1) else σ.2.1 135 j := by rw [← hσ1, gI_o (by omega), gI_o (by omega), gI_s, gI_o (by omega), gI_o (by omega)]
              have w4 : σ1.2.1 136 j = if j = T.N then 0 else σ.2.1 136 j := by rw [← hσ1, gI_o (by omega), gI_s, gI_o (by omega), gI_o (by omega), gI_o (by omega)]
              rw [w1, w2, w3, w4]
              show _ = nI (uf T.pr T.N (pnF Γ t n q) j) ∧ _ = abI (uf T.pa T.N T.ab j) ∧ _ = nI (uf T.pl T.N (if T.ab = 0 then 0 else T.nc (T.ab - 1) + 1) j) ∧ _ = uf T.li T.N 0 j
              by_cases e : j = T.N
              · rw [if_pos e, if_pos e, if_pos e, if_pos e, e, uf_s, uf_s, uf_s, uf_s]
                exact ⟨rfl, rfl, rfl, rfl⟩
              · rw [if_neg e, if_neg e, if_neg e, if_neg e, uf_o _ _ e, uf_o _ _ e, uf_o _ _ e, uf_o _ _ e]
                exact m4.2 j (by omega)
            · refine Pth_cg (T := tInc T) d T.ab (fun i hi => ⟨by rw [F1.1 _ _ (decide_eq_false (by omega))], by rw [F1.1 _ _ (decide_eq_false (by omega))]⟩) hab (fun j hj => ⟨?_, ?_⟩) (fun j hj => (hI.2.1 j hj).2.1) m6
              · show (if T.ab = 0 then uf T.nc T.N 0 else uf (uf T.nc T.N 0) (T.ab - 1) (T.nc (T.ab - 1) + 1)) j = (if T.ab = 0 then T.nc else uf T.nc (T.ab - 1) (T.nc (T.ab - 1) + 1)) j
                have e0 : ¬ T.ab = 0 := by omega
                rw [if_neg e0, if_neg e0]
                by_cases e1 : j = T.ab - 1
                · rw [e1, uf_s, uf_s]
                · rw [uf_o _ _ e1, uf_o _ _ e1, uf_o _ _ (by omega)]
              · show uf T.pa T.N T.ab j = T.pa j
                rw [uf_o _ _ (by omega)]
          clear hσ1
          have hTI := TI_ad hI kp ks hr.1 hr.2
          have hA0 : TAf Γ T (tAd T (pnF Γ t n q)) := ⟨rfl, rfl, hTI.2.1, hTI.2.2.1, by rw [hTI.2.2.2.1]; exact kp, hTI.2.2.2.2.1, hTI.2.2.2.2.2⟩
          have ep : (tAd T (pnF Γ t n q)).pr T.N = pnF Γ t n q := hTI.2.2.2.1
          refine m_next M1.1 (fun τ2 f2 s2 => ?_)
          obtain ⟨M2, F2⟩ := M1.adv hV f2 s2
          have F02 := F1'.tr F2
          have kc : tkK t n q = 2 ∧ pnF Γ t n q < Γ.2.1 ∧ hdS Γ (pnF Γ t n q) = tSy Γ T := ⟨k2, kp, ks⟩
          rw [nI_clampE (show pnF Γ t n q < 2147483648 by omega), (M2.2.2.1.2.2.2 _ kp).2.2.2.1]
          refine ⟨by simp (disch := omega) only [nI_lit, nI_add, nI_mulE, nI_clampE, nI_eqE, nI_leE, nI_ltE, vp_nIE, true_and, and_true]; omega, ?_⟩
          cases hl : (Γ.2.2.1 (pnF Γ t n q)).2.2.2.1
          · have e : tH Γ t n T q = (true, nx t n q, tAd T (pnF Γ t n q)) := by unfold tH; rw [if_pos kc, hl, if_neg (by decide)]
            rw [e] at kk
            refine yes rfl ?_
            rw [← ep]
            exact m_j185 hn hV hI hA0 hN1 hd F02 M2 kk
          · have e : tH Γ t n T q = tL t n (tAd T (pnF Γ t n q)) (nx t n q) := by unfold tH; rw [if_pos kc, hl, if_pos rfl]
            rw [e] at kk
            refine no (by decide) ?_
            -- the number
            have num : ∀ τ q', FM SmT σ τ → MRd τ t n q' Γ (tAd T (pnF Γ t n q)) d → tkK t n q' = 3 → ∀ v : Int32, tL t n (tAd T (pnF Γ t n q)) (nx t n q) = (true, nx t n q', tLi (tAd T (pnF Γ t n q)) v) → wX12_treeNode_j180 (nI (tSy Γ T)) (abI T.ab) (nI (if T.ab = 0 then 0 else T.nc (T.ab - 1) + 1)) Q E (nI (pnF Γ t n q)) (nI T.N) v (nI T.N) τ := by
              intro τ q' F C k3 v ee
              rw [ee] at kk
              unfold wX12_treeNode_j180
              rw [ecN]
              refine ⟨evN, fe ?_⟩
              obtain ⟨C1, FF1⟩ := C.li (v := v) hV (by show 1 ≤ T.N + 1; omega)
              have C1 : MRd (ab_I τ 136 T.N v) t n q' Γ (tLi (tAd T (pnF Γ t n q)) v) d := C1
              have FF1 : FM SmT τ (ab_I τ 136 T.N v) := FF1
              refine m_next C1.1 (fun τ3 f3 s3 => ?_)
              obtain ⟨C3, F3⟩ := C1.adv hV f3 s3
              have hA1 : TAf Γ T (tLi (tAd T (pnF Γ t n q)) v) := by
                have hs : (tH Γ t n T q).1 = true := by rw [e, ee]
                have := tH_I hI hr hs
                rw [e, ee] at this
                exact this
              have ep1 : (tLi (tAd T (pnF Γ t n q)) v).pr T.N = pnF Γ t n q := ep
              rw [← ep1]
              exact m_j185 hn hV hI hA1 hN1 hd ((F.tr FF1).tr F3) C3 kk
            have j140 : ∀ τ q' (b : Bool), FM SmT σ τ → MRd τ t n q' Γ (tAd T (pnF Γ t n q)) d → (tkK t n q' = 3 → tL t n (tAd T (pnF Γ t n q)) (nx t n q) = (true, nx t n q', tLi (tAd T (pnF Γ t n q)) (if b then -(nI (nv t n q')) else nI (nv t n q')))) → (tkK t n q' ≠ 3 → tL t n (tAd T (pnF Γ t n q)) (nx t n q) = (false, q', tAd T (pnF Γ t n q))) → wX12_treeNode_j140 (nI (tSy Γ T)) (abI T.ab) (nI (if T.ab = 0 then 0 else T.nc (T.ab - 1) + 1)) Q E (nI (pnF Γ t n q)) (nI T.N) (if b then 1 else 0) τ := by
              intro τ q' b F C e3 e4
              unfold wX12_treeNode_j140
              by_cases k3 : tkK t n q' = 3
              · refine yes ((m_kn3 C.1).mpr k3) ?_
                have e3 := e3 k3
                cases b
                · refine yes rfl ?_
                  exact m_num C.1 k3 (num τ q' F C k3 _ e3)
                · refine no (by decide) ?_
                  exact m_num C.1 k3 (num τ q' F C k3 _ e3)
              · refine no (fun z => k3 ((m_kn3 C.1).mp z)) ?_
                rw [C.1.2.2.1]
                obtain ⟨B1, F1⟩ := m_bad C.1 hn
                rw [e4 k3] at kk
                exact m_failY C.2.1 (kk _ ⟨F.tr F1, Or.inl ⟨rfl, B1⟩⟩)
            have e14 : (14 : Int32) = nI (mk 45) := by decide
            rw [e14]
            by_cases k45 : tkK t n (nx t n q) = 45
            · refine no (fun z => z ((m_kind M2.1 (by omega) (by decide)).mpr k45)) ?_
              unfold wX12_treeNode_j129
              refine no (by decide) ?_
              refine m_next M2.1 (fun τ3 f3 s3 => ?_)
              obtain ⟨M3, F3⟩ := M2.adv hV f3 s3
              refine j140 τ3 (nx t n (nx t n q)) true (F02.tr F3) M3 (fun k3 => ?_) (fun k3 => ?_)
              · unfold tL; rw [if_pos k45, if_pos k3]; rfl
              · unfold tL; rw [if_pos k45, if_neg k3]
            · refine yes (fun z => k45 ((m_kind M2.1 (by omega) (by decide)).mp z)) ?_
              unfold wX12_treeNode_j129
              refine yes rfl ?_
              refine j140 τ2 (nx t n q) false F02 M2 (fun k3 => ?_) (fun k3 => ?_)
              · unfold tL; rw [if_neg k45, if_pos k3]; rfl
              · unfold tL; rw [if_neg k45, if_neg k3]
      · exact yes (by rw [nI_eqE (by omega) (by omega)]; exact ks) (bad (Or.inl (by unfold tH; rw [if_neg (fun z => ks z.2.2)])))
    · rw [if_neg kp]
      exact yes (by decide) (bad (Or.inl (by unfold tH; rw [if_neg (fun z => kp z.2.1)])))
  · exact m_find0 m1 k2 (yes (by decide) (bad (Or.inl (by unfold tH; rw [if_neg (fun z => k2 z.1)]))))
end MR
