/-! ===== evaluation: the end ===== -/
section EV
variable {Γ : GRT} {T : TST} {S : MST} {e κ : Nat → Nat}
theorem mRun_ev (hG : GOK Γ) (hD : D0 Γ) (hT : TOK Γ T) : ∀ f S e κ n bk r, MIr Γ T true S e κ n bk r → FV1 Γ T S.kp e → FV2 Γ T S e κ n → 750000 ≤ sumN κ T.N + f → ∃ e' κ', MIe Γ T (mRun Γ T true f S) e' κ' ∧ FV1 Γ T (mRun Γ T true f S).kp e'
  | 0, S, e, κ, n, bk, r, h, _, _, hs => by have := mi_kb hG hT h; omega
  | f + 1, S, e, κ, n, bk, r, h, h1, h2, hs => by
    obtain ⟨e', κ', a1, a2, a3⟩ := fv_stp hG hD hT h h1 h2
    have es : mS1 Γ T true S S.sk = mTp Γ T true S n bk r (ins Γ S) := by rw [h.1]; rfl
    show ∃ e' κ', MIe Γ T (mRun Γ T true f (mS1 Γ T true S S.sk)) e' κ' ∧ FV1 Γ T (mRun Γ T true f (mS1 Γ T true S S.sk)).kp e'
    rw [es]
    rcases a2 with ⟨n', bk', r', b1, b2⟩ | b1
    · exact mRun_ev hG hD hT f _ e' κ' n' bk' r' b1 a3 b2 (by omega)
    · rw [mRun_e Γ T true b1.1]
      exact ⟨e', κ', b1, a3⟩
theorem mie_all (hG : GOK Γ) (hT : TOK Γ T) (h : MIe Γ T S e κ) : ∀ m, m < T.N → S.vi m = svs Γ (hdS Γ (T.pr m)) ∧ e m = plN Γ (T.pr m) := by
  obtain ⟨hV, hL, hx, _⟩ := hG
  obtain ⟨h1, h2, h3, h4, h5, h6⟩ := h
  have key : ∀ f m, m ≤ f → m < T.N → S.vi m = svs Γ (hdS Γ (T.pr m)) ∧ e m = plN Γ (T.pr m) := by
    intro f
    induction f with
    | zero =>
      intro m hm hN
      have e0 : m = 0 := by omega
      rw [e0]
      refine ⟨h6, ?_⟩
      rw [(h5 0 (by omega)).1, h6, plF_N]
    | succ f ih =>
      intro m hm hN
      by_cases e0 : m = 0
      · exact ih m (by omega) hN
      · obtain ⟨t1, t2⟩ := hT.2.2 m hN
        have hpa : T.pa m ≠ 0 := fun z => e0 (t1.2.2.1.mpr z)
        have hle := t1.2.1
        obtain ⟨k1, k2, k3, k4⟩ := t1.2.2.2.2.2.2.2 hpa
        have hq : T.pa m - 1 < T.N := by omega
        obtain ⟨i1, i2⟩ := ih (T.pa m - 1) (by omega) hq
        obtain ⟨s1, s2⟩ := hT.2.2 _ hq
        rw [s2] at k2
        have hp := s1.1
        have hvs := (plC_ev hV hL hp (hx _ hp)).2 (T.pl m) k1 k2
        have hvs : (plP Γ (T.pr (T.pa m - 1))).vs (T.pl m) = svs Γ (hdS Γ (T.pr m)) := by rw [k4]; exact hvs
        have hhd : hdS Γ (T.pr m) < Γ.1.1 := (hV.2.2.2 _ t1.1).2.1.2.1 0 (Nat.zero_le _)
        have hvis := hL.vis _ hhd
        obtain ⟨v1, v2⟩ := (h4 _ hq).2.2 (T.pl m) k1 k2
        rw [k3] at v1 v2
        have hva := ((plI_A hL hV hp (svs Γ (hdS Γ (T.pr (T.pa m - 1))))).2.2.2.2 (T.pl m) (svs Γ (hdS Γ (T.pr m))) hvis.1 (by show _ ≤ (plP Γ (T.pr (T.pa m - 1))).vs (T.pl m); omega)).1
        have hva : (plP Γ (T.pr (T.pa m - 1))).va (T.pl m) (svs Γ (hdS Γ (T.pr m))) < plN Γ (T.pr (T.pa m - 1)) := hva
        have := (v2 _ hvis.1 (by omega)).mpr (by omega)
        have hvm : S.vi m = svs Γ (hdS Γ (T.pr m)) := by omega
        refine ⟨hvm, ?_⟩
        rw [(h5 m hN).1, hvm, plF_N]
  exact fun m hm => key m m (Nat.le_refl _) hm
theorem ev_end (hG : GOK Γ) (hD : D0 Γ) (hT : TOK Γ T) (h : MIe Γ T S e κ) (hF : FV1 Γ T S.kp e) : EVl Γ T S.kp := by
  have hall := mie_all hG hT h
  obtain ⟨hV, hL, hx, _⟩ := hG
  have dn : ∀ m, m < T.N → ∀ x, (Γ.2.2.1 (T.pr m)).2.2.2.2.1 x = true → (plP Γ (T.pr m)).ev x = true ∧ (plP Γ (T.pr m)).ea x < e m := by
    intro m hm x hd
    have hp := ((hT.2.2 m hm).1).1
    have hev : (plP Γ (T.pr m)).ev x = true := by rw [(plC_ev hV hL hp (hx _ hp)).1]; exact hd
    refine ⟨hev, ?_⟩
    rw [(hall m hm).2]
    exact ((plI_A hL hV hp (svs Γ (hdS Γ (T.pr m)))).2.2.2.1 x hev).1
  refine ⟨fun m hm x hd => (hF m hm x (dn m hm x hd).1 (dn m hm x hd).2).1, fun X hX k hk a ha => ?_⟩
  obtain ⟨t1, t2⟩ := hT.2.2 k hk
  have hp := t1.1
  have hhd : hdS Γ (T.pr k) < Γ.1.1 := (hV.2.2.2 _ hp).2.1.2.1 0 (Nat.zero_le _)
  have c8 := (hV.1.2.2 _ hhd).2.1
  cases hdn : Γ.1.2.2.2.1 (hdS Γ (T.pr k)) a
  · have hd : (Γ.2.2.1 (T.pr k)).2.2.2.2.1 a = true := by
      rw [df_dfn hV hp (by omega)]
      unfold dfn
      rw [show a / 8 = 0 by omega, show a % 8 = a by omega, decide_eq_true (Nat.zero_le _), Bool.true_and]
      have ha' : a < Γ.1.2.2.1 ((Γ.2.2.1 (T.pr k)).2.2.1 0) := ha
      have hdn' : Γ.1.2.2.2.1 ((Γ.2.2.1 (T.pr k)).2.2.1 0) a = false := hdn
      rw [decide_eq_true ha', hdn']; rfl
    have := (hF k hk a (dn k hk a hd).1 (dn k hk a hd).2).2.2 X hX
    rw [show a / 8 = 0 by omega, show a % 8 = a by omega, t1.2.2.2.2.2.1] at this
    exact this
  · have hk0 : k ≠ 0 := by
      intro z
      have hh := t1.2.2.2.1 z
      rw [hh] at ha hdn
      rw [hD a ha] at hdn
      exact absurd hdn (by decide)
    have hpa : T.pa k ≠ 0 := fun z => hk0 (t1.2.2.1.mpr z)
    have hle := t1.2.1
    obtain ⟨k1, k2, k3, k4⟩ := t1.2.2.2.2.2.2.2 hpa
    have hq : T.pa k - 1 < T.N := by omega
    obtain ⟨s1, s2⟩ := hT.2.2 _ hq
    rw [s2] at k2
    have hpq := s1.1
    have hrt : rt Γ (T.pr (T.pa k - 1)) ≤ 3 := (hV.2.2.2 _ hpq).2.1.1
    have hd : (Γ.2.2.1 (T.pr (T.pa k - 1))).2.2.2.2.1 (8 * T.pl k + a) = true := by
      rw [df_dfn hV hpq (by omega)]
      unfold dfn
      have k2' : T.pl k ≤ (Γ.2.2.1 (T.pr (T.pa k - 1))).2.1 := k2
      rw [show (8 * T.pl k + a) / 8 = T.pl k by omega, show (8 * T.pl k + a) % 8 = a by omega, decide_eq_true k2', Bool.true_and]
      have k4' : (Γ.2.2.1 (T.pr (T.pa k - 1))).2.2.1 (T.pl k) = hdS Γ (T.pr k) := k4.symm
      rw [k4', decide_eq_true ha, hdn, decide_eq_true (show 0 < T.pl k by omega)]; rfl
    have := (hF _ hq _ (dn _ hq _ hd).1 (dn _ hq _ hd).2).2.2 X hX
    rw [show (8 * T.pl k + a) / 8 = T.pl k by omega, show (8 * T.pl k + a) % 8 = a by omega, k3] at this
    exact this
/-- as many steps as a tree's values can want -/
theorem W75_ex : ∃ w : Nat, w = 750000 := ⟨_, rfl⟩
noncomputable def W75 : Nat := Classical.choose W75_ex
theorem W75_e : W75 = 750000 := Classical.choose_spec W75_ex
/-- the values that the class works out -/
noncomputable def val (Γ : GRT) (T : TST) : Nat → Nat → VL8 := (mRun Γ T true W75 (mSt0 Γ T)).kp
theorem val_ev (hG : GOK Γ) (hD : D0 Γ) (hT : TOK Γ T) : EVl Γ T (val Γ T) := by
  have h := mi_start (b := true) hG hT (fun _ _ => some 0) (fun _ => some 0)
  have h0 : 0 < T.N := hT.1
  have hw := W75_e
  have hF2 : FV2 Γ T (mSt0 Γ T) (fun _ => 0) (fun _ => 0) 0 := by
    refine fv2_at hG hT h0 rfl (fun x j ht => ?_)
    obtain ⟨t1, t2, t3, t4, t5, t6, t7, t8, t9, t10⟩ := ht
    have hle : pgB Γ (T.pr 0) ≤ eP Γ (T.pr 0) 0 := Nat.le_add_right _ _
    have t10 : 0 + pgB Γ (T.pr 0) = eP Γ (T.pr 0) 0 + j := t10
    omega
  obtain ⟨e', κ', a1, a2⟩ := mRun_ev hG hD hT W75 (mSt0 Γ T) (fun _ => 0) (fun _ => 0) 0 0 [] h (fun m _ x _ hx => absurd hx (Nat.not_lt_zero _)) hF2 (by omega)
  exact ev_end hG hD hT a1 a2
end EV
section CM
variable {σ : ab_S} {g x : Nat} {Γ : GRT} {T : TST} {E : String → ab_S → Prop}
/-- a tree's values, worked out -/
theorem c_eval (hG : GOK Γ) (hT : TOK Γ T) (hg : isG g) (hx : isT x) (h11 : σ.2.2.2 0 11 = some g) (h13 : σ.2.2.2 0 13 = some x) (h1 : σ.2.1 28 1 = 1) (hP : CPg σ Γ) (hC : CTr σ x T) (hCg : CGr σ g Γ) (hCl : CLs σ g Γ) {Q : ab_S → Prop} (k : ∀ τ, FM (fun a i => decide ((a = 28 ∧ (i = 2 ∨ i = 3 ∨ (10 ≤ i ∧ i ≤ 13))) ∨ (29 ≤ a ∧ a ≤ 34))) σ τ → (∀ m a, m < 250 → a < 8 → τ.2.2.1 29 (m * 8 + a) = vL (val Γ T m a)) → Q τ) : wX11_evaluate Q E σ := by
  unfold wX11_evaluate
  refine ⟨g, h11, hg, x, h13, hx, ?_⟩
  have ew : (750000 : Int32) = nI W75 := by rw [W75_e]; rfl
  rw [ew]
  refine c_rst (M := 28) (b := true) (Or.inl rfl) hG hT hg hx h1 hP hC hCg hCl (fun τ F1 St R h13' => ?_)
  refine c_run (most := W75) (Or.inl rfl) hG hT St R (mSt0_ok hG hT) (Nat.le_of_eq W75_e) h13' (fun τ2 F2 R2 _ => k τ2 (F1.tr (F2.mono (fun a i y => by have y := of_decide_eq_false y; exact decide_eq_false (by omega)))) ?_)
  exact R2.2.2.2.2.2.2.1
end CM
