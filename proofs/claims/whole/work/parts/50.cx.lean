/-! ===== expressions, the class's ===== -/
/-- cells that the reading of an expression changes -/
def SE (g : Nat) : Nat → Nat → Bool := fun a i => a == 3 || (a == 7 && i == 3) || (a == g && i == 14) || a == g + 13 || a == g + 14
theorem FrFM {S : Nat → Bool} {σ σ' : ab_S} (h : Fr S σ σ') : FM (fun a _ => S a) σ σ' := ⟨fun a i z => congrFun (h.1 a z) i, fun a i z => congrFun (h.2.1 a z) i, fun a i z => congrFun (h.2.2 a z) i⟩
theorem S3_SE {g : Nat} : ∀ a i, SE g a i = false → S3 a = false := by intro a i h; simp [SE, S3] at *; omega
theorem CSy.fm {S : Nat → Nat → Bool} {σ σ' : ab_S} {g : Nat} {G : SYT} (h : CSy σ g G) (f : FM S σ σ') (s0 : S g 0 = false) (s1 : ∀ i, S (g + 1) i = false) (s2 : ∀ i, S (g + 2) i = false) (s3 : ∀ i, S (g + 3) i = false) (s4 : ∀ i, S (g + 4) i = false) : CSy σ' g G := by
  refine ⟨by rw [f.1 g 0 s0]; exact h.1, fun s hs => ?_⟩
  obtain ⟨a, b, c, d⟩ := h.2 s hs
  exact ⟨by rw [f.2.1 _ _ (s1 _)]; exact a, by rw [f.1 _ _ (s2 _)]; exact b, by rw [f.1 _ _ (s3 _)]; exact c, fun x hx => by rw [f.2.1 _ _ (s4 _)]; exact d x hx⟩
theorem CS.fm {S : Nat → Nat → Bool} {σ σ' : ab_S} {t : Nat → Nat} {n q : Nat} (h : CS σ t n q) (f : FM S σ σ') (s3 : ∀ i, S 3 i = false) (s4 : ∀ i, S 4 i = false) (s5 : ∀ i, S 5 i = false) (s6 : ∀ i, S 6 i = false) : CS σ' t n q := by
  obtain ⟨m, j, h1, h2, h3, h4, h5, h6, h7, h8, h9, h10, h11, h12⟩ := h
  refine ⟨m, j, ?_, h2, fun i hi => ?_, h4, h5, ?_, h7, h8, ?_, ?_, ?_, ?_⟩
  · rw [f.1 3 _ (s3 _)]; exact h1
  · rw [f.1 4 _ (s4 _), f.1 5 _ (s5 _), f.2.1 6 _ (s6 _)]; exact h3 i hi
  · rw [f.1 3 _ (s3 _)]; exact h6
  · rw [f.1 3 _ (s3 _)]; exact h9
  · rw [f.1 3 _ (s3 _)]; exact h10
  · rw [f.1 3 _ (s3 _)]; exact h11
  · rw [f.2.1 3 _ (s3 _)]; exact h12
/-- the production that is being read -/
def CP (σ : ab_S) (g p : Nat) (K : PC) : Prop := σ.2.1 7 2 = nI p ∧ p < 30 ∧ K.2.1 ≤ 3 ∧ σ.2.1 (g + 6) p = nI K.2.1 ∧ (∀ o, o ≤ K.2.1 → σ.2.1 (g + 7) (p * 4 + o) = nI (K.2.2.1 o) ∧ K.2.2.1 o < K.1.1) ∧ σ.2.1 (g + 8) p = (if K.2.2.2.1 then 1 else 0) ∧ σ.2.1 (g + 9) p = bm K.2.2.2.2 32
theorem CP.fm {S : Nat → Nat → Bool} {σ σ' : ab_S} {g p : Nat} {K : PC} (h : CP σ g p K) (f : FM S σ σ') (s0 : S 7 2 = false) (s6 : ∀ i, S (g + 6) i = false) (s7 : ∀ i, S (g + 7) i = false) (s8 : ∀ i, S (g + 8) i = false) (s9 : ∀ i, S (g + 9) i = false) : CP σ' g p K := by
  obtain ⟨a, b, c, d, e, k, l⟩ := h
  exact ⟨by rw [f.1 7 2 s0]; exact a, b, c, by rw [f.1 _ _ (s6 _)]; exact d, fun o ho => by rw [f.1 _ _ (s7 _)]; exact e o ho, by rw [f.1 _ _ (s8 _)]; exact k, by rw [f.1 _ _ (s9 _)]; exact l⟩
/-- code from L on; a TEST's and a JUMP's number is told from its own place -/
def abn (j : Nat) (x : Nat × Nat) : Nat := if x.1 = 13 ∨ x.1 = 14 then j + x.2 else x.2
def CodeAt (σ : ab_S) (g L : Nat) (c : List (Nat × Nat)) : Prop := ∀ i, i < c.length → σ.2.1 (g + 13) (L + i) = nI (c.getD i (0, 0)).1 ∧ σ.2.1 (g + 14) (L + i) = nI (abn (L + i) (c.getD i (0, 0)))
theorem gp_l {a b : List (Nat × Nat)} {i : Nat} (h : i < a.length) : (a ++ b).getD i (0, 0) = a.getD i (0, 0) := by simp [List.getD_eq_getElem?_getD, List.getElem?_append_left h]
theorem gp_r {a b : List (Nat × Nat)} {i : Nat} (h : a.length ≤ i) : (a ++ b).getD i (0, 0) = b.getD (i - a.length) (0, 0) := by simp [List.getD_eq_getElem?_getD, List.getElem?_append_right h]
theorem CodeAt.app {σ : ab_S} {g L : Nat} {a b : List (Nat × Nat)} (h1 : CodeAt σ g L a) (h2 : CodeAt σ g (L + a.length) b) : CodeAt σ g L (a ++ b) := by
  intro i hi
  rcases Nat.lt_or_ge i a.length with z | z
  · rw [gp_l z]; exact h1 i z
  · rw [gp_r z]
    have := h2 (i - a.length) (by rw [List.length_append] at hi; omega)
    rw [show L + a.length + (i - a.length) = L + i by omega] at this
    exact this
theorem CodeAt.keep {σ σ' : ab_S} {g L M : Nat} {c : List (Nat × Nat)} (h : CodeAt σ g L c) (hM : L + c.length ≤ M) (k : ∀ i, i < M → σ'.2.1 (g + 13) i = σ.2.1 (g + 13) i ∧ σ'.2.1 (g + 14) i = σ.2.1 (g + 14) i) : CodeAt σ' g L c := by
  intro i hi
  rw [(k (L + i) (by omega)).1, (k (L + i) (by omega)).2]; exact h i hi
def nmF : Int32 → List (Nat × Nat) → Int32
  | a, [] => a
  | a, x :: r => nmF (if x.1 = 2 then a ||| ((1 : Int32) <<< (nI x.2 &&& 31)) else a) r
theorem nmF_app : ∀ (c d : List (Nat × Nat)) (a : Int32), nmF a (c ++ d) = nmF (nmF a c) d
  | [], _, _ => rfl
  | x :: r, d, a => by rw [List.cons_append, nmF, nmF, nmF_app r]
def XI (σ : ab_S) (t : Nat → Nat) (n g p : Nat) (K : PC) (q L : Nat) : Prop := CS σ t n q ∧ isG g ∧ σ.2.2.2 7 1 = some g ∧ CSy σ g K.1 ∧ GV K.1 ∧ CP σ g p K ∧ σ.2.1 g 14 = nI L ∧ L ≤ q
/-- code has been added from L on, up to M -/
def XD (σ σ' : ab_S) (g L : Nat) (c : List (Nat × Nat)) : Prop := σ'.2.1 g 14 = nI (L + c.length) ∧ CodeAt σ' g L c ∧ (∀ i, i < L → σ'.2.1 (g + 13) i = σ.2.1 (g + 13) i ∧ σ'.2.1 (g + 14) i = σ.2.1 (g + 14) i) ∧ σ'.2.1 7 3 = nmF (σ.2.1 7 3) c
def XP (σ σ' : ab_S) (t : Nat → Nat) (n g L : Nat) (r : XR) : Prop := FM (SE g) σ σ' ∧ CS σ' t n r.2.1 ∧ (r.1 = true → XD σ σ' g L r.2.2.2)
theorem XD.nil {σ : ab_S} {g L : Nat} (h : σ.2.1 g 14 = nI L) : XD σ σ g L [] := ⟨h, fun i hi => absurd hi (by simp), fun _ _ => ⟨rfl, rfl⟩, rfl⟩
theorem XD.tr {σ τ υ : ab_S} {g L : Nat} {a b : List (Nat × Nat)} (h : XD σ τ g L a) (k : XD τ υ g (L + a.length) b) : XD σ υ g L (a ++ b) := by
  obtain ⟨h1, h2, h3, h4⟩ := h
  obtain ⟨k1, k2, k3, k4⟩ := k
  refine ⟨by rw [List.length_append, ← Nat.add_assoc]; exact k1, (h2.keep (Nat.le_refl _) k3).app k2, fun i hi => ?_, by rw [nmF_app, ← h4]; exact k4⟩
  obtain ⟨a1, a2⟩ := h3 i hi
  obtain ⟨b1, b2⟩ := k3 i (by omega)
  exact ⟨b1.trans a1, b2.trans a2⟩
/-- a step that writes no code -/
theorem XD.adv {σ τ υ : ab_S} {g L : Nat} {a : List (Nat × Nat)} (hg : isG g) (h : XD σ τ g L a) (f : Fr S3 τ υ) : XD σ υ g L a := by
  have e : ∀ k, υ.2.1 (g + k) = τ.2.1 (g + k) := fun k => f.1 _ (S3_g hg)
  obtain ⟨h1, h2, h3, h4⟩ := h
  refine ⟨by rw [show υ.2.1 g = τ.2.1 g from e 0]; exact h1, fun i hi => by rw [e, e]; exact h2 i hi, fun i hi => by rw [e, e]; exact h3 i hi, by rw [f.1 7 rfl]; exact h4⟩
theorem XI.next {σ τ : ab_S} {t : Nat → Nat} {n g p : Nat} {K : PC} {q L q' L' : Nat} (h : XI σ t n g p K q L) (f : FM (SE g) σ τ) (hS : CS τ t n q') (hL : τ.2.1 g 14 = nI L') (hq : L' ≤ q') : XI τ t n g p K q' L' := by
  obtain ⟨h1, h2, h3, h4, h5, h6, h7, h8⟩ := h
  have := isG_b h2
  refine ⟨hS, h2, by rw [f.2.2 7 1 (by simp [SE] <;> omega)]; exact h3, h4.fm f (by simp [SE] <;> omega) (fun i => by simp [SE] <;> omega) (fun i => by simp [SE] <;> omega) (fun i => by simp [SE] <;> omega) (fun i => by simp [SE] <;> omega), h5, h6.fm f (by simp [SE] <;> omega) (fun i => by simp [SE] <;> omega) (fun i => by simp [SE] <;> omega) (fun i => by simp [SE] <;> omega) (fun i => by simp [SE] <;> omega), hL, hq⟩
section CL
variable {σ : ab_S} {t : Nat → Nat} {n q g p L : Nat} {K : PC} {E : String → ab_S → Prop}
theorem c_emit (hg : isG g) (hL : σ.2.1 g 14 = nI L) (hL2 : L < 2400) {k v : Nat} {Q : Int32 → ab_S → Prop} (h : ∀ σ', FM (SE g) σ σ' → Fr (fun a => decide (g ≤ a ∧ a ≤ g + 17)) σ σ' → σ'.2.1 g 14 = nI (L + 1) → σ'.2.1 (g + 13) L = nI k → σ'.2.1 (g + 14) L = nI v → (∀ i, i ≠ L → σ'.2.1 (g + 13) i = σ.2.1 (g + 13) i ∧ σ'.2.1 (g + 14) i = σ.2.1 (g + 14) i) → Q (nI L) σ') : wX0_emit g (nI k) (nI v) Q E σ := by
  unfold wX0_emit
  have ec : (nI L).toNatClampNeg = L := nI_clampE (by omega)
  have ev : vp_in (nI L) 2400 := by simp (disch := omega) only [nI_lit, nI_add, nI_mulE, nI_clampE, nI_eqE, nI_leE, nI_ltE, vp_nIE, true_and, and_true]; omega
  rw [hL, ec]
  refine no (by simp (disch := omega) only [nI_lit, nI_add, nI_mulE, nI_clampE, nI_eqE, nI_leE, nI_ltE, vp_nIE, true_and, and_true]; omega) ⟨ev, fe ?_⟩
  rw [show (ab_I σ (g + 13) L (nI k)).2.1 g 14 = nI L by simp [gI_I, hL], ec]
  refine ⟨ev, fe (fe ?_)⟩
  unfold wX0_emit_j40
  rw [show (ab_I (ab_I σ (g + 13) L (nI k)) (g + 14) L (nI v)).2.1 g 14 = nI L by simp [gI_I, hL], nI_1]
  rw [show (ab_I (ab_I (ab_I σ (g + 13) L (nI k)) (g + 14) L (nI v)) g 14 (nI (L + 1))).2.1 g 14 - 1 = nI L by simp [gI_I]; exact nI_pred L]
  refine h _ ((((FM.rf _ σ).I (by simp [SE])).I (by simp [SE])).I (by simp [SE])) ((((Fr.rf _ σ).I (by simp)).I (by simp)).I (by simp)) ?_ ?_ ?_ (fun i hi => ?_)
  · simp [gI_I]
  · simp [gI_I]
  · simp [gI_I]
  · simp [gI_I, hi]
/-- an instruction that is no jump -/
theorem XD.emit {σ' : ab_S} {k v : Nat} (hk : k ≠ 13 ∧ k ≠ 14 ∧ k ≠ 2) (f : FM (SE g) σ σ') (hg : isG g) (fr : Fr (fun a => decide (g ≤ a ∧ a ≤ g + 17)) σ σ') (h1 : σ'.2.1 g 14 = nI (L + 1)) (h2 : σ'.2.1 (g + 13) L = nI k) (h3 : σ'.2.1 (g + 14) L = nI v) (h4 : ∀ i, i ≠ L → σ'.2.1 (g + 13) i = σ.2.1 (g + 13) i ∧ σ'.2.1 (g + 14) i = σ.2.1 (g + 14) i) : XD σ σ' g L [(k, v)] := by
  refine ⟨h1, fun i hi => ?_, fun i hi => h4 i (by omega), ?_⟩
  · have : i = 0 := by simp at hi; omega
    subst this
    simp [abn, hk.1, hk.2.1, h2, h3]
  · rw [fr.1 7 (Sg_out hg (by omega))]
    simp [nmF, hk.2.2]
theorem CSg (hg : isG g) {σ' : ab_S} (hS : CS σ t n q) (fr : Fr (fun a => decide (g ≤ a ∧ a ≤ g + 17)) σ σ') : CS σ' t n q := hS.fr fr (Sg_out hg (by omega)) (Sg_out hg (by omega)) (Sg_out hg (by omega)) (Sg_out hg (by omega))
theorem c_slot (d : Bool) (hI : XI σ t n g p K q L) {Q : Int32 → ab_S → Prop} (h : ∀ σ', Fr S3 σ σ' → CS σ' t n (pSl t n K d q).2.1 → Q (if (pSl t n K d q).1 then nI (pSl t n K d q).2.2 else -1) σ') : wX1_readSlot (if d then 1 else 0) Q E σ := by
  obtain ⟨hS, hg, hR, hC, hV, hP, hL, hLq⟩ := hI
  obtain ⟨p1, p2, p3, p4, p5, p6, p7⟩ := hP
  have hk := tkK_lt (t := t) (n := n) (q := q)
  have evp : vp_in (nI p) 30 := by simp (disch := omega) only [nI_lit, nI_add, nI_mulE, nI_clampE, nI_eqE, nI_leE, nI_ltE, vp_nIE, true_and, and_true]; omega
  have ecp : (nI p).toNatClampNeg = p := nI_clampE (by omega)
  unfold wX1_readSlot
  rw [hS.kind, p1, ecp]
  refine fe ?_
  by_cases k3 : tkK t n q = 3
  · obtain ⟨n1, n2, n3, n4⟩ := num_v k3
    refine no (by rw [k3]; exact fun z => z rfl) ⟨g, hR, hg, evp, ?_⟩
    rw [hS.num k3, n1, p4]
    by_cases ko : nv t n q ≤ K.2.1
    · refine yes (by simp (disch := omega) only [nI_lit, nI_add, nI_mulE, nI_clampE, nI_eqE, nI_leE, nI_ltE, vp_nIE, true_and, and_true]; exact ko) ?_
      refine c_adv hS (by omega) (fun σ1 f1 s1 => ?_)
      refine c_take (w := 46) s1 (by omega) (by omega) (fun kd σ2 f2 s2 => ?_) (fun kd => ?_)
      · have f12 := f1.tr f2
        have hk2 := tkK_lt (t := t) (n := n) (q := nx t n (nx t n q))
        refine no (by decide) ?_
        rw [s2.kind]
        by_cases k2 : tkK t n (nx t n (nx t n q)) = 2
        · obtain ⟨v1, v2, v3⟩ := nml_v k2
          refine yes (by rw [k2]; rfl) ⟨g, refG f12 rfl hR, hg, ?_⟩
          obtain ⟨o1, o2⟩ := p5 _ ko
          have hvs := hV.2.2 _ o2
          have e4 : nI p * 4 + nI (nv t n q) = nI (p * 4 + nv t n q) := by show nI p * nI 4 + _ = _; rw [nI_mulE, nI_add]
          rw [f12.1 7 rfl, p1]
          unfold wX0_symbolAt
          rw [e4]
          refine ⟨by simp (disch := omega) only [nI_lit, nI_add, nI_mulE, nI_clampE, nI_eqE, nI_leE, nI_ltE, vp_nIE, true_and, and_true]; omega, ?_⟩
          rw [nI_clampE (by omega), f12.1 _ (S3_g hg), o1]
          refine ⟨g, refG f12 rfl hR, hg, ?_⟩
          rw [s2.name k2, v2]
          have hC2 := hC.adv hg f12
          have h12 := hV.1
          refine c_findA (by omega) hvs.2.1 (hC2.2 _ o2).2.1 (fun a ha => ⟨(hC2.2 _ o2).2.2.2 a ha, hvs.2.2.2 a ha⟩) v1 ?_
          show ((fiI (K.1.2.2.2.2 (K.2.2.1 (nv t n q))) (K.1.2.2.1 (K.2.2.1 (nv t n q))) (nml t n (nx t n (nx t n q)))) = -1 → _) ∧ _
          have hAe : slA t n K q = fi (K.1.2.2.2.2 (K.2.2.1 (nv t n q))) (K.1.2.2.1 (K.2.2.1 (nv t n q))) (nml t n (nx t n (nx t n q))) := rfl
          by_cases kf : fi (K.1.2.2.2.2 (K.2.2.1 (nv t n q))) (K.1.2.2.1 (K.2.2.1 (nv t n q))) (nml t n (nx t n (nx t n q))) = K.1.2.2.1 (K.2.2.1 (nv t n q))
          · rw [fiI_no kf]
            refine yes rfl ?_
            have e : pSl t n K d q = (false, nx t n (nx t n q), 0) := by
              unfold pSl
              rw [if_pos ⟨k3, ko⟩, if_pos kd, if_neg]
              unfold slC
              rw [hAe, kf]
              simp
            rw [e] at h
            exact h σ2 f12 s2
          · have hne := fiI_ne kf (by have := hvs.2.1; omega)
            refine no hne.1 ⟨g, refG f12 rfl hR, hg, ?_⟩
            have ei : fiI (K.1.2.2.2.2 (K.2.2.1 (nv t n q))) (K.1.2.2.1 (K.2.2.1 (nv t n q))) (nml t n (nx t n (nx t n q))) = nI (slA t n K q) := by unfold fiI; rw [if_pos hne.2]; rfl
            rw [ei]
            rw [← hAe] at hne kf
            have ha8 : slA t n K q < 8 := by have := hvs.2.1; omega
            unfold wX0_isDown
            have evs : vp_in (nI (K.2.2.1 (nv t n q))) 12 := by simp (disch := omega) only [nI_lit, nI_add, nI_mulE, nI_clampE, nI_eqE, nI_leE, nI_ltE, vp_nIE, true_and, and_true]; omega
            have ecs : (nI (K.2.2.1 (nv t n q))).toNatClampNeg = K.2.2.1 (nv t n q) := nI_clampE (by omega)
            rw [ecs, (hC2.2 _ o2).2.2.1]
            have bit : ∀ (m : Int32) (x : Nat), x < 32 → ((((m.toUInt32 >>> ((nI x).toUInt32 &&& Int32.toUInt32 31)).toInt32) &&& (1 : Int32)) = 0 ↔ bt m x = false) := by
              intro m x hx
              rw [nf_bit m x hx]
              constructor
              · intro z
                have := congrArg (fun w => bt w x) z
                simp only [b_and, b_0] at this
                rw [b_shl x hx _ hx] at this
                simpa [show bt 1 0 = true from by decide] using this
              · intro z
                apply b_ext
                intro i hi
                rw [b_and, b_0, b_shl x hx _ hi]
                by_cases e : i = x
                · subst e; rw [z]; simp
                · have : bt 1 (i - x) = decide (i - x = 0) := (by decide +kernel : ∀ j, j < 32 → bt 1 j = decide (j = 0)) _ (by omega)
                  rw [this]
                  have : (decide (x ≤ i) && decide (i - x = 0)) = false := by simp; omega
                  rw [this, Bool.and_false]
            rw [bit _ _ (by omega), bm_bt (by have := hvs.2.1; omega) (by omega), decide_eq_true hne.2, Bool.true_and]
            have hdf : ∀ x, x < 32 → bt (σ.2.1 (g + 9) p) x = K.2.2.2.2 x := by
              intro x hx; rw [p7, bm_bt (by omega) hx, decide_eq_true hx, Bool.true_and]
            have o8 : nv t n q ≤ 3 := by omega
            have fin : ∀ (u y : Int32), (u = if K.1.2.2.2.1 (K.2.2.1 (nv t n q)) (slA t n K q) then 1 else 0) → (y = if 0 < nv t n q then 1 else 0) → wX1_readSlot_j125 (if d then 1 else 0) Q E (nI (nv t n q)) (nI (slA t n K q)) y u σ2 := by
              intro u y hu hy
              unfold wX1_readSlot_j125
              have e8 : nI (nv t n q) * 8 + nI (slA t n K q) = nI (8 * nv t n q + slA t n K q) := by show _ * nI 8 + _ = _; rw [nI_mulE, nI_add, Nat.mul_comm]
              have last : ∀ z : Int32, (z = if (d == decide (0 < nv t n q)) then 1 else 0) → wX1_readSlot_j133 (if d then 1 else 0) Q E (nI (nv t n q)) (nI (slA t n K q)) z u σ2 := by
                intro z hz
                unfold wX1_readSlot_j133
                rw [e8]
                by_cases hc : K.1.2.2.2.1 (K.2.2.1 (nv t n q)) (slA t n K q) = (d == decide (0 < nv t n q))
                · refine yes (by rw [hu, hz, hc]) (fe ?_)
                  have good : (d && K.2.2.2.2 (8 * nv t n q + slA t n K q)) = false → wX1_readSlot_j173 (if d then 1 else 0) Q E (nI (8 * nv t n q + slA t n K q)) σ2 := by
                    intro hdd
                    have e : pSl t n K d q = (true, nx t n (nx t n (nx t n q)), 8 * nv t n q + slA t n K q) := by
                      unfold pSl
                      rw [if_pos ⟨k3, ko⟩, if_pos kd, if_pos]
                      unfold slC
                      rw [decide_eq_true k2, decide_eq_true hne.2, hc, hdd]
                      simp
                    rw [e] at h
                    unfold wX1_readSlot_j173
                    exact c_adv s2 (by omega) (fun σ3 f3 s3 => h σ3 (f12.tr f3) s3)
                  cases d
                  · exact yes rfl (good rfl)
                  · refine no (by decide) ⟨g, refG f12 rfl hR, hg, ?_⟩
                    rw [f12.1 7 rfl, p1, ecp, f12.1 _ (S3_g hg)]
                    refine ⟨evp, ?_⟩
                    rw [bit _ _ (by omega), hdf _ (by omega)]
                    refine ⟨fun hz2 => good (by rw [hz2]; rfl), fun hz2 => ?_⟩
                    have e : pSl t n K true q = (false, nx t n (nx t n q), 0) := by
                      unfold pSl
                      rw [if_pos ⟨k3, ko⟩, if_pos kd, if_neg]
                      unfold slC
                      rw [show K.2.2.2.2 (8 * nv t n q + slA t n K q) = true by cases zz : K.2.2.2.2 (8 * nv t n q + slA t n K q) with | true => rfl | false => exact absurd zz hz2]
                      simp
                    rw [e] at h
                    exact h σ2 f12 s2
                · refine no ?_ ?_
                  · rw [hu, hz]
                    intro zz
                    apply hc
                    revert zz
                    cases K.1.2.2.2.1 (K.2.2.1 (nv t n q)) (slA t n K q) <;> cases (d == decide (0 < nv t n q)) <;> simp
                  · have e : pSl t n K d q = (false, nx t n (nx t n q), 0) := by
                      unfold pSl
                      rw [if_pos ⟨k3, ko⟩, if_pos kd, if_neg]
                      unfold slC
                      intro zz
                      simp only [Bool.and_eq_true, decide_eq_true_eq, beq_iff_eq] at zz
                      exact hc zz.2.2.1
                    rw [e] at h
                    exact h σ2 f12 s2
              have hd : ((if d then (1 : Int32) else 0) = y) ↔ (d == decide (0 < nv t n q)) = true := by
                rw [hy]
                cases d <;> by_cases h0 : 0 < nv t n q <;> simp [h0]
              refine ⟨fun hz => last 0 ?_, fun hz => last 1 ?_⟩
              · rw [if_neg (fun w => hz (hd.mpr w))]
              · rw [if_pos (hd.mp (Classical.not_not.mp hz))]
            have neg : ∀ u : Int32, (u = if K.1.2.2.2.1 (K.2.2.1 (nv t n q)) (slA t n K q) then 1 else 0) → ((nI (nv t n q) ≤ 0 → wX1_readSlot_j125 (if d then 1 else 0) Q E (nI (nv t n q)) (nI (slA t n K q)) 0 u σ2) ∧ (¬ (nI (nv t n q) ≤ 0) → wX1_readSlot_j125 (if d then 1 else 0) Q E (nI (nv t n q)) (nI (slA t n K q)) 1 u σ2)) := by
              intro u hu
              by_cases h0 : 0 < nv t n q
              · exact no (by simp (disch := omega) only [nI_lit, nI_add, nI_mulE, nI_clampE, nI_eqE, nI_leE, nI_ltE, vp_nIE, true_and, and_true]; omega) (fin u 1 hu (by rw [if_pos h0]))
              · exact yes (by simp (disch := omega) only [nI_lit, nI_add, nI_mulE, nI_clampE, nI_eqE, nI_leE, nI_ltE, vp_nIE, true_and, and_true]; omega) (fin u 0 hu (by rw [if_neg h0]))
            refine ⟨evs, fun hz => ?_, fun hz => ?_⟩
            · exact neg 0 (by rw [hz]; rfl)
            · exact neg 1 (by rw [show K.1.2.2.2.1 (K.2.2.1 (nv t n q)) (slA t n K q) = true by cases zz : K.1.2.2.2.1 (K.2.2.1 (nv t n q)) (slA t n K q) with | true => rfl | false => exact absurd zz hz]; rfl)
        · refine no (by simp (disch := omega) only [nI_lit, nI_add, nI_mulE, nI_clampE, nI_eqE, nI_leE, nI_ltE, vp_nIE, true_and, and_true]; exact k2) ?_
          have e : pSl t n K d q = (false, nx t n (nx t n q), 0) := by
            unfold pSl
            rw [if_pos ⟨k3, ko⟩, if_pos kd, if_neg]
            unfold slC
            rw [decide_eq_false k2]
            simp
          rw [e] at h
          exact h σ2 f12 s2
      · refine yes rfl ?_
        have e : pSl t n K d q = (false, nx t n q, 0) := by unfold pSl; rw [if_pos ⟨k3, ko⟩, if_neg kd]
        rw [e] at h
        exact h σ1 f1 s1
    · refine no (by simp (disch := omega) only [nI_lit, nI_add, nI_mulE, nI_clampE, nI_eqE, nI_leE, nI_ltE, vp_nIE, true_and, and_true]; exact ko) ?_
      have e : pSl t n K d q = (false, q, 0) := by unfold pSl; rw [if_neg (fun z => ko z.2)]
      rw [e] at h
      exact h σ (Fr.rf _ _) hS
  · refine yes (by simp (disch := omega) only [nI_lit, nI_add, nI_mulE, nI_clampE, nI_eqE, nI_leE, nI_ltE, vp_nIE, true_and, and_true]; exact k3) ?_
    have e : pSl t n K d q = (false, q, 0) := by unfold pSl; rw [if_neg (fun z => k3 z.1)]
    rw [e] at h
    exact h σ (Fr.rf _ _) hS
end CL
