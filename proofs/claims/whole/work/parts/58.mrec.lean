/-! ===== expressions, the model's: all of it ===== -/
section MR
variable {σ0 : ab_S} {t : Nat → Nat} {n L p : Nat} {K : PC} {Q : ab_S → Prop} {E : String → ab_S → Prop} {F : Nat → Nat → Nat → XR} {nest : Nat}
theorem g_choice (hc : MCtx σ0 t n p K) (hF : nest < 10 → ExpC σ0 t n L p Q E (F 0) (nest + 1)) : ChC σ0 t n L p Q E (x1 t n F) nest := by
  intro q k r c k7 hs h1 h0
  unfold x1 at h1 h0
  have hs1 : slk 0 ((k, false, []) :: r) := slk_le (slk_new hs) (by omega)
  refine st_frame hc (x := 2) (Or.inl ⟨rfl, rfl, k7⟩) hs1 (fun h10 => ?_) (fun h10 => ?_)
  · rw [if_pos h10] at h1 h0
    unfold x1b at h1 h0
    refine hF h10 (nx t n q) 2 ((k, false, []) :: r) c hs1 (fun hr b1 => ?_) (fun hr => ?_)
    · by_cases k8 : tkK t n (F 0 (nest + 1) (nx t n q)).2.1 = 8
      · rw [if_pos ⟨hr, k8⟩] at h1 h0
        refine ae_word hc (Or.inl ⟨rfl, k8⟩) ?_
        unfold x1c at h1 h0
        refine hF h10 _ 3 ((k, false, []) :: r) _ hs1 (fun hr2 b2 => ?_) (fun hr2 => ?_)
        · by_cases k9 : tkK t n (F 0 (nest + 1) (nx t n (F 0 (nest + 1) (nx t n q)).2.1)).2.1 = 9
          · rw [if_pos ⟨hr2, k9⟩] at h1 h0
            refine ae_word hc (Or.inr ⟨rfl, k9⟩) ?_
            unfold x1d at h1 h0
            refine hF h10 _ 4 ((k, false, []) :: r) _ hs1 (fun hr3 b3 => ?_) (fun hr3 => ?_)
            · rw [if_pos hr3] at h1
              refine ae_choice hc hs1 ?_
              have := h1 rfl false
              simpa [List.append_assoc] using this
            · rw [if_neg (by rw [hr3]; decide)] at h0; exact h0 rfl
          · rw [if_neg (fun z => k9 z.2)] at h0
            exact ae_end hc (by omega) (fun z => by omega) (fun z => by omega) (fun z => k9 z.2) (fun z => by omega) (fun _ => h0 rfl)
        · rw [if_neg (fun z => by rw [hr2] at z; exact absurd z.1 Bool.false_ne_true)] at h0; exact h0 rfl
      · rw [if_neg (fun z => k8 z.2)] at h0
        exact ae_end hc (by omega) (fun z => by omega) (fun z => k8 z.2) (fun z => by omega) (fun z => by omega) (fun _ => h0 rfl)
    · rw [if_neg (fun z => by rw [hr] at z; exact absurd z.1 Bool.false_ne_true)] at h0; exact h0 rfl
  · rw [if_neg (by omega)] at h0; exact h0 rfl
theorem g_neg (hc : MCtx σ0 t n p K) (h10 : nest < 10) (hF : FacC σ0 t n L p Q E (F 4) (nest + 1)) : NegC σ0 t n L p Q E 45 (x5 t n F) nest := by
  intro q b k b' w r c k45 hs h1 h0
  unfold x5 at h1 h0
  refine st_minus hc k45 hs (fun _ => ?_) (fun z => by omega)
  refine hF (nx t n q) false k b' (30 :: w) r c (fun z => absurd z Bool.false_ne_true) (slk_30 hs) (fun hr => ?_) (fun hr => ?_)
  · rw [if_pos hr] at h1
    have := h1 rfl
    have e1 : wdr 4 (30 :: w) = wdr 4 w := by rw [wdr, if_pos (by decide)]
    have e2 : wtk 4 (30 :: w) = 30 :: wtk 4 w := by rw [wtk, if_pos (by decide)]
    rw [e1, e2, w0, c30, if_pos rfl, show nest + 1 - (1 + c30 (wtk 4 w)) = nest - c30 (wtk 4 w) by omega]
    simpa [List.append_assoc] using this
  · rw [if_neg (by rw [hr]; decide)] at h0; exact h0 rfl
theorem g_br (hc : MCtx σ0 t n p K) (h10 : nest < 10) (hF : ExpC σ0 t n L p Q E (F 0) (nest + 1)) : NegC σ0 t n L p Q E 40 (x6 t n F) nest := by
  intro q b k b' w r c k40 hs h1 h0
  unfold x6 at h1 h0
  refine st_frame hc (x := 1) (Or.inr ⟨rfl, k40⟩) hs (fun _ => ?_) (fun z => by omega)
  refine hF (nx t n q) 1 ((k, b', w) :: r) c hs (fun hr b1 => ?_) (fun hr => ?_)
  · by_cases k41 : tkK t n (F 0 (nest + 1) (nx t n q)).2.1 = 41
    · rw [if_pos ⟨hr, k41⟩] at h1
      refine ae_paren hc k41 hs ?_
      have := h1 rfl
      simpa [List.append_assoc] using this
    · rw [if_neg (fun z => k41 z.2)] at h0
      exact ae_end hc (by omega) (fun z => k41 z.2) (fun z => by omega) (fun z => by omega) (fun z => by omega) (fun _ => h0 rfl)
  · rw [if_neg (fun z => by rw [hr] at z; exact absurd z.1 Bool.false_ne_true)] at h0; exact h0 rfl
theorem x4_leaf {q : Nat} (n45 : tkK t n q ≠ 45) (n40 : tkK t n q ≠ 40) : (x4 t n K F nest q).1 = (lfR t n K q).1 ∧ (x4 t n K F nest q).2.1 = (lfR t n K q).2.1 ∧ ((lfR t n K q).1 = true → (x4 t n K F nest q).2.2.1 = [(lfR t n K q).2.2]) := by
  unfold x4 lfR
  by_cases k3 : tkK t n q = 3
  · rw [if_pos k3, if_pos k3]
    by_cases k46 : tkK t n (nx t n q) = 46
    · rw [if_pos k46, if_pos k46]
      cases h : (pSl t n K false q).1
      · rw [if_neg (by decide)]; exact ⟨rfl, rfl, fun z => absurd z Bool.false_ne_true⟩
      · rw [if_pos rfl]; exact ⟨rfl, rfl, fun _ => rfl⟩
    · rw [if_neg k46, if_neg k46]; exact ⟨rfl, rfl, fun _ => rfl⟩
  · rw [if_neg k3, if_neg k3]
    by_cases k35 : tkK t n q = 35
    · rw [if_pos k35]
      cases h : K.2.2.2.1
      · rw [if_neg (by decide), if_neg (fun z => absurd z.2 Bool.false_ne_true)]; exact ⟨rfl, rfl, fun z => absurd z Bool.false_ne_true⟩
      · rw [if_pos rfl, if_pos ⟨k35, rfl⟩]; exact ⟨rfl, rfl, fun _ => rfl⟩
    · rw [if_neg k35, if_neg n40, if_neg n45, if_neg (fun z => k35 z.1)]; exact ⟨rfl, rfl, fun z => absurd z Bool.false_ne_true⟩
theorem g_facT (hc : MCtx σ0 t n p K) (h5 : nest < 10 → NegC σ0 t n L p Q E 45 (F 5) nest) (h6 : nest < 10 → NegC σ0 t n L p Q E 40 (F 6) nest) : FacC σ0 t n L p Q E (x4 t n K F) nest := by
  intro q b k b' w r c hb hs h1 h0
  by_cases k45 : tkK t n q = 45
  · have e : x4 t n K F nest q = if nest < 10 then F 5 (nest + 1) q else xF q := by unfold x4; rw [if_neg (by omega), if_neg (by omega), if_neg (by omega), if_pos k45]
    rw [e] at h1 h0
    by_cases h10 : nest < 10
    · rw [if_pos h10] at h1 h0
      exact h5 h10 q b k b' w r c k45 hs h1 h0
    · rw [if_neg h10] at h0
      exact st_minus hc k45 hs (fun z => absurd z h10) (fun _ => h0 rfl)
  · by_cases k40 : tkK t n q = 40
    · have e : x4 t n K F nest q = if nest < 10 then F 6 (nest + 1) q else xF q := by unfold x4; rw [if_neg (by omega), if_neg (by omega), if_pos k40]
      rw [e] at h1 h0
      by_cases h10 : nest < 10
      · rw [if_pos h10] at h1 h0
        exact h6 h10 q b k b' w r c k40 hs h1 h0
      · rw [if_neg h10] at h0
        exact st_frame hc (x := 1) (Or.inr ⟨rfl, k40⟩) hs (fun z => absurd z h10) (fun _ => h0 rfl)
    · obtain ⟨e1, e2, e3⟩ := x4_leaf (K := K) (F := F) (nest := nest) k45 k40
      rw [e1, e2] at h1 h0
      refine st_leaf hc hb k45 k40 hs (fun z => ?_) h0
      have := h1 z
      rw [e3 z] at this
      exact this
def ClC (σ0 : ab_S) (t : Nat → Nat) (n L p : Nat) (K : PC) (Q : ab_S → Prop) (E : String → ab_S → Prop) (d : Nat) : Nat → Nat → Prop
  | 0, nest => ExpC σ0 t n L p Q E (pX t n K d 0) nest
  | 1, nest => ChC σ0 t n L p Q E (pX t n K d 1) nest
  | 2, nest => GenC σ0 t n L p Q E 2 (pX t n K d 2) nest
  | 3, nest => GenC σ0 t n L p Q E 3 (pX t n K d 3) nest
  | 4, nest => FacC σ0 t n L p Q E (pX t n K d 4) nest
  | 5, nest => ∀ m, nest = m + 1 → NegC σ0 t n L p Q E 45 (pX t n K d 5) m
  | 6, nest => ∀ m, nest = m + 1 → NegC σ0 t n L p Q E 40 (pX t n K d 6) m
  | _, _ => True
theorem g_rec (hc : MCtx σ0 t n p K) : ∀ (d ix nest : Nat), ix < 7 → nest ≤ 10 → xD ix nest ≤ d → ClC σ0 t n L p K Q E d ix nest := by
  intro d
  induction d with
  | zero =>
    intro ix nest h1 h2 h3
    have : 1 ≤ xD ix nest := by unfold xD; (repeat' split) <;> omega
    omega
  | succ d ih =>
    have len : ∀ ix nest, ¬ (ix = 1 ∨ ix = 5 ∨ ix = 6) → ∀ q, XLn q (pX t n K d ix nest q) := fun ix nest hx q => pX_len t n K d ix nest q (fun z => absurd z hx)
    intro ix nest hix hnest hd
    match ix, hix with
    | 0, _ =>
      have hd : 5 * (10 - nest) + 4 ≤ d + 1 := hd
      have e : pX t n K (d + 1) 0 = x0 t n (pX t n K d) := by funext a b; rw [pX]
      show ExpC σ0 t n L p Q E (pX t n K (d + 1) 0) nest
      rw [e]
      exact g_expr hc (ih 1 nest (by omega) hnest (by show 5 * (10 - nest) + 1 ≤ d; omega)) (ih 2 nest (by omega) hnest (by show 5 * (10 - nest) + 3 ≤ d; omega))
    | 1, _ =>
      have hd : 5 * (10 - nest) + 1 ≤ d + 1 := hd
      have e : pX t n K (d + 1) 1 = x1 t n (pX t n K d) := by funext a b; rw [pX]
      show ChC σ0 t n L p Q E (pX t n K (d + 1) 1) nest
      rw [e]
      exact g_choice hc (fun h10 => ih 0 (nest + 1) (by omega) (by omega) (by show 5 * (10 - (nest + 1)) + 4 ≤ d; omega))
    | 2, _ =>
      have hd : 5 * (10 - nest) + 3 ≤ d + 1 := hd
      have e : pX t n K (d + 1) 2 = x2 t n (pX t n K d) := by funext a b; rw [pX]
      show GenC σ0 t n L p Q E 2 (pX t n K (d + 1) 2) nest
      rw [e]
      exact g_sum hc (ih 3 nest (by omega) hnest (by show 5 * (10 - nest) + 2 ≤ d; omega)) (len 3 nest (by omega))
    | 3, _ =>
      have hd : 5 * (10 - nest) + 2 ≤ d + 1 := hd
      have e : pX t n K (d + 1) 3 = x3 t n (pX t n K d) := by funext a b; rw [pX]
      show GenC σ0 t n L p Q E 3 (pX t n K (d + 1) 3) nest
      rw [e]
      exact g_prod hc (ih 4 nest (by omega) hnest (by show 5 * (10 - nest) + 1 ≤ d; omega)) (len 4 nest (by omega))
    | 4, _ =>
      have hd : 5 * (10 - nest) + 1 ≤ d + 1 := hd
      have e : pX t n K (d + 1) 4 = x4 t n K (pX t n K d) := by funext a b; rw [pX]
      show FacC σ0 t n L p Q E (pX t n K (d + 1) 4) nest
      rw [e]
      exact g_facT hc (fun h10 => ih 5 (nest + 1) (by omega) (by omega) (by show 5 * (10 - (nest + 1)) + 2 ≤ d; omega) nest rfl) (fun h10 => ih 6 (nest + 1) (by omega) (by omega) (by show 5 * (10 - (nest + 1)) + 5 ≤ d; omega) nest rfl)
    | 5, _ =>
      have hd : 5 * (10 - nest) + 2 ≤ d + 1 := hd
      have e : pX t n K (d + 1) 5 = x5 t n (pX t n K d) := by funext a b; rw [pX]
      show ∀ m, nest = m + 1 → NegC σ0 t n L p Q E 45 (pX t n K (d + 1) 5) m
      rw [e]
      intro m hm
      subst hm
      exact g_neg hc (by omega) (ih 4 (m + 1) (by omega) hnest (by show 5 * (10 - (m + 1)) + 1 ≤ d; omega))
    | 6, _ =>
      have hd : 5 * (10 - nest) + 5 ≤ d + 1 := hd
      have e : pX t n K (d + 1) 6 = x6 t n (pX t n K d) := by funext a b; rw [pX]
      show ∀ m, nest = m + 1 → NegC σ0 t n L p Q E 40 (pX t n K (d + 1) 6) m
      rw [e]
      intro m hm
      subst hm
      exact g_br hc (by omega) (ih 0 (m + 1) (by omega) hnest (by show 5 * (10 - (m + 1)) + 4 ≤ d; omega))
    | ix + 7, h => omega
/-- the model's expression -/
theorem m_expr {q : Nat} (hc : MCtx σ0 t n p K) (hS : MS σ0 t n q) (hL : σ0.2.1 92 21 = nI L) (hLq : L ≤ q) (h1 : (pX t n K 60 0 0 q).1 = true → ∀ σ', FM (SX L) σ0 σ' → MS σ' t n (pX t n K 60 0 0 q).2.1 → σ'.2.1 92 21 = nI (L + (pX t n K 60 0 0 q).2.2.1.length) → MCode σ' L (pX t n K 60 0 0 q).2.2.1 → Q σ') (h0 : (pX t n K 60 0 0 q).1 = false → (pX t n K 60 0 0 q).2.1 ≤ 2400 → ∀ σ', FM (SX L) (ab_I σ0 92 44 (nI (pX t n K 60 0 0 q).2.1)) σ' → Q σ') : wX12_expression (nI p) Q E σ0 := by
  have R : ExpC σ0 t n L p Q E (pX t n K 60 0) 0 := g_rec hc 60 0 0 (by omega) (by omega) (by decide)
  have P : PT σ0 t n L p Q E true q [(0, false, [])] [] 0 := by
    refine R q 0 [] [] (Nat.le_refl 0) (fun hr b' => ?_) (fun hr hv => h0 hr hv)
    refine ae_end hc (by omega) (fun z => by omega) (fun z => by omega) (fun z => by omega) (fun _ σ' hX => ?_) (fun z => absurd rfl z)
    obtain ⟨hY, hS', x1, x2, x3⟩ := hX
    refine h1 hr σ' hY.1 hS' hY.2.2.2.2.1 hY.2.2.2.2.2.2.2
  obtain ⟨f0, hf⟩ := P
  unfold wX12_expression
  refine fe (fe (fe ?_))
  have f3 : FM (SX L) σ0 (ab_I (ab_I (ab_I σ0 92 45 0) 92 49 0) 92 51 0) := (((FM.rf _ σ0).I rfl).I rfl).I rfl
  have Y : MY σ0 (ab_I (ab_I (ab_I σ0 92 45 0) 92 49 0) 92 51 0) L [] [] 0 := by
    refine ⟨f3, by simp [gI_I]; rfl, by simp [gI_I]; rfl, by simp [gI_I]; rfl, by simp [gI_I, hL], trivial, trivial, fun i hi => absurd hi (by simp)⟩
  have S3 : MS (ab_I (ab_I (ab_I σ0 92 45 0) 92 49 0) 92 51 0) t n q := hS.fm (S := fun a i => a == 92 && (i == 45 || i == 49 || i == 51)) ((((FM.rf _ σ0).I rfl).I rfl).I rfl) rfl (fun _ => rfl) (fun _ => rfl) rfl rfl rfl rfl
  refine m_frame (x := 0) Y S3 (by simp) (by omega) (fun σ4 s4 y4 => ⟨f0, hf f0 (Nat.le_refl _) σ4 ⟨y4, s4, rfl, by omega, ?_⟩⟩)
  simp [fl]; omega
end MR
