/-! ===== grammars: all of a text, both sides ===== -/
def pSys (t : Nat → Nat) (n : Nat) : Nat → Nat → SYT → Bool × Nat × SYT
  | 0, q, G => (true, q, G)
  | f + 1, q, G => if tkK t n q = 4 then (if (pSy t n q G).1 then pSys t n f (pSy t n q G).2.1 (pSy t n q G).2.2 else (false, (pSy t n q G).2.1, G)) else (true, q, G)
def sy0 : SYT := (0, fun _ => [], fun _ => 0, fun _ _ => false, fun _ _ => [])
def gr0 (G : SYT) : GRT := (G, 0, fun _ => pnew [], 0, 0)
def pRr (t : Nat → Nat) (n : Nat) : Nat → Nat → GRT → Bool × Nat × GRT
  | 0, q, Γ => (false, q, Γ)
  | f + 1, q, Γ => if (pPr t n Γ q).1 then (if tkK t n (pPr t n Γ q).2.1 = 0 then (true, (pPr t n Γ q).2.1, gP Γ (pPr t n Γ q)) else pRr t n f (pPr t n Γ q).2.1 (gP Γ (pPr t n Γ q))) else (false, (pPr t n Γ q).2.1, Γ)
def pG2 (t : Nat → Nat) (n : Nat) (u : Bool × Nat × SYT) : Bool × Nat × GRT := if u.1 then pRr t n 30 u.2.1 (gr0 u.2.2) else (false, u.2.1, gr0 u.2.2)
def pG1 (t : Nat → Nat) (n : Nat) (u : Bool × Nat × SYT) : Bool × Nat × GRT := if u.1 then pG2 t n (pSys t n 11 u.2.1 u.2.2) else (false, u.2.1, gr0 sy0)
/-- a text: whether it is a grammar; the fault's place; the grammar -/
def pGr (t : Nat → Nat) (n : Nat) : Bool × Nat × GRT := pG1 t n (pSy t n (sp bl t n 0) sy0)
theorem pS_ns {t : Nat → Nat} {n s q : Nat} {G : SYT} : (pS1 t n s q G).2.2.1 = G.1 := by
  have h3 : ∀ q G, (pS3 t n q G).2.2.1 = G.1 := by intro q G; unfold pS3; split <;> rfl
  have h2 : ∀ q G, (pS2 t n s q G).2.2.1 = G.1 := by
    intro q G
    unfold pS2
    split
    · split
      · rw [h3]; exact pAt_ns _ _ _
      · exact pAt_ns _ _ _
    · exact h3 _ _
  unfold pS1
  split
  · split
    · rfl
    · split
      · rw [h2]; exact pAt_ns _ _ _
      · exact pAt_ns _ _ _
  · exact h2 _ _
theorem pSy_ns {t : Nat → Nat} {n q : Nat} {G : SYT} (h : (pSy t n q G).1 = true) : tkK t n q = 4 ∧ (pSy t n q G).2.2.1 = G.1 + 1 := by
  unfold pSy at h ⊢
  split at h
  · rename_i k4
    rw [if_pos k4]
    split at h
    · rename_i k2
      rw [if_pos k2]
      exact ⟨k4, pS_ns⟩
    · exact absurd h Bool.false_ne_true
  · exact absurd h Bool.false_ne_true
theorem GV0 : GV sy0 := ⟨by show 0 ≤ 12; omega, fun i j hi => absurd hi (Nat.not_lt_zero _), fun s hs => absurd hs (Nat.not_lt_zero _)⟩
theorem GRV0 {G : SYT} (h : GV G) : GRV (gr0 G) := ⟨h, by show 0 ≤ 30; omega, fun i j hi => absurd hi (Nat.not_lt_zero _), fun p hp => absurd hp (Nat.not_lt_zero _)⟩
section CL
variable {t : Nat → Nat} {n g : Nat} {E : String → ab_S → Prop}
theorem SR_Fr {p : Nat} {σ σ' : ab_S} (f : FM (SR g p) σ σ') : Fr (SGr g) σ σ' := by
  have e : ∀ a i, SGr g a = false → SR g p a i = false := by
    intro a i h
    simp [SGr] at h
    exact decide_eq_false (by omega)
  exact ⟨fun a h => funext (fun i => f.1 a i (e a i h)), fun a h => funext (fun i => f.2.1 a i (e a i h)), fun a h => funext (fun i => f.2.2 a i (e a i h))⟩
/-- behind all -/
theorem c_j105 {a0 : Nat} {σ : ab_S} {q : Nat} {Q : Int32 → ab_S → Prop} (hS : CS σ t n q) (b : Bool) (h : Q (if b = true ∧ tkK t n q = 0 then -1 else nI q) σ) : wX1_read_j105 a0 Q E (if b then 1 else 0) σ := by
  have hk := tkK_lt (t := t) (n := n) (q := q)
  unfold wX1_read_j105 wX1_read_j123
  rw [hS.kind, hS.place]
  cases b
  · rw [if_neg (fun z => absurd z.1 Bool.false_ne_true)] at h
    exact yes rfl h
  · refine no (by decide) ?_
    by_cases k0 : tkK t n q = 0
    · rw [if_pos ⟨rfl, k0⟩] at h
      exact no (fun z => z (by rw [k0]; rfl)) h
    · rw [if_neg (fun z => k0 z.2)] at h
      exact yes (by show ¬ nI _ = nI 0; rw [nI_eqE (by omega) (by omega)]; exact k0) h
theorem c_prs {a0 : Nat} (hn : n ≤ 2400) (hg : isG g) {Q : Int32 → ab_S → Prop} (σ0 : ab_S) : ∀ f i q Γ σ, i + f = 30 → 1 ≤ i → Γ.2.1 = i → CS σ t n q → σ.2.2.2 7 1 = some g → CGr σ g Γ → GRV Γ → Γ.2.2.2.2 ≤ q → Fr (SGr g) σ0 σ → (tkK t n q = 0 → ∀ σ', Fr (SGr g) σ0 σ' → CGr σ' g Γ → GRV Γ → Q (-1) σ') → (tkK t n q ≠ 0 → (pRr t n f q Γ).1 = true → ∀ σ', Fr (SGr g) σ0 σ' → CGr σ' g (pRr t n f q Γ).2.2 → GRV (pRr t n f q Γ).2.2 → Q (-1) σ') → (tkK t n q ≠ 0 → (pRr t n f q Γ).1 = false → ∀ σ', Fr (SGr g) σ0 σ' → Q (nI (pRr t n f q Γ).2.1) σ') → wX1_read_l74 a0 Q E (wX1_read_j105 a0 Q E) (f + 2) 1 (nI i) σ := by
  intro f
  induction f with
  | zero =>
    intro i q Γ σ hi h1 hnp hS h3 hC hV hq hF k0 kt kf
    refine no (by decide) (yes (by simp (disch := omega) only [nI_lit, nI_add, nI_mulE, nI_clampE, nI_eqE, nI_leE, nI_ltE, vp_nIE, true_and, and_true]; omega) ?_)
    refine c_j105 hS true ?_
    by_cases hk : tkK t n q = 0
    · rw [if_pos ⟨rfl, hk⟩]; exact k0 hk σ hF hC hV
    · rw [if_neg (fun z => hk z.2)]; exact kf hk rfl σ hF
  | succ f ih =>
    intro i q Γ σ hi h1 hnp hS h3 hC hV hq hF k0 kt kf
    have hk := tkK_lt (t := t) (n := n) (q := q)
    show wX1_read_l74_b a0 Q E (wX1_read_j105 a0 Q E) (wX1_read_l74 a0 Q E (wX1_read_j105 a0 Q E) (f + 2)) 1 (nI i) σ
    unfold wX1_read_l74_b
    refine no (by decide) (no (by simp (disch := omega) only [nI_lit, nI_add, nI_mulE, nI_clampE, nI_eqE, nI_leE, nI_ltE, vp_nIE, true_and, and_true]; omega) ?_)
    rw [hS.kind]
    by_cases hk0 : tkK t n q = 0
    · refine yes (by rw [hk0]; rfl) (c_j105 hS true ?_)
      rw [if_pos ⟨rfl, hk0⟩]; exact k0 hk0 σ hF hC hV
    · refine no (by show ¬ nI _ = nI 0; rw [nI_eqE (by omega) (by omega)]; exact hk0) ?_
      have kt := kt hk0
      have kf := kf hk0
      rw [pRr] at kt kf
      refine c_prodn hn hS hg h3 hC hV (by omega) hq (fun σ1 f1 s1 x1 => ?_)
      have F1 := hF.tr (SR_Fr f1)
      have gb := isG_b hg
      have h31 : σ1.2.2.2 7 1 = some g := by rw [f1.2.2 7 1 (decide_eq_false (by omega))]; exact h3
      cases hu : (pPr t n Γ q).1
      · rw [if_neg (by rw [hu]; decide)] at kf
        refine fe ?_
        show wX1_read_l74_b a0 Q E (wX1_read_j105 a0 Q E) (wX1_read_l74 a0 Q E (wX1_read_j105 a0 Q E) (f + 1)) (if false = true then 1 else 0) _ σ1
        unfold wX1_read_l74_b
        refine yes rfl (c_j105 s1 false ?_)
        rw [if_neg (fun z => absurd z.1 Bool.false_ne_true)]
        exact kf rfl σ1 F1
      · rw [if_pos hu] at kt kf
        obtain ⟨y1, y2, y3⟩ := x1 hu
        refine fe ?_
        rw [nI_1]
        refine ih (i + 1) _ (gP Γ (pPr t n Γ q)) σ1 (by omega) (by omega) (by show Γ.2.1 + 1 = _; omega) s1 h31 y1 y2 y3 F1 (fun z => ?_) (fun z => ?_) (fun z => ?_)
        · rw [if_pos z] at kt
          exact kt rfl
        · rw [if_neg z] at kt; exact kt
        · rw [if_neg z] at kf; exact kf
/-- behind the symbols -/
theorem c_j55 {a0 : Nat} (hn : n ≤ 2400) (hg : isG g) {Q : Int32 → ab_S → Prop} (σ0 : ab_S) {σ : ab_S} (u : Bool × Nat × SYT) (hS : CS σ t n u.2.1) (h3 : σ.2.2.2 7 1 = some g) (hC : u.1 = true → CSy σ g u.2.2 ∧ GV u.2.2 ∧ σ.2.1 g 5 = 0 ∧ σ.2.1 g 14 = 0) (hF : Fr (SGr g) σ0 σ) (kt : (pG2 t n u).1 = true → ∀ σ', Fr (SGr g) σ0 σ' → CGr σ' g (pG2 t n u).2.2 → GRV (pG2 t n u).2.2 → Q (-1) σ') (kf : (pG2 t n u).1 = false → ∀ σ', Fr (SGr g) σ0 σ' → Q (nI (pG2 t n u).2.1) σ') : wX1_read_j55 a0 Q E (if u.1 then 1 else 0) σ := by
  unfold wX1_read_j55
  have bad : ∀ σ' q', CS σ' t n q' → Q (nI q') σ' → wX1_read_j70 a0 Q E σ' := by
    intro σ' q' hs hq
    unfold wX1_read_j70 wX1_read_j71
    refine ⟨1, ?_⟩
    show wX1_read_l74_b _ _ _ _ _ _ _ _
    unfold wX1_read_l74_b
    refine yes rfl (c_j105 hs false ?_)
    rw [if_neg (fun z => absurd z.1 Bool.false_ne_true)]
    exact hq
  unfold pG2 at kt kf
  cases hu : u.1
  · rw [if_neg (by rw [hu]; decide)] at kf
    exact yes rfl (bad σ _ hS (kf rfl σ hF))
  · rw [if_pos hu] at kt kf
    obtain ⟨c1, c2, c3, c4⟩ := hC hu
    refine no (by decide) ?_
    rw [pRr] at kt kf
    refine c_prodn (Γ := gr0 u.2.2) hn hS hg h3 ⟨c1, c3, c4, fun p hp => absurd hp (Nat.not_lt_zero _)⟩ (GRV0 c2) (by show 0 < 30; omega) (Nat.zero_le _) (fun σ1 f1 s1 x1 => ?_)
    have F1 := hF.tr (SR_Fr f1)
    have gb := isG_b hg
    have h31 : σ1.2.2.2 7 1 = some g := by rw [f1.2.2 7 1 (decide_eq_false (by omega))]; exact h3
    cases hp : (pPr t n (gr0 u.2.2) u.2.1).1
    · rw [if_neg (by rw [hp]; decide)] at kf
      exact yes rfl (bad σ1 _ s1 (kf rfl σ1 F1))
    · rw [if_pos hp] at kt kf
      obtain ⟨y1, y2, y3⟩ := x1 hp
      refine no (by decide) ?_
      unfold wX1_read_j71
      refine ⟨31, c_prs hn hg σ0 29 1 _ (gP (gr0 u.2.2) (pPr t n (gr0 u.2.2) u.2.1)) σ1 (by omega) (by omega) rfl s1 h31 y1 y2 y3 F1 (fun z => ?_) (fun z => ?_) (fun z => ?_)⟩
      · rw [if_pos z] at kt
        exact kt rfl
      · rw [if_neg z] at kt; exact kt
      · rw [if_neg z] at kf; exact kf
theorem c_syms {a0 : Nat} (hn : n ≤ 2400) (hg : isG g) {Q : Int32 → ab_S → Prop} (σ0 : ab_S) : ∀ f i q G σ, i + f = 12 → 1 ≤ i → G.1 = i → CS σ t n q → σ.2.2.2 7 1 = some g → CSy σ g G → GV G → σ.2.1 g 5 = 0 → σ.2.1 g 14 = 0 → Fr (SGr g) σ0 σ → ((pG2 t n (pSys t n f q G)).1 = true → ∀ σ', Fr (SGr g) σ0 σ' → CGr σ' g (pG2 t n (pSys t n f q G)).2.2 → GRV (pG2 t n (pSys t n f q G)).2.2 → Q (-1) σ') → ((pG2 t n (pSys t n f q G)).1 = false → ∀ σ', Fr (SGr g) σ0 σ' → Q (nI (pG2 t n (pSys t n f q G)).2.1) σ') → wX1_read_l23 a0 Q E (wX1_read_j55 a0 Q E) (f + 2) 1 (nI i) σ := by
  intro f
  induction f with
  | zero =>
    intro i q G σ hi h1 hns hS h3 hC hV h5 h14 hF kt kf
    refine no (by decide) (yes (by simp (disch := omega) only [nI_lit, nI_add, nI_mulE, nI_clampE, nI_eqE, nI_leE, nI_ltE, vp_nIE, true_and, and_true]; omega) ?_)
    exact c_j55 hn hg σ0 (true, q, G) hS h3 (fun _ => ⟨hC, hV, h5, h14⟩) hF kt kf
  | succ f ih =>
    intro i q G σ hi h1 hns hS h3 hC hV h5 h14 hF kt kf
    have hk := tkK_lt (t := t) (n := n) (q := q)
    show wX1_read_l23_b a0 Q E (wX1_read_j55 a0 Q E) (wX1_read_l23 a0 Q E (wX1_read_j55 a0 Q E) (f + 2)) 1 (nI i) σ
    unfold wX1_read_l23_b
    refine no (by decide) (no (by simp (disch := omega) only [nI_lit, nI_add, nI_mulE, nI_clampE, nI_eqE, nI_leE, nI_ltE, vp_nIE, true_and, and_true]; omega) ?_)
    rw [hS.kind]
    rw [pSys] at kt kf
    by_cases k4 : tkK t n q = 4
    · rw [if_pos k4] at kt kf
      refine no (by rw [k4]; exact fun z => z rfl) ?_
      refine c_Sy hg σ hS h3 hC hV (by omega) ⟨Fr.rf _ _, fun _ _ => rfl⟩ (fun σ1 F1 R1 S1 C1 => fe ?_)
      have FF := hF.tr F1.1
      cases hu : (pSy t n q G).1
      · rw [if_neg (by rw [hu]; decide)] at kt kf
        show wX1_read_l23_b a0 Q E (wX1_read_j55 a0 Q E) (wX1_read_l23 a0 Q E (wX1_read_j55 a0 Q E) (f + 1)) (if false = true then 1 else 0) _ σ1
        unfold wX1_read_l23_b
        refine yes rfl ?_
        exact c_j55 hn hg σ0 (false, (pSy t n q G).2.1, G) S1 R1 (fun z => absurd z Bool.false_ne_true) FF kt kf
      · rw [if_pos hu] at kt kf
        obtain ⟨y1, y2⟩ := C1 hu
        rw [nI_1]
        exact ih (i + 1) _ _ σ1 (by omega) (by omega) (by rw [(pSy_ns hu).2, hns]) S1 R1 y1 y2 (by rw [F1.2 5 (by omega)]; exact h5) (by rw [F1.2 14 (by omega)]; exact h14) FF kt kf
    · rw [if_neg k4] at kt kf
      refine yes (by show ¬ nI _ = nI 4; rw [nI_eqE (by omega) (by omega)]; exact k4) ?_
      exact c_j55 hn hg σ0 (true, q, G) hS h3 (fun _ => ⟨hC, hV, h5, h14⟩) hF kt kf
/-- the class reads a grammar -/
theorem c_read {σ : ab_S} (hg : isG g) (hT : CT σ t n) {Q : Int32 → ab_S → Prop} (kt : (pGr t n).1 = true → ∀ σ', Fr (SGr g) σ σ' → CGr σ' g (pGr t n).2.2 → GRV (pGr t n).2.2 → Q (-1) σ') (kf : (pGr t n).1 = false → ∀ σ', Fr (SGr g) σ σ' → Q (nI (pGr t n).2.1) σ') : wX1_read g Q E σ := by
  have hn := hT.1
  have gb := isG_b hg
  unfold wX1_read
  refine fe ?_
  unfold wX0_clear
  refine fe (fe (fe ?_))
  generalize hσ1 : ab_I (ab_I (ab_I (ab_R σ 7 1 (some g)) g 0 0) g 5 0) g 14 0 = σ1
  have F1 : Fr (SGr g) σ σ1 := by
    rw [← hσ1]
    exact ((((Fr.rf _ σ).R (by simp [SGr])).I (by simp [SGr])).I (by simp [SGr])).I (by simp [SGr])
  have T1 : CT σ1 t n := hT.fr F1 (by simp [SGr]; omega) (by simp [SGr]; omega)
  refine c_open T1 (fun σ2 f2 s2 => ?_)
  have F2 : Fr (SGr g) σ σ2 := F1.tr (f2.mono (by intro a h; simp [SGr, S36] at *; omega))
  have o36 : ∀ a, a ≠ 3 → a ≠ 4 → a ≠ 5 → a ≠ 6 → S36 a = false := by intro a x1 x2 x3 x4; simp [S36]; omega
  have e5 : σ2.2.1 g 5 = 0 := by rw [f2.1 g (o36 g (by omega) (by omega) (by omega) (by omega)), ← hσ1]; simp [gI_I]
  have e14 : σ2.2.1 g 14 = 0 := by rw [f2.1 g (o36 g (by omega) (by omega) (by omega) (by omega)), ← hσ1]; simp [gI_I]
  have e0 : σ2.2.1 g 0 = nI 0 := by rw [f2.1 g (o36 g (by omega) (by omega) (by omega) (by omega)), ← hσ1]; simp [gI_I]; rfl
  have h3 : σ2.2.2.2 7 1 = some g := by rw [f2.2.2 7 (o36 7 (by omega) (by omega) (by omega) (by omega)), ← hσ1]; simp [gR_I, gR_R]
  unfold pGr at kt kf
  refine c_Sy hg σ2 s2 h3 (G := sy0) ⟨e0, fun s hs => absurd hs (Nat.not_lt_zero _)⟩ GV0 (by show 0 < 12; omega) ⟨Fr.rf _ _, fun _ _ => rfl⟩ (fun σ3 F3 R3 S3' C3 => ⟨13, ?_⟩)
  have FF := F2.tr F3.1
  generalize hu0 : pSy t n (sp bl t n 0) sy0 = u at kt kf S3' C3
  have hns : u.1 = true → u.2.2.1 = 1 := fun z => by rw [← hu0] at z ⊢; rw [(pSy_ns z).2]; rfl
  unfold pG1 at kt kf
  cases hu : u.1
  · rw [if_neg (by rw [hu]; decide)] at kt kf
    show wX1_read_l23_b g Q E (wX1_read_j55 g Q E) (wX1_read_l23 g Q E (wX1_read_j55 g Q E) 12) (if false = true then 1 else 0) _ σ3
    unfold wX1_read_l23_b
    refine yes rfl ?_
    exact c_j55 hn hg σ (false, u.2.1, sy0) S3' R3 (fun z => absurd z Bool.false_ne_true) FF (fun z => absurd z Bool.false_ne_true) kf
  · rw [if_pos hu] at kt kf
    obtain ⟨y1, y2⟩ := C3 hu
    exact c_syms hn hg σ 11 1 _ _ σ3 (by omega) (by omega) (hns hu) S3' R3 y1 y2 (by rw [F3.2 5 (by omega)]; exact e5) (by rw [F3.2 14 (by omega)]; exact e14) FF kt kf
end CL
