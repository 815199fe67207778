/-- a class of things: its place in vwc, its table -/
def ab_cl (c : Nat) (C : String) (T : u_T) (N : Nat) : Prop := vwc[c]? = some (C, T, N) ∧ c < 20 ∧ ab_nf c = N ∧ (∀ w ∈ u_ws C T N, w ∈ gw) ∧ (∀ k, k < N → parseFieldDescriptor (T k).2.2.1 = some (ab_ty c k)) ∧ (∀ a, a < N → ∀ b, b < N → a ≠ b → (T a).2.1 ≠ (T b).2.1)
section HEAP
variable {l : Launch} {d : ab_M} {B fr lo kc ks : Nat} {Q : Option Value → ab_S → Prop} {E : String → ab_S → Prop} {Z : ab_Zt} {pc : Nat} {lv : List (Nat × Value)} {st : List Value} {σ : ab_S}

theorem V_get (k j : Nat) {i c z idx N : Nat} {C : String} {T : u_T} {v : Value} (hk : d.2.2.2.2.2.2[k]? = some (pc, .getfield idx, 3)) (hc : ab_cl c C T N) (hw : Cond.fieldLink d.1 idx (T j).1 (T j).2.1 (T j).2.2.1 ∈ gw) (hj : j < N) (hs : σ.1[i]? = some (c, z)) (hv : ∀ ad, ab_fv ad σ i j (ab_ty c j) = ab_v ad v) (kk : V l d B fr lo kc ks Z (pc + 3) lv (v :: st) σ) : V l d B fr lo kc ks Z (pc) lv (.ref i :: st) σ := by
  intro p e R s m args below meth c0 D cA A n0 ad0 mc ms hC h1 h2 h3 ad H locs cells slots ls h4 h5 hD
  exact va_get hC.1.1 hC.1.2 hC.2.2.1.2 hc.2.2.2.1 hC.2.2.1.1 hC.2.2.2.2.2.1.1 hD.1 i (ab_atO hs hc.2.1) hc.1 j hj (hC.2.2.1.2 _ hw) (fun _ h => h) ((ab_obj_get (by rw [hc.2.2.1]; exact hj)).trans (congrArg some (hv ad))) (hC.dec hk) (kk p e R s m args below meth c0 D cA A n0 ad0 mc ms hC h1 h2 h3 ad H locs cells slots ls h4 h5 hD)
theorem V_getR (k j : Nat) {i c z idx N : Nat} {C : String} {T : u_T} {q : Nat} (hk : d.2.2.2.2.2.2[k]? = some (pc, .getfield idx, 3)) (hc : ab_cl c C T N) (hw : Cond.fieldLink d.1 idx (T j).1 (T j).2.1 (T j).2.2.1 ∈ gw) (hj : j < N) (hs : σ.1[i]? = some (c, z)) (ht : ∀ ad, ab_fv ad σ i j (ab_ty c j) = va_rf ((σ.2.2.2 i j).map ad)) (hq : σ.2.2.2 i j = some q) (kk : V l d B fr lo kc ks Z (pc + 3) lv (.ref q :: st) σ) : V l d B fr lo kc ks Z (pc) lv (.ref i :: st) σ :=
  V_get k j (v := .ref q) hk hc hw hj hs (fun ad => by rw [ht ad, hq]; rfl) kk
theorem V_putI (k j : Nat) {i c z idx N : Nat} {C : String} {T : u_T} {x : Int32} (hk : d.2.2.2.2.2.2[k]? = some (pc, .putfield idx, 3)) (hc : ab_cl c C T N) (hw : Cond.fieldLink d.1 idx (T j).1 (T j).2.1 (T j).2.2.1 ∈ gw) (hj : j < N) (hs : σ.1[i]? = some (c, z)) (hfin : (T j).2.2.2 = false) (hty : ∀ (ad : Nat → Nat) (τ : ab_S), ab_fv ad τ i j (ab_ty c j) = .int (τ.2.1 i j)) (hn : narrow (ab_ty c j) (.int x) = .int x) (hf : fits (ab_ty c j) (.int x) = true) (kk : V l d B fr lo kc ks Z (pc + 3) lv (st) (ab_I σ i j x)) : V l d B fr lo kc ks Z (pc) lv (.int x :: .ref i :: st) σ := by
  intro p e R s m args below meth c0 D cA A n0 ad0 mc ms hC h1 h2 h3 ad H locs cells slots ls h4 h5 hD
  have hjn : j < ab_nf c := by rw [hc.2.2.1]; exact hj
  refine va_put (ty := ab_ty c j) (v := (.int x)) hC.1.1 hC.1.2 hC.2.2.1.2 hc.2.2.2.1 (ab_ty c) hc.2.2.2.2.1 hc.2.2.2.2.2 hC.2.2.1.1 hC.2.2.2.2.2.1.1 hD.1 hD.2.1 hD.2.2.1 i (ab_atO hs hc.2.1) hc.1 j hj (hC.2.2.1.2 _ hw) (fun _ h => h) hfin (hc.2.2.2.2.1 j hj) (hn) (hf) (by rw [ab_obj_len]; exact hjn) (hC.dec hk) (fun H1 locs1 hP1 hD1 hS1 => ?_)
  have eq1 : (ab_ws cA ad σ).set i (ad i, .inr (c, (ab_obj ad σ i c).set j (.int x))) = ab_ws cA ad (ab_I σ i j x) := by
    rw [ab_ws_set (σ' := ab_I σ i j x) hs rfl (fun b z9 hb => ab_e_I hb), ab_obj_set (σ' := ab_I σ i j x) hjn ((hty ad _).trans (by simp [ab_I])) (fun b t hb => by cases t <;> simp [ab_fv, ab_I, hb])]
    simp [ab_e, hc.2.1]
  rw [eq1] at hP1 hD1
  exact kk p e R s m args below meth c0 D cA A n0 ad0 mc ms hC h1 h2 h3 ad H1 locs1 cells slots ls h4 h5 ⟨hP1, hD1, hS1, hD.2.2.2.1, hD.2.2.2.2⟩
theorem V_putIF (k j : Nat) {i c z idx N : Nat} {C : String} {T : u_T} {x : Int32} (hk : d.2.2.2.2.2.2[k]? = some (pc, .putfield idx, 3)) (hc : ab_cl c C T N) (hw : Cond.fieldLink d.1 idx (T j).1 (T j).2.1 (T j).2.2.1 ∈ gw) (hj : j < N) (hs : σ.1[i]? = some (c, z)) (hfin : (T j).2.2.2 = true) (hi : d.2.1 = "<init>") (hdc : (T j).1 = d.1) (hty : ∀ (ad : Nat → Nat) (τ : ab_S), ab_fv ad τ i j (ab_ty c j) = .int (τ.2.1 i j)) (hn : narrow (ab_ty c j) (.int x) = .int x) (hf : fits (ab_ty c j) (.int x) = true) (kk : V l d B fr lo kc ks Z (pc + 3) lv (st) (ab_I σ i j x)) : V l d B fr lo kc ks Z (pc) lv (.int x :: .ref i :: st) σ := by
  intro p e R s m args below meth c0 D cA A n0 ad0 mc ms hC h1 h2 h3 ad H locs cells slots ls h4 h5 hD
  have hjn : j < ab_nf c := by rw [hc.2.2.1]; exact hj
  refine va_putF (ty := ab_ty c j) (v := (.int x)) hC.1.1 hC.1.2 hC.2.2.1.2 hc.2.2.2.1 (ab_ty c) hc.2.2.2.2.1 hc.2.2.2.2.2 hC.2.2.1.1 hC.2.2.2.2.2.1.1 hD.1 hD.2.1 hD.2.2.1 i (ab_atO hs hc.2.1) hc.1 j hj (hC.2.2.1.2 _ hw) (fun _ h => h) hfin (hC.2.2.2.1.2.trans hi) hdc (hc.2.2.2.2.1 j hj) (hn) (hf) (by rw [ab_obj_len]; exact hjn) (hC.dec hk) (fun H1 locs1 hP1 hD1 hS1 => ?_)
  have eq1 : (ab_ws cA ad σ).set i (ad i, .inr (c, (ab_obj ad σ i c).set j (.int x))) = ab_ws cA ad (ab_I σ i j x) := by
    rw [ab_ws_set (σ' := ab_I σ i j x) hs rfl (fun b z9 hb => ab_e_I hb), ab_obj_set (σ' := ab_I σ i j x) hjn ((hty ad _).trans (by simp [ab_I])) (fun b t hb => by cases t <;> simp [ab_fv, ab_I, hb])]
    simp [ab_e, hc.2.1]
  rw [eq1] at hP1 hD1
  exact kk p e R s m args below meth c0 D cA A n0 ad0 mc ms hC h1 h2 h3 ad H1 locs1 cells slots ls h4 h5 ⟨hP1, hD1, hS1, hD.2.2.2.1, hD.2.2.2.2⟩
theorem V_putL (k j : Nat) {i c z idx N : Nat} {C : String} {T : u_T} {x : Int64} (hk : d.2.2.2.2.2.2[k]? = some (pc, .putfield idx, 3)) (hc : ab_cl c C T N) (hw : Cond.fieldLink d.1 idx (T j).1 (T j).2.1 (T j).2.2.1 ∈ gw) (hj : j < N) (hs : σ.1[i]? = some (c, z)) (hfin : (T j).2.2.2 = false) (hty : ∀ (ad : Nat → Nat) (τ : ab_S), ab_fv ad τ i j (ab_ty c j) = .long (τ.2.2.1 i j)) (hn : narrow (ab_ty c j) (.long x) = .long x) (hf : fits (ab_ty c j) (.long x) = true) (kk : V l d B fr lo kc ks Z (pc + 3) lv (st) (ab_L σ i j x)) : V l d B fr lo kc ks Z (pc) lv (.long x :: .ref i :: st) σ := by
  intro p e R s m args below meth c0 D cA A n0 ad0 mc ms hC h1 h2 h3 ad H locs cells slots ls h4 h5 hD
  have hjn : j < ab_nf c := by rw [hc.2.2.1]; exact hj
  refine va_put (ty := ab_ty c j) (v := (.long x)) hC.1.1 hC.1.2 hC.2.2.1.2 hc.2.2.2.1 (ab_ty c) hc.2.2.2.2.1 hc.2.2.2.2.2 hC.2.2.1.1 hC.2.2.2.2.2.1.1 hD.1 hD.2.1 hD.2.2.1 i (ab_atO hs hc.2.1) hc.1 j hj (hC.2.2.1.2 _ hw) (fun _ h => h) hfin (hc.2.2.2.2.1 j hj) (hn) (hf) (by rw [ab_obj_len]; exact hjn) (hC.dec hk) (fun H1 locs1 hP1 hD1 hS1 => ?_)
  have eq1 : (ab_ws cA ad σ).set i (ad i, .inr (c, (ab_obj ad σ i c).set j (.long x))) = ab_ws cA ad (ab_L σ i j x) := by
    rw [ab_ws_set (σ' := ab_L σ i j x) hs rfl (fun b z9 hb => ab_e_L hb), ab_obj_set (σ' := ab_L σ i j x) hjn ((hty ad _).trans (by simp [ab_L])) (fun b t hb => by cases t <;> simp [ab_fv, ab_L, hb])]
    simp [ab_e, hc.2.1]
  rw [eq1] at hP1 hD1
  exact kk p e R s m args below meth c0 D cA A n0 ad0 mc ms hC h1 h2 h3 ad H1 locs1 cells slots ls h4 h5 ⟨hP1, hD1, hS1, hD.2.2.2.1, hD.2.2.2.2⟩
theorem V_putLF (k j : Nat) {i c z idx N : Nat} {C : String} {T : u_T} {x : Int64} (hk : d.2.2.2.2.2.2[k]? = some (pc, .putfield idx, 3)) (hc : ab_cl c C T N) (hw : Cond.fieldLink d.1 idx (T j).1 (T j).2.1 (T j).2.2.1 ∈ gw) (hj : j < N) (hs : σ.1[i]? = some (c, z)) (hfin : (T j).2.2.2 = true) (hi : d.2.1 = "<init>") (hdc : (T j).1 = d.1) (hty : ∀ (ad : Nat → Nat) (τ : ab_S), ab_fv ad τ i j (ab_ty c j) = .long (τ.2.2.1 i j)) (hn : narrow (ab_ty c j) (.long x) = .long x) (hf : fits (ab_ty c j) (.long x) = true) (kk : V l d B fr lo kc ks Z (pc + 3) lv (st) (ab_L σ i j x)) : V l d B fr lo kc ks Z (pc) lv (.long x :: .ref i :: st) σ := by
  intro p e R s m args below meth c0 D cA A n0 ad0 mc ms hC h1 h2 h3 ad H locs cells slots ls h4 h5 hD
  have hjn : j < ab_nf c := by rw [hc.2.2.1]; exact hj
  refine va_putF (ty := ab_ty c j) (v := (.long x)) hC.1.1 hC.1.2 hC.2.2.1.2 hc.2.2.2.1 (ab_ty c) hc.2.2.2.2.1 hc.2.2.2.2.2 hC.2.2.1.1 hC.2.2.2.2.2.1.1 hD.1 hD.2.1 hD.2.2.1 i (ab_atO hs hc.2.1) hc.1 j hj (hC.2.2.1.2 _ hw) (fun _ h => h) hfin (hC.2.2.2.1.2.trans hi) hdc (hc.2.2.2.2.1 j hj) (hn) (hf) (by rw [ab_obj_len]; exact hjn) (hC.dec hk) (fun H1 locs1 hP1 hD1 hS1 => ?_)
  have eq1 : (ab_ws cA ad σ).set i (ad i, .inr (c, (ab_obj ad σ i c).set j (.long x))) = ab_ws cA ad (ab_L σ i j x) := by
    rw [ab_ws_set (σ' := ab_L σ i j x) hs rfl (fun b z9 hb => ab_e_L hb), ab_obj_set (σ' := ab_L σ i j x) hjn ((hty ad _).trans (by simp [ab_L])) (fun b t hb => by cases t <;> simp [ab_fv, ab_L, hb])]
    simp [ab_e, hc.2.1]
  rw [eq1] at hP1 hD1
  exact kk p e R s m args below meth c0 D cA A n0 ad0 mc ms hC h1 h2 h3 ad H1 locs1 cells slots ls h4 h5 ⟨hP1, hD1, hS1, hD.2.2.2.1, hD.2.2.2.2⟩
theorem V_putR (k j : Nat) {i c z idx N : Nat} {C : String} {T : u_T} {x : Option Nat} (hk : d.2.2.2.2.2.2[k]? = some (pc, .putfield idx, 3)) (hc : ab_cl c C T N) (hw : Cond.fieldLink d.1 idx (T j).1 (T j).2.1 (T j).2.2.1 ∈ gw) (hj : j < N) (hs : σ.1[i]? = some (c, z)) (hfin : (T j).2.2.2 = false) (hty : ∀ (ad : Nat → Nat) (τ : ab_S), ab_fv ad τ i j (ab_ty c j) = va_rf ((τ.2.2.2 i j).map ad)) (hn : ∀ v, (v = .null ∨ ∃ a, v = .ref a) → narrow (ab_ty c j) v = v ∧ fits (ab_ty c j) v = true) (kk : V l d B fr lo kc ks Z (pc + 3) lv (st) (ab_R σ i j x)) : V l d B fr lo kc ks Z (pc) lv (va_rf x :: .ref i :: st) σ := by
  intro p e R s m args below meth c0 D cA A n0 ad0 mc ms hC h1 h2 h3 ad H locs cells slots ls h4 h5 hD
  have es : ab_v ad (va_rf x) = va_rf (x.map ad) := by cases x <;> rfl
  show W p l e R s m args below meth c0 H locs cells slots _ (F0 m pc ls (ab_v ad (va_rf x) :: .ref (ad i) :: st.map (ab_v ad)))
  rw [es]
  have hjn : j < ab_nf c := by rw [hc.2.2.1]; exact hj
  refine va_put (ty := ab_ty c j) (v := (va_rf (x.map ad))) hC.1.1 hC.1.2 hC.2.2.1.2 hc.2.2.2.1 (ab_ty c) hc.2.2.2.2.1 hc.2.2.2.2.2 hC.2.2.1.1 hC.2.2.2.2.2.1.1 hD.1 hD.2.1 hD.2.2.1 i (ab_atO hs hc.2.1) hc.1 j hj (hC.2.2.1.2 _ hw) (fun _ h => h) hfin (hc.2.2.2.2.1 j hj) ((hn _ (by cases x <;> simp [va_rf])).1) ((hn _ (by cases x <;> simp [va_rf])).2) (by rw [ab_obj_len]; exact hjn) (hC.dec hk) (fun H1 locs1 hP1 hD1 hS1 => ?_)
  have eq1 : (ab_ws cA ad σ).set i (ad i, .inr (c, (ab_obj ad σ i c).set j (va_rf (x.map ad)))) = ab_ws cA ad (ab_R σ i j x) := by
    rw [ab_ws_set (σ' := ab_R σ i j x) hs rfl (fun b z9 hb => ab_e_R hb), ab_obj_set (σ' := ab_R σ i j x) hjn ((hty ad _).trans (by simp [ab_R])) (fun b t hb => by cases t <;> simp [ab_fv, ab_R, hb])]
    simp [ab_e, hc.2.1]
  rw [eq1] at hP1 hD1
  exact kk p e R s m args below meth c0 D cA A n0 ad0 mc ms hC h1 h2 h3 ad H1 locs1 cells slots ls h4 h5 ⟨hP1, hD1, hS1, hD.2.2.2.1, hD.2.2.2.2⟩
theorem V_putRF (k j : Nat) {i c z idx N : Nat} {C : String} {T : u_T} {x : Option Nat} (hk : d.2.2.2.2.2.2[k]? = some (pc, .putfield idx, 3)) (hc : ab_cl c C T N) (hw : Cond.fieldLink d.1 idx (T j).1 (T j).2.1 (T j).2.2.1 ∈ gw) (hj : j < N) (hs : σ.1[i]? = some (c, z)) (hfin : (T j).2.2.2 = true) (hi : d.2.1 = "<init>") (hdc : (T j).1 = d.1) (hty : ∀ (ad : Nat → Nat) (τ : ab_S), ab_fv ad τ i j (ab_ty c j) = va_rf ((τ.2.2.2 i j).map ad)) (hn : ∀ v, (v = .null ∨ ∃ a, v = .ref a) → narrow (ab_ty c j) v = v ∧ fits (ab_ty c j) v = true) (kk : V l d B fr lo kc ks Z (pc + 3) lv (st) (ab_R σ i j x)) : V l d B fr lo kc ks Z (pc) lv (va_rf x :: .ref i :: st) σ := by
  intro p e R s m args below meth c0 D cA A n0 ad0 mc ms hC h1 h2 h3 ad H locs cells slots ls h4 h5 hD
  have es : ab_v ad (va_rf x) = va_rf (x.map ad) := by cases x <;> rfl
  show W p l e R s m args below meth c0 H locs cells slots _ (F0 m pc ls (ab_v ad (va_rf x) :: .ref (ad i) :: st.map (ab_v ad)))
  rw [es]
  have hjn : j < ab_nf c := by rw [hc.2.2.1]; exact hj
  refine va_putF (ty := ab_ty c j) (v := (va_rf (x.map ad))) hC.1.1 hC.1.2 hC.2.2.1.2 hc.2.2.2.1 (ab_ty c) hc.2.2.2.2.1 hc.2.2.2.2.2 hC.2.2.1.1 hC.2.2.2.2.2.1.1 hD.1 hD.2.1 hD.2.2.1 i (ab_atO hs hc.2.1) hc.1 j hj (hC.2.2.1.2 _ hw) (fun _ h => h) hfin (hC.2.2.2.1.2.trans hi) hdc (hc.2.2.2.2.1 j hj) ((hn _ (by cases x <;> simp [va_rf])).1) ((hn _ (by cases x <;> simp [va_rf])).2) (by rw [ab_obj_len]; exact hjn) (hC.dec hk) (fun H1 locs1 hP1 hD1 hS1 => ?_)
  have eq1 : (ab_ws cA ad σ).set i (ad i, .inr (c, (ab_obj ad σ i c).set j (va_rf (x.map ad)))) = ab_ws cA ad (ab_R σ i j x) := by
    rw [ab_ws_set (σ' := ab_R σ i j x) hs rfl (fun b z9 hb => ab_e_R hb), ab_obj_set (σ' := ab_R σ i j x) hjn ((hty ad _).trans (by simp [ab_R])) (fun b t hb => by cases t <;> simp [ab_fv, ab_R, hb])]
    simp [ab_e, hc.2.1]
  rw [eq1] at hP1 hD1
  exact kk p e R s m args below meth c0 D cA A n0 ad0 mc ms hC h1 h2 h3 ad H1 locs1 cells slots ls h4 h5 ⟨hP1, hD1, hS1, hD.2.2.2.1, hD.2.2.2.2⟩
theorem V_iald (k : Nat) {i n : Nat} {x : Int32} (hk : d.2.2.2.2.2.2[k]? = some (pc, .iaload, 1)) (hs : σ.1[i]? = some (20, n)) (hin : vp_in x n) (kk : V l d B fr lo kc ks Z (pc + 1) lv (.int (σ.2.1 i x.toNatClampNeg) :: st) σ) : V l d B fr lo kc ks Z (pc) lv (.int x :: .ref i :: st) σ := by
  intro p e R s m args below meth c0 D cA A n0 ad0 mc ms hC h1 h2 h3 ad H locs cells slots ls h4 h5 hD
  exact va_iald hC.1.1 hC.1.2 hC.2.2.2.2.2.1.1 hD.1 i 0 (ab_atI hs (by decide) (by decide)) rfl hin (hC.dec hk) (kk p e R s m args below meth c0 D cA A n0 ad0 mc ms hC h1 h2 h3 ad H locs cells slots ls h4 h5 hD)
theorem V_zald (k : Nat) {i n : Nat} {x : Int32} (hk : d.2.2.2.2.2.2[k]? = some (pc, .baload, 1)) (hs : σ.1[i]? = some (22, n)) (hin : vp_in x n) (kk : V l d B fr lo kc ks Z (pc + 1) lv (.int (σ.2.1 i x.toNatClampNeg) :: st) σ) : V l d B fr lo kc ks Z (pc) lv (.int x :: .ref i :: st) σ := by
  intro p e R s m args below meth c0 D cA A n0 ad0 mc ms hC h1 h2 h3 ad H locs cells slots ls h4 h5 hD
  exact va_zald hC.1.1 hC.1.2 hC.2.2.2.2.2.1.1 hD.1 i 2 (ab_atI hs (by decide) (by decide)) rfl hin (hC.dec hk) (kk p e R s m args below meth c0 D cA A n0 ad0 mc ms hC h1 h2 h3 ad H locs cells slots ls h4 h5 hD)
theorem V_cald (k : Nat) {i n : Nat} {x : Int32} (hk : d.2.2.2.2.2.2[k]? = some (pc, .caload, 1)) (hs : σ.1[i]? = some (23, n)) (hin : vp_in x n) (kk : V l d B fr lo kc ks Z (pc + 1) lv (.int (σ.2.1 i x.toNatClampNeg) :: st) σ) : V l d B fr lo kc ks Z (pc) lv (.int x :: .ref i :: st) σ := by
  intro p e R s m args below meth c0 D cA A n0 ad0 mc ms hC h1 h2 h3 ad H locs cells slots ls h4 h5 hD
  exact va_cald hC.1.1 hC.1.2 hC.2.2.2.2.2.1.1 hD.1 i 3 (ab_atI hs (by decide) (by decide)) rfl hin (hC.dec hk) (kk p e R s m args below meth c0 D cA A n0 ad0 mc ms hC h1 h2 h3 ad H locs cells slots ls h4 h5 hD)
theorem V_lald (k : Nat) {i n : Nat} {x : Int32} (hk : d.2.2.2.2.2.2[k]? = some (pc, .laload, 1)) (hs : σ.1[i]? = some (21, n)) (hin : vp_in x n) (kk : V l d B fr lo kc ks Z (pc + 1) lv (.long (σ.2.2.1 i x.toNatClampNeg) :: st) σ) : V l d B fr lo kc ks Z (pc) lv (.int x :: .ref i :: st) σ := by
  intro p e R s m args below meth c0 D cA A n0 ad0 mc ms hC h1 h2 h3 ad H locs cells slots ls h4 h5 hD
  exact va_lald hC.1.1 hC.1.2 hC.2.2.2.2.2.1.1 hD.1 i 1 (ab_atL hs) rfl hin (hC.dec hk) (kk p e R s m args below meth c0 D cA A n0 ad0 mc ms hC h1 h2 h3 ad H locs cells slots ls h4 h5 hD)
theorem V_iast (k : Nat) {i n : Nat} {x v : Int32} (hk : d.2.2.2.2.2.2[k]? = some (pc, .iastore, 1)) (hs : σ.1[i]? = some (20, n)) (hin : vp_in x n) (kk : V l d B fr lo kc ks Z (pc + 1) lv (st) (ab_I σ i x.toNatClampNeg v)) : V l d B fr lo kc ks Z (pc) lv (.int v :: .int x :: .ref i :: st) σ := by
  intro p e R s m args below meth c0 D cA A n0 ad0 mc ms hC h1 h2 h3 ad H locs cells slots ls h4 h5 hD
  refine va_iast hC.1.1 hC.1.2 hC.2.2.2.2.2.1.1 hD.1 hD.2.1 hD.2.2.1 i 0 (ab_atI hs (by decide) (by decide)) rfl hin (hC.dec hk) (fun H1 locs1 hP1 hD1 hS1 => ?_)
  have eq1 : (ab_ws cA ad σ).set i (ad i, .inl (cA 20, n, .inl (upd (σ.2.1 i) x.toNatClampNeg v))) = ab_ws cA ad (ab_I σ i x.toNatClampNeg v) := by
    rw [ab_ws_set (σ' := ab_I σ i x.toNatClampNeg v) hs rfl (fun b z9 hb => ab_e_I hb)]
    have e9 : upd (σ.2.1 i) x.toNatClampNeg v = (ab_I σ i x.toNatClampNeg v).2.1 i := by funext b; simp [upd, ab_I]
    rw [e9]; simp [ab_e]
  rw [eq1] at hP1 hD1
  exact kk p e R s m args below meth c0 D cA A n0 ad0 mc ms hC h1 h2 h3 ad H1 locs1 cells slots ls h4 h5 ⟨hP1, hD1, hS1, hD.2.2.2.1, hD.2.2.2.2⟩
theorem V_zast (k : Nat) {i n : Nat} {x v : Int32} (hk : d.2.2.2.2.2.2[k]? = some (pc, .bastore, 1)) (hs : σ.1[i]? = some (22, n)) (hin : vp_in x n) (kk : V l d B fr lo kc ks Z (pc + 1) lv (st) (ab_I σ i x.toNatClampNeg (vp_nar .boolean v))) : V l d B fr lo kc ks Z (pc) lv (.int v :: .int x :: .ref i :: st) σ := by
  intro p e R s m args below meth c0 D cA A n0 ad0 mc ms hC h1 h2 h3 ad H locs cells slots ls h4 h5 hD
  refine va_zast hC.1.1 hC.1.2 hC.2.2.2.2.2.1.1 hD.1 hD.2.1 hD.2.2.1 i 2 (ab_atI hs (by decide) (by decide)) rfl hin (hC.dec hk) (fun H1 locs1 hP1 hD1 hS1 => ?_)
  have eq1 : (ab_ws cA ad σ).set i (ad i, .inl (cA 22, n, .inl (upd (σ.2.1 i) x.toNatClampNeg (vp_nar .boolean v)))) = ab_ws cA ad (ab_I σ i x.toNatClampNeg (vp_nar .boolean v)) := by
    rw [ab_ws_set (σ' := ab_I σ i x.toNatClampNeg (vp_nar .boolean v)) hs rfl (fun b z9 hb => ab_e_I hb)]
    have e9 : upd (σ.2.1 i) x.toNatClampNeg (vp_nar .boolean v) = (ab_I σ i x.toNatClampNeg (vp_nar .boolean v)).2.1 i := by funext b; simp [upd, ab_I]
    rw [e9]; simp [ab_e]
  rw [eq1] at hP1 hD1
  exact kk p e R s m args below meth c0 D cA A n0 ad0 mc ms hC h1 h2 h3 ad H1 locs1 cells slots ls h4 h5 ⟨hP1, hD1, hS1, hD.2.2.2.1, hD.2.2.2.2⟩
theorem V_cast (k : Nat) {i n : Nat} {x v : Int32} (hk : d.2.2.2.2.2.2[k]? = some (pc, .castore, 1)) (hs : σ.1[i]? = some (23, n)) (hin : vp_in x n) (kk : V l d B fr lo kc ks Z (pc + 1) lv (st) (ab_I σ i x.toNatClampNeg (vp_nar .char v))) : V l d B fr lo kc ks Z (pc) lv (.int v :: .int x :: .ref i :: st) σ := by
  intro p e R s m args below meth c0 D cA A n0 ad0 mc ms hC h1 h2 h3 ad H locs cells slots ls h4 h5 hD
  refine va_cast hC.1.1 hC.1.2 hC.2.2.2.2.2.1.1 hD.1 hD.2.1 hD.2.2.1 i 3 (ab_atI hs (by decide) (by decide)) rfl hin (hC.dec hk) (fun H1 locs1 hP1 hD1 hS1 => ?_)
  have eq1 : (ab_ws cA ad σ).set i (ad i, .inl (cA 23, n, .inl (upd (σ.2.1 i) x.toNatClampNeg (vp_nar .char v)))) = ab_ws cA ad (ab_I σ i x.toNatClampNeg (vp_nar .char v)) := by
    rw [ab_ws_set (σ' := ab_I σ i x.toNatClampNeg (vp_nar .char v)) hs rfl (fun b z9 hb => ab_e_I hb)]
    have e9 : upd (σ.2.1 i) x.toNatClampNeg (vp_nar .char v) = (ab_I σ i x.toNatClampNeg (vp_nar .char v)).2.1 i := by funext b; simp [upd, ab_I]
    rw [e9]; simp [ab_e]
  rw [eq1] at hP1 hD1
  exact kk p e R s m args below meth c0 D cA A n0 ad0 mc ms hC h1 h2 h3 ad H1 locs1 cells slots ls h4 h5 ⟨hP1, hD1, hS1, hD.2.2.2.1, hD.2.2.2.2⟩
theorem V_last (k : Nat) {i n : Nat} {x : Int32} {v : Int64} (hk : d.2.2.2.2.2.2[k]? = some (pc, .lastore, 1)) (hs : σ.1[i]? = some (21, n)) (hin : vp_in x n) (kk : V l d B fr lo kc ks Z (pc + 1) lv (st) (ab_L σ i x.toNatClampNeg v)) : V l d B fr lo kc ks Z (pc) lv (.long v :: .int x :: .ref i :: st) σ := by
  intro p e R s m args below meth c0 D cA A n0 ad0 mc ms hC h1 h2 h3 ad H locs cells slots ls h4 h5 hD
  refine va_last hC.1.1 hC.1.2 hC.2.2.2.2.2.1.1 hD.1 hD.2.1 hD.2.2.1 i 1 (ab_atL hs) rfl hin (hC.dec hk) (fun H1 locs1 hP1 hD1 hS1 => ?_)
  have eq1 : (ab_ws cA ad σ).set i (ad i, .inl (cA 21, n, .inr (.inl (vp_updL (σ.2.2.1 i) x.toNatClampNeg v)))) = ab_ws cA ad (ab_L σ i x.toNatClampNeg v) := by
    rw [ab_ws_set (σ' := ab_L σ i x.toNatClampNeg v) hs rfl (fun b z9 hb => ab_e_L hb)]
    have e9 : vp_updL (σ.2.2.1 i) x.toNatClampNeg v = (ab_L σ i x.toNatClampNeg v).2.2.1 i := by funext b; simp [vp_updL, ab_L]
    rw [e9]; simp [ab_e]
  rw [eq1] at hP1 hD1
  exact kk p e R s m args below meth c0 D cA A n0 ad0 mc ms hC h1 h2 h3 ad H1 locs1 cells slots ls h4 h5 ⟨hP1, hD1, hS1, hD.2.2.2.1, hD.2.2.2.2⟩
theorem V_alenI (k t0 : Nat) {i c n : Nat} {ty : FieldType} (hk : d.2.2.2.2.2.2[k]? = some (pc, .arraylength, 1)) (hs : σ.1[i]? = some (c, n)) (h0 : ¬ c < 20) (h9 : c ≠ 21) (ht : ∀ cA, (ab_tys cA)[t0]? = some (cA c, ty)) (kk : V l d B fr lo kc ks Z (pc + 1) lv (.int (nI n) :: st) σ) : V l d B fr lo kc ks Z (pc) lv (.ref i :: st) σ := by
  intro p e R s m args below meth c0 D cA A n0 ad0 mc ms hC h1 h2 h3 ad H locs cells slots ls h4 h5 hD
  exact va_alen hC.1.1 hC.1.2 hC.2.2.2.2.2.1.1 hD.1 i t0 (ab_atI hs h0 h9) (ht cA) (v := nI n) rfl (hC.dec hk) (kk p e R s m args below meth c0 D cA A n0 ad0 mc ms hC h1 h2 h3 ad H locs cells slots ls h4 h5 hD)
theorem V_alenL (k : Nat) {i n : Nat} (hk : d.2.2.2.2.2.2[k]? = some (pc, .arraylength, 1)) (hs : σ.1[i]? = some (21, n)) (kk : V l d B fr lo kc ks Z (pc + 1) lv (.int (nI n) :: st) σ) : V l d B fr lo kc ks Z (pc) lv (.ref i :: st) σ := by
  intro p e R s m args below meth c0 D cA A n0 ad0 mc ms hC h1 h2 h3 ad H locs cells slots ls h4 h5 hD
  exact va_alen hC.1.1 hC.1.2 hC.2.2.2.2.2.1.1 hD.1 i 1 (ab_atL hs) (ty := .long) rfl (v := nI n) rfl (hC.dec hk) (kk p e R s m args below meth c0 D cA A n0 ad0 mc ms hC h1 h2 h3 ad H locs cells slots ls h4 h5 hD)
theorem V_iret (k : Nat) {v : Int32} (hk : d.2.2.2.2.2.2[k]? = some (pc, .ireturn, 1)) (hr : d.2.2.2.2.1 = some .int)  (hq : Q (some (.int v)) σ) : V l d B fr lo kc ks (ab_End Q E) (pc) lv ([.int v]) σ := by
  intro p e R s m args below meth c0 D cA A n0 ad0 mc ms hC h1 h2 h3 ad H locs cells slots ls h4 h5 hD
  exact W.widen (k := mc) (n := ms) (by omega) (by omega) (vx_ret (W.iret hC.1.1 hC.1.2 (hC.2.1.2.trans hr) (fun t ht hW => ⟨⟨some (.int v), σ, ad, rfl, hq, hD.2.2.2.1, by rw [ht]; exact hD.1, hD.2.1, va_K.moved hW.alike hC.2.2.2.2.2.1.1⟩, hD.2.2.1.F ht⟩) hD.2.2.1.2.2 (hC.dec hk) hC.2.2.2.1.1))
theorem V_zret (k : Nat) {v : Int32} (hk : d.2.2.2.2.2.2[k]? = some (pc, .ireturn, 1)) (hr : d.2.2.2.2.1 = some .boolean) (hn : narrow .boolean (.int v) = .int v) (hq : Q (some (.int v)) σ) : V l d B fr lo kc ks (ab_End Q E) (pc) lv ([.int v]) σ := by
  intro p e R s m args below meth c0 D cA A n0 ad0 mc ms hC h1 h2 h3 ad H locs cells slots ls h4 h5 hD
  exact W.widen (k := mc) (n := ms) (by omega) (by omega) (vx_ret (W.zret hC.1.1 hC.1.2 (hC.2.1.2.trans hr) hn (fun t ht hW => ⟨⟨some (.int v), σ, ad, rfl, hq, hD.2.2.2.1, by rw [ht]; exact hD.1, hD.2.1, va_K.moved hW.alike hC.2.2.2.2.2.1.1⟩, hD.2.2.1.F ht⟩) hD.2.2.1.2.2 (hC.dec hk) hC.2.2.2.1.1))
theorem V_lret (k : Nat) {v : Int64} (hk : d.2.2.2.2.2.2[k]? = some (pc, .lreturn, 1)) (hr : d.2.2.2.2.1 = some .long)  (hq : Q (some (.long v)) σ) : V l d B fr lo kc ks (ab_End Q E) (pc) lv ([.long v]) σ := by
  intro p e R s m args below meth c0 D cA A n0 ad0 mc ms hC h1 h2 h3 ad H locs cells slots ls h4 h5 hD
  exact W.widen (k := mc) (n := ms) (by omega) (by omega) (vx_ret (W.lret hC.1.1 hC.1.2 (hC.2.1.2.trans hr) (fun t ht hW => ⟨⟨some (.long v), σ, ad, rfl, hq, hD.2.2.2.1, by rw [ht]; exact hD.1, hD.2.1, va_K.moved hW.alike hC.2.2.2.2.2.1.1⟩, hD.2.2.1.F ht⟩) hD.2.2.1.2.2 (hC.dec hk) hC.2.2.2.1.1))
theorem V_vret (k : Nat)  (hk : d.2.2.2.2.2.2[k]? = some (pc, .return_, 1)) (hr : d.2.2.2.2.1 = none)  (hq : Q (none) σ) : V l d B fr lo kc ks (ab_End Q E) (pc) lv ([]) σ := by
  intro p e R s m args below meth c0 D cA A n0 ad0 mc ms hC h1 h2 h3 ad H locs cells slots ls h4 h5 hD
  exact W.widen (k := mc) (n := ms) (by omega) (by omega) (vx_ret (W.vret hC.1.1 hC.1.2 (hC.2.1.2.trans hr) (fun t ht hW => ⟨⟨none, σ, ad, rfl, hq, hD.2.2.2.1, by rw [ht]; exact hD.1, hD.2.1, va_K.moved hW.alike hC.2.2.2.2.2.1.1⟩, hD.2.2.1.F ht⟩) hD.2.2.1.2.2 (hC.dec hk) hC.2.2.2.1.1))
end HEAP
