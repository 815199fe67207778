/-! ===== System.arraycopy; the law's script and its end ===== -/
def ab_cpI (σ : ab_S) (i0 i1 sp dp n : Nat) : ab_S := (σ.1, (fun a b => if a = i1 then va_cpy (σ.2.1 i0) (σ.2.1 i1) sp dp n b else σ.2.1 a b), σ.2.2.1, σ.2.2.2)
def ab_cpL (σ : ab_S) (i0 i1 sp dp n : Nat) : ab_S := (σ.1, σ.2.1, (fun a b => if a = i1 then va_cpy (σ.2.2.1 i0) (σ.2.2.1 i1) sp dp n b else σ.2.2.1 a b), σ.2.2.2)
theorem wire_cI {σ σ' : ab_S} {i0 i1 sp dp n : Nat} (e : σ' = ab_cpI σ i0 i1 sp dp n) (h : Wire σ) : Wire σ' := by subst e; exact h
theorem wire_cL {σ σ' : ab_S} {i0 i1 sp dp n : Nat} (e : σ' = ab_cpL σ i0 i1 sp dp n) (h : Wire σ) : Wire σ' := by subst e; exact h
def ab_cpy (sp dp n : Int32) (n0 n1 : Nat) : Prop := (¬ sp < 0 ∧ ¬ dp < 0 ∧ ¬ n < 0) ∧ sp.toNatClampNeg + n.toNatClampNeg ≤ n0 ∧ dp.toNatClampNeg + n.toNatClampNeg ≤ n1
section COPY
variable {l : Launch} {d : ab_M} {B fr lo kc ks : Nat} {Q : Option Value → ab_S → Prop} {E : String → ab_S → Prop} {Z : ab_Zt} {pc : Nat} {lv : List (Nat × Value)} {st : List Value} {σ : ab_S}
theorem V_copyI (k : Nat) {idx i0 i1 n0 n1 : Nat} {sp dp n : Int32} (hk : d.2.2.2.2.2.2[k]? = some (pc, .invokestatic idx, 3)) (hl : Cond.methodLink d.1 idx arraycopyName ∈ gw) (h6 : Cond.native arraycopyName ∈ gw) (h7 : Cond.static arraycopyName ∈ gw) (h8 : Cond.initialized "java/lang/System" ∈ gw) (hs0 : σ.1[i0]? = some (20, n0)) (hs1 : σ.1[i1]? = some (20, n1)) (hc : ab_cpy sp dp n n0 n1) (hf : 1 ≤ fr) (hlo : (st.map fun v => v.category).sum + (nativeFrameWords "java/lang/System" "arraycopy" 5 + 11) ≤ lo)
    (kk : V l d B fr lo kc ks Z (pc + 3) lv st (ab_cpI σ i0 i1 sp.toNatClampNeg dp.toNatClampNeg n.toNatClampNeg)) : V l d B fr lo kc ks Z pc lv (.int n :: .int dp :: .ref i1 :: .int sp :: .ref i0 :: st) σ := by
  intro p e R s m args below meth c0 D cA A m0 ad0 mc ms hC h1 h2 h3 ad H locs cells slots ls h4 h5 hD
  have hts := hC.2.2.1.2
  have hrf := hC.2.2.2.2.2.2.1.2.1
  have hrl := hC.2.2.2.2.2.2.1.2.2
  have hcs := ab_cats ad st
  refine va_copyi hC.1.1 hC.1.2 (hC.2.1.1.trans hD.2.2.2.2.1.symm) hC.2.2.1.1 (hts _ hl) (hts _ h6) (hts _ h7) (hts _ h8) hC.2.2.2.2.2.1.1 hD.1 hD.2.1 hD.2.2.1 i0 i1 0 0 (ty := .int) (ab_atI hs0 (by decide) (by decide)) (ab_atI hs1 (by decide) (by decide)) rfl rfl rfl hc.1.1 hc.1.2.1 hc.1.2.2 hc.2.1 hc.2.2 (fun _ _ => rfl) (by omega) (by omega) (hC.dec hk) (fun H1 locs1 hP1 hD1 hS1 => ?_)
  have eq1 : (ab_ws cA ad σ).set i1 (ad i1, .inl (cA 20, n1, .inl (va_cpy (σ.2.1 i0) (σ.2.1 i1) sp.toNatClampNeg dp.toNatClampNeg n.toNatClampNeg))) = ab_ws cA ad (ab_cpI σ i0 i1 sp.toNatClampNeg dp.toNatClampNeg n.toNatClampNeg) := by
    rw [ab_ws_set (σ' := ab_cpI σ i0 i1 sp.toNatClampNeg dp.toNatClampNeg n.toNatClampNeg) hs1 rfl (fun j z9 hj => ?_)]
    · have e9 : va_cpy (σ.2.1 i0) (σ.2.1 i1) sp.toNatClampNeg dp.toNatClampNeg n.toNatClampNeg = (ab_cpI σ i0 i1 sp.toNatClampNeg dp.toNatClampNeg n.toNatClampNeg).2.1 i1 := by funext b; simp [ab_cpI]
      rw [e9]; simp [ab_e]
    · have e1 : (ab_cpI σ i0 i1 sp.toNatClampNeg dp.toNatClampNeg n.toNatClampNeg).2.1 j = σ.2.1 j := by funext b; simp [ab_cpI, hj]
      have e2 : ∀ (b : Nat) (t : FieldType), ab_fv ad (ab_cpI σ i0 i1 sp.toNatClampNeg dp.toNatClampNeg n.toNatClampNeg) j b t = ab_fv ad σ j b t := by
        intro b t; cases t <;> simp [ab_fv, ab_cpI, hj]
      unfold ab_e ab_obj
      rw [e1]
      simp only [e2]
      rfl
  rw [eq1] at hP1 hD1
  exact kk p e R s m args below meth c0 D cA A m0 ad0 mc ms hC h1 h2 h3 ad H1 locs1 cells slots ls h4 h5 ⟨hP1, hD1, hS1, hD.2.2.2.1, hD.2.2.2.2⟩
theorem V_copyL (k : Nat) {idx i0 i1 n0 n1 : Nat} {sp dp n : Int32} (hk : d.2.2.2.2.2.2[k]? = some (pc, .invokestatic idx, 3)) (hl : Cond.methodLink d.1 idx arraycopyName ∈ gw) (h6 : Cond.native arraycopyName ∈ gw) (h7 : Cond.static arraycopyName ∈ gw) (h8 : Cond.initialized "java/lang/System" ∈ gw) (hs0 : σ.1[i0]? = some (21, n0)) (hs1 : σ.1[i1]? = some (21, n1)) (hc : ab_cpy sp dp n n0 n1) (hf : 1 ≤ fr) (hlo : (st.map fun v => v.category).sum + (nativeFrameWords "java/lang/System" "arraycopy" 5 + 11) ≤ lo)
    (kk : V l d B fr lo kc ks Z (pc + 3) lv st (ab_cpL σ i0 i1 sp.toNatClampNeg dp.toNatClampNeg n.toNatClampNeg)) : V l d B fr lo kc ks Z pc lv (.int n :: .int dp :: .ref i1 :: .int sp :: .ref i0 :: st) σ := by
  intro p e R s m args below meth c0 D cA A m0 ad0 mc ms hC h1 h2 h3 ad H locs cells slots ls h4 h5 hD
  have hts := hC.2.2.1.2
  have hrf := hC.2.2.2.2.2.2.1.2.1
  have hrl := hC.2.2.2.2.2.2.1.2.2
  have hcs := ab_cats ad st
  refine va_copyl hC.1.1 hC.1.2 (hC.2.1.1.trans hD.2.2.2.2.1.symm) hC.2.2.1.1 (hts _ hl) (hts _ h6) (hts _ h7) (hts _ h8) hC.2.2.2.2.2.1.1 hD.1 hD.2.1 hD.2.2.1 i0 i1 1 1 (ty := .long) (ab_atL hs0) (ab_atL hs1) rfl rfl rfl hc.1.1 hc.1.2.1 hc.1.2.2 hc.2.1 hc.2.2 (fun _ _ => rfl) (by omega) (by omega) (hC.dec hk) (fun H1 locs1 hP1 hD1 hS1 => ?_)
  have eq1 : (ab_ws cA ad σ).set i1 (ad i1, .inl (cA 21, n1, .inr (.inl (va_cpy (σ.2.2.1 i0) (σ.2.2.1 i1) sp.toNatClampNeg dp.toNatClampNeg n.toNatClampNeg)))) = ab_ws cA ad (ab_cpL σ i0 i1 sp.toNatClampNeg dp.toNatClampNeg n.toNatClampNeg) := by
    rw [ab_ws_set (σ' := ab_cpL σ i0 i1 sp.toNatClampNeg dp.toNatClampNeg n.toNatClampNeg) hs1 rfl (fun j z9 hj => ?_)]
    · have e9 : va_cpy (σ.2.2.1 i0) (σ.2.2.1 i1) sp.toNatClampNeg dp.toNatClampNeg n.toNatClampNeg = (ab_cpL σ i0 i1 sp.toNatClampNeg dp.toNatClampNeg n.toNatClampNeg).2.2.1 i1 := by funext b; simp [ab_cpL]
      rw [e9]; simp [ab_e]
    · have e1 : (ab_cpL σ i0 i1 sp.toNatClampNeg dp.toNatClampNeg n.toNatClampNeg).2.2.1 j = σ.2.2.1 j := by funext b; simp [ab_cpL, hj]
      have e2 : ∀ (b : Nat) (t : FieldType), ab_fv ad (ab_cpL σ i0 i1 sp.toNatClampNeg dp.toNatClampNeg n.toNatClampNeg) j b t = ab_fv ad σ j b t := by
        intro b t; cases t <;> simp [ab_fv, ab_cpL, hj]
      unfold ab_e ab_obj
      rw [e1]
      simp only [e2]
      rfl
  rw [eq1] at hP1 hD1
  exact kk p e R s m args below meth c0 D cA A m0 ad0 mc ms hC h1 h2 h3 ad H1 locs1 cells slots ls h4 h5 ⟨hP1, hD1, hS1, hD.2.2.2.1, hD.2.2.2.2⟩
end COPY
