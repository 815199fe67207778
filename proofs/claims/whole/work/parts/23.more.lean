/-! ===== throws, things that are made, constructors, catches, copies, switches ===== -/
/-- the words of 'throw new X()' -/
def ab_xw (own : String) (ik ic : Nat) (X : String) (names : List String) : Prop := (Cond.classLink own ik X ∈ gw ∧ Cond.initialized X ∈ gw ∧ (∀ w ∈ vx_at0 own ic X names, w ∈ gw ∨ w ∈ ngw)) ∧ Bundle.fit X = true ∧ (∀ n ∈ names, Bundle.fit n = true) ∧ ∀ w ∈ Cond.classLink own ik X :: Cond.initialized X :: vx_at0 own ic X names, vx_ot w = true
theorem ng_on {w : Cond} (h : w ∈ ngw) : w.onTables = true := by
  have hp : ngp w = true := (List.mem_filter.mp h).2
  cases w <;> first | rfl | exact absurd hp (by simp [ngp])
section MORE
variable {l : Launch} {d : ab_M} {B fr lo kc ks : Nat} {Q : Option Value → ab_S → Prop} {E : String → ab_S → Prop} {Z : ab_Zt} {pc : Nat} {lv : List (Nat × Value)} {st : List Value} {σ : ab_S}
theorem V_throw (k : Nat) {X : String} {names : List String} {ik ic : Nat} (d0 : d.2.2.2.2.2.2[k]? = some (pc, .new ik, 3)) (d3 : d.2.2.2.2.2.2[k + 1]? = some (pc + 3, .dup, 1)) (d4 : d.2.2.2.2.2.2[k + 2]? = some (pc + 4, .invokespecial ic, 3)) (d7 : d.2.2.2.2.2.2[k + 3]? = some (pc + 7, .athrow, 1))
    (hx : ab_xw d.1 ik ic X names) (hf : names.length + 3 < fr) (hlo : (st.map fun v => v.category).sum + (13 * (names.length + 1) + 42) ≤ lo) (hkc : 1 ≤ kc) (hks : 6 ≤ ks) (htb : d.2.2.2.2.2.1 = []) (hE : E X σ) : V l d B fr lo kc ks (ab_End Q E) pc lv st σ := by
  intro p e R s m args below meth c0 D cA A n0 ad0 mc ms hC h1 h2 h3 ad H locs cells slots ls h4 h5 hD
  obtain ⟨⟨x1, x2, x3⟩, x4, x5, x6⟩ := hx
  have hts := hC.2.2.1.2
  have hrf := hC.2.2.2.2.2.2.1.2.1
  have hrl := hC.2.2.2.2.2.2.1.2.2
  have hcs := ab_cats ad st
  refine vx_throw0 hC.1.1 hC.1.2 hC.2.2.2.2.1.2 (own := d.1) (cls := X) (names := names) (ik := ik) (ic := ic) (A := A) hC.2.2.1.1 x4 x5 (hts _ x1) (hts _ x2) ?_ x6 hC.2.2.2.2.2.1.2.1 hC.2.2.2.2.2.1.2.2.1 hD.2.2.1 (hD.2.2.2.2.1.trans hC.2.1.1.symm) (hC.dec d0) (hC.dec d3) (hC.dec d4) (hC.dec d7) ?_ (by omega) (by omega) (by omega) (by omega) hC.2.2.2.1.1 ?_ hD.2.2.1.2.2 (by omega) (by omega)
  · intro w hw
    rcases x3 w hw with h | h
    · exact hts w h
    · exact va_Nw.use (ng_on h) (hC.2.2.2.2.2.1.2.2.2.1 w h)
  · intro x hx
    rw [hC.2.2.2.2.1.1, htb] at hx
    cases hx
  · intro t hvm hz hk
    refine ⟨⟨σ, ad, hE, hD.2.2.2.1, hD.1.kept (fun k q hq => hk q.1 ((hD.1 k q hq).lt)), hD.2.1, va_K.moved hvm hC.2.2.2.2.2.1.1⟩, Nat.le_trans hD.2.2.1.1 hz, fun q hq hA => ?_⟩
    rw [hk q (Nat.lt_of_lt_of_le hq hD.2.2.1.1)]
    exact hD.2.2.1.2.1 q hq hA
theorem V_obj (k : Nat) {idx i : Nat} (hk : d.2.2.2.2.2.2[k]? = some (pc, .invokespecial idx, 3)) (hl : Cond.methodLink d.1 idx Lib.objectInit ∈ gw) (h8 : Cond.instanceMethod Lib.objectInit ∈ gw) (h9 : Cond.code Lib.objectInit ⟨#[0xb1]⟩ 1 none ∈ gw) (hf : 1 ≤ fr) (hlo : (st.map fun v => v.category).sum + 12 ≤ lo)
    (kk : V l d B fr lo kc ks Z (pc + 3) lv st σ) : V l d B fr lo kc ks Z pc lv (.ref i :: st) σ := by
  intro p e R s m args below meth c0 D cA A n0 ad0 mc ms hC h1 h2 h3 ad H locs cells slots ls h4 h5 hD
  have hts := hC.2.2.1.2
  have hrf := hC.2.2.2.2.2.2.1.2.1
  have hrl := hC.2.2.2.2.2.2.1.2.2
  have hcs := ab_cats ad st
  exact W.objInit hC.1.1 hC.1.2 hC.2.2.1.1 (hts _ hl) (hts _ h8) (hts _ h9) (g := F0 m pc ls (.ref (ad i) :: st.map (ab_v ad))) rfl (hD.2.2.2.2.1.trans hC.2.1.1.symm) (rest := st.map (ab_v ad)) rfl (hC.dec hk) (by omega) (by show 2 * 0 + _ + 12 ≤ _; omega) (kk p e R s m args below meth c0 D cA A n0 ad0 mc ms hC h1 h2 h3 ad H locs cells slots ls h4 h5 hD)
/-- a heap without a name of what isn't there; what isn't there yet is blank -/
def ab_wf (σ : ab_S) : Prop := (∀ (i k r : Nat), σ.2.2.2 i k = some r → r < σ.1.length) ∧ (∀ (i k : Nat), σ.1.length ≤ i → σ.2.1 i k = 0 ∧ σ.2.2.1 i k = 0 ∧ σ.2.2.2 i k = none) ∧ σ.1.length < 1000000
def ab_new (σ : ab_S) (q : Nat × Nat) : ab_S := (σ.1 ++ [q], σ.2)
theorem ab_ws_new {cA : Nat → ClassId} {ad : Nat → Nat} {a : Nat} {q : Nat × Nat} (hw : ab_wf σ) : ab_ws cA (fun i => if i = σ.1.length then a else ad i) (ab_new σ q) = ab_ws cA ad σ ++ [(a, ab_e cA (fun i => if i = σ.1.length then a else ad i) (ab_new σ q) σ.1.length q)] := by
  have key : ∀ (i : Nat) (z : Nat × Nat), i < σ.1.length → ab_e cA (fun i => if i = σ.1.length then a else ad i) (ab_new σ q) i z = ab_e cA ad σ i z := by
    intro i z hi
    have e2 : ∀ (b : Nat) (t : FieldType), ab_fv (fun i => if i = σ.1.length then a else ad i) (ab_new σ q) i b t = ab_fv ad σ i b t := by
      have e3 : ∀ b : Nat, va_rf ((σ.2.2.2 i b).map (fun i => if i = σ.1.length then a else ad i)) = va_rf ((σ.2.2.2 i b).map ad) := by
        intro b
        cases hr : σ.2.2.2 i b with
        | none => rfl
        | some r =>
          have := hw.1 i b r hr
          simp [va_rf, Nat.ne_of_lt this]
      intro b t
      cases t <;> first | rfl | exact e3 b
    unfold ab_e ab_obj
    simp only [e2]
    rfl
  unfold ab_ws ab_new
  rw [List.mapIdx_append]
  congr 1
  · apply List.ext_getElem?
    intro i
    simp only [List.getElem?_mapIdx]
    cases hz : σ.1[i]? with
    | none => rfl
    | some z =>
      have hi : i < σ.1.length := (List.getElem?_eq_some_iff.mp hz).1
      have := key i z hi
      unfold ab_new at this
      simp [Nat.ne_of_lt hi, this]
  · simp
theorem ab_new_ag {a : Nat} {ad : Nat → Nat} (hw : ab_wf σ) : ab_ag σ.1.length (fun i => if i = σ.1.length then a else ad i) ad := by
  intro i hi
  have h9 := hw.2.2
  show (if i = σ.1.length then a else ad i) = ad i
  rw [if_neg (by omega)]
theorem ab_new_obj {ad1 ad2 : Nat → Nat} {q : Nat × Nat} {c : Nat} (hw : ab_wf σ) : ab_obj ad1 (ab_new σ q) σ.1.length c = ab_obj ad2 (ab_new σ q) σ.1.length c := by
  unfold ab_obj
  apply List.map_congr_left
  intro k _
  have h0 := (hw.2.1 σ.1.length k (Nat.le_refl _)).2.2
  cases ab_ty c k <;> simp [ab_fv, ab_new, h0]
theorem V_new (k : Nat) {idx c N : Nat} {C : String} {T : u_T} (hk : d.2.2.2.2.2.2[k]? = some (pc, .new idx, 3)) (hc : ab_cl c C T N) (hnf : ∀ j, j < N → ab_ty c j ≠ .float ∧ ab_ty c j ≠ .double) (hl : Cond.classLink d.1 idx C ∈ gw) (hi : Cond.instantiable C N ∈ gw) (hini : Cond.initialized C ∈ gw) (hw : ab_wf σ) (hB : B ≤ σ.1.length) (hlv : ab_bd (lv.map (·.2)) ≤ σ.1.length) (hst : ab_bd st ≤ σ.1.length) (hkc : 1 ≤ kc) (hks : N ≤ ks)
    (kk : V l d B fr lo (kc - 1) (ks - N) Z (pc + 3) lv (.ref σ.1.length :: st) (ab_new σ (c, 0))) : V l d B fr lo kc ks Z pc lv st σ := by
  intro p e R s m args below meth c0 D cA A n0 ad0 mc ms hC h1 h2 h3 ad H locs cells slots ls h4 h5 hD
  have hts := hC.2.2.1.2
  refine va_new (fs := ab_obj ad (ab_new σ (c, 0)) σ.1.length c) hC.1.1 hC.1.2 hts hc.2.2.2.1 (ab_ty c) hc.2.2.2.2.1 hC.2.2.1.1 (hts _ hl) (hts _ hi) (hts _ hini) hC.2.2.2.2.2.1.1 hD.1 hD.2.1 hD.2.2.1 hC.2.2.2.2.2.2.1.1 hc.1 ?_ (by omega) (by omega) (hC.dec hk) (fun q H1 hP1 hD1 hS1 => ?_)
  · intro j hj
    have hjn : j < ab_nf c := by rw [hc.2.2.1]; exact hj
    have h0 := hw.2.1 σ.1.length j (Nat.le_refl _)
    have h8 := hnf j hj
    unfold vp_V
    rw [List.getD_eq_getElem?_getD, ab_obj_get hjn]
    cases ht : ab_ty c j <;> first | exact absurd ht h8.1 | exact absurd ht h8.2 | simp [ab_fv, ab_new, h0, defaultValue, va_rf]
  · have e1 : ab_ws cA ad σ ++ [(q, .inr (c, ab_obj ad (ab_new σ (c, 0)) σ.1.length c))] = ab_ws cA (fun i => if i = σ.1.length then q else ad i) (ab_new σ (c, 0)) := by
      rw [ab_ws_new hw]
      congr 2
      simp only [ab_e, if_pos hc.2.1]
      rw [ab_new_obj (ad1 := ad) (ad2 := fun i => if i = σ.1.length then q else ad i) hw]
    rw [e1] at hP1 hD1
    have hag := ab_new_ag (a := q) (ad := ad) hw
    have hls : lv_has ls d.2.2.2.1 (ab_lv (fun i => if i = σ.1.length then q else ad i) lv) := by rw [ab_lv_eq hlv hag]; exact hD.2.2.2.2
    have h9 := kk p e R s m args below meth c0 D cA A n0 ad0 mc ms hC h1 h2 h3 (fun i => if i = σ.1.length then q else ad i) H1 locs (cells + 1) (slots + N) ls (by omega) (by omega) ⟨hP1, hD1, hS1, fun i hi => (hag i (hi.imp (fun z => by omega) id)).trans (hD.2.2.2.1 i hi), hls⟩
    have es : (Value.ref σ.1.length :: st).map (ab_v (fun i => if i = σ.1.length then q else ad i)) = .ref q :: st.map (ab_v ad) := by
      rw [List.map_cons, ab_bd_eq st σ.1.length hst hag]
      simp [ab_v]
    rw [es] at h9
    exact h9
theorem V_newa (k t0 : Nat) {at0 : ArrayType} {ty : FieldType} {c N : Nat} {x : Int32} (hk : d.2.2.2.2.2.2[k]? = some (pc, .newarray at0, 2)) (hty : newarray.typeOf at0 = ty) (hc : ¬ c < 20) (hrw : Cond.arrayClass ty ∈ gw) (htt : ∀ cA, (ab_tys cA)[t0]? = some (cA c, ty)) (hpr : ∀ (s : State) (cA : ClassId), va_RA s cA ty = (s.vm.findClass ("[" ++ ty.toString) = some cA)) (hdf : ∀ (cA : ClassId) (n : Nat), (c = 21 → vp_cell cA (n, .inr (.inl (fun _ => 0))) = arrV cA n (fun _ => defaultValue ty)) ∧ (c ≠ 21 → vp_cell cA (n, .inl (fun _ => 0)) = arrV cA n (fun _ => defaultValue ty)))
    (hx : ¬ x < 0) (hN : x.toNatClampNeg = N) (hby : N * componentBytes ty ≤ 536870912) (hw : ab_wf σ) (hB : B ≤ σ.1.length) (hlv : ab_bd (lv.map (·.2)) ≤ σ.1.length) (hst : ab_bd st ≤ σ.1.length) (hkc : 1 ≤ kc) (hks : N ≤ ks)
    (kk : V l d B fr lo (kc - 1) (ks - N) Z (pc + 2) lv (.ref σ.1.length :: st) (ab_new σ (c, N))) : V l d B fr lo kc ks Z pc lv (.int x :: st) σ := by
  intro p e R s m args below meth c0 D cA A n0 ad0 mc ms hC h1 h2 h3 ad H locs cells slots ls h4 h5 hD
  have hts := hC.2.2.1.2
  have hK := hC.2.2.2.2.2.1.1
  have hrow : (fun k => σ.2.1 σ.1.length k) = fun _ => (0 : Int32) := by funext k; exact (hw.2.1 σ.1.length k (Nat.le_refl _)).1
  have hrowL : (fun k => σ.2.2.1 σ.1.length k) = fun _ => (0 : Int64) := by funext k; exact (hw.2.1 σ.1.length k (Nat.le_refl _)).2.1
  have key : ∀ (q : Nat) (cA' : ClassId) (H1 : Heap) (ex : vp_A), ex = (if c = 21 then (N, .inr (.inl (fun _ => 0))) else (N, .inl (fun _ => 0))) → va_K D vwc (ab_tys cA ++ [(cA', ty)]) s → va_P D vwc (ab_ws cA ad σ ++ [(q, .inl (cA', ex))]) H1 → va_D A (ab_ws cA ad σ ++ [(q, .inl (cA', ex))]) → va_S A s.heap H1 locs →
      W p l e R s m args below meth c0 H1 locs (cells + 1) (slots + N) (Z.2 below args s mc ms A D cA n0 ad0) (F0 m (pc + 2) ls (.ref q :: st.map (ab_v ad))) := by
    intro q cA' H1 ex hex hK1 hP1 hD1 hS1
    have hc9 : cA' = cA c := by
      have a1 := (hK1.2 (ab_tys cA).length (cA', ty) (by simp)).2
      have a2 := (hK.2 t0 (cA c, ty) (htt cA)).2
      rw [hpr] at a1 a2
      exact Option.some.inj (a1.symm.trans a2)
    subst hc9
    have e1 : ab_ws cA ad σ ++ [(q, .inl (cA c, ex))] = ab_ws cA (fun i => if i = σ.1.length then q else ad i) (ab_new σ (c, N)) := by
      rw [ab_ws_new hw]
      congr 2
      have z1 : (ab_new σ (c, N)).2.1 σ.1.length = fun _ => (0 : Int32) := hrow
      have z2 : (ab_new σ (c, N)).2.2.1 σ.1.length = fun _ => (0 : Int64) := hrowL
      unfold ab_e
      simp only [if_neg hc, z1, z2]
      subst hex
      by_cases h21 : c = 21
      · subst h21; rfl
      · rw [if_neg h21, if_neg h21]
    rw [e1] at hP1 hD1
    have hag := ab_new_ag (a := q) (ad := ad) hw
    have hls : lv_has ls d.2.2.2.1 (ab_lv (fun i => if i = σ.1.length then q else ad i) lv) := by rw [ab_lv_eq hlv hag]; exact hD.2.2.2.2
    have h9 := kk p e R s m args below meth c0 D cA A n0 ad0 mc ms hC h1 h2 h3 (fun i => if i = σ.1.length then q else ad i) H1 locs (cells + 1) (slots + N) ls (by omega) (by omega) ⟨hP1, hD1, hS1, fun i hi => (hag i (hi.imp (fun z => by omega) id)).trans (hD.2.2.2.1 i hi), hls⟩
    have es : (Value.ref σ.1.length :: st).map (ab_v (fun i => if i = σ.1.length then q else ad i)) = .ref q :: st.map (ab_v ad) := by
      rw [List.map_cons, ab_bd_eq st σ.1.length hst hag]
      simp [ab_v]
    rw [es] at h9
    exact h9
  by_cases h21 : c = 21
  · exact va_newa hC.1.1 hC.1.2 (by rw [hty]; exact hts _ hrw) hty hK hD.1 hD.2.1 hD.2.2.1 hC.2.2.2.2.2.2.1.1 (a0 := (N, .inr (.inl (fun _ => 0)))) (fun cA9 => (hdf cA9 N).1 h21) hx hN hby (by omega) (by omega) (hC.dec hk) (fun q cA' H1 a1 a2 a3 a4 => key q cA' H1 _ (by rw [if_pos h21]) a1 a2 a3 a4)
  · exact va_newa hC.1.1 hC.1.2 (by rw [hty]; exact hts _ hrw) hty hK hD.1 hD.2.1 hD.2.2.1 hC.2.2.2.2.2.2.1.1 (a0 := (N, .inl (fun _ => 0))) (fun cA9 => (hdf cA9 N).2 h21) hx hN hby (by omega) (by omega) (hC.dec hk) (fun q cA' H1 a1 a2 a3 a4 => key q cA' H1 _ (by rw [if_neg h21]) a1 a2 a3 a4)
theorem ab_noX {y : MethodName} {ws : List Cond} {rm : Room} {Pc : Array Value → State → Prop} {Qc : Array Value → State → Outcome → State → Prop} {XC : String → State → State → Prop} {mc ms : Nat} {free : Addr → Prop} (h : vx_Met l y ws rm Pc Qc XC mc ms free) (hx : ∀ X st t, ¬ XC X st t) : Met l y ws rm Pc Qc mc ms free := by
  refine MetFree.mono h (fun _ _ h => h) (fun _ _ _ _ _ h => h) (fun a st o t _ hq => ?_)
  rcases hq with hq | ⟨q, -, X, ce, L, h9, -⟩
  · exact hq
  · exact absurd h9 (hx X st t)
/-- a constructor: it may make things -/
theorem V_callI (k n n1 : Nat) {y : MethodName} {dy : ab_M} {fr' lo' mc' ms' idx b : Nat} {as rest st0 : List Value} {Q' : Option Value → ab_S → Prop}
    (hk : d.2.2.2.2.2.2[k]? = some (pc, .invokespecial idx, 3)) (hl : Cond.methodLink d.1 idx y ∈ gw) (hy1 : y.name = "<init>") (hret : dy.2.2.2.2.1 = none) (hyi : Cond.instanceMethod y ∈ gw) (hini : Cond.initialized y.cls ∈ gw) (hco : Cond.code y dy.2.2.1 dy.2.2.2.1 dy.2.2.2.2.1 ∈ gw) (hyc : y.cls ≠ "java/lang/invoke/MethodHandle" ∧ y.cls ≠ "java/lang/invoke/VarHandle") (hpn : (parseMethodDescriptor y.desc).map (fun d => d.parameters.length) = some n)
    (hst : st0 = as.reverse ++ .ref b :: rest) (hn : as.length = n) (hf : fr' + 1 ≤ fr) (hlo : 8 + (dy.2.2.2.1 + 11) + lo' ≤ lo) (hW : (rest.map fun v => v.category).sum ≤ 8) (hmc : mc' ≤ kc) (hms : ms' ≤ ks) (hB : B ≤ n1) (hlv : ab_bd (lv.map (·.2)) ≤ n1) (hre : ab_bd rest ≤ n1)
    (hM : ab_Mt l y dy n1 fr' lo' mc' ms' (.ref b :: as) σ Q' (fun _ _ => False))
    (kk : ∀ (v : Option Value) (σ' : ab_S), Q' v σ' → V l d B fr lo (kc - mc') (ks - ms') Z (pc + 3) lv (v.toList ++ rest) σ') : V l d B fr lo kc ks Z pc lv st0 σ := by
  subst hst
  intro p e R s m args below meth c0 D cA A n0 ad0 mc ms hC h1 h2 h3 ad H locs cells slots ls h4 h5 hD
  have hA := hC.2.2.2.2.2.2.1.1
  have hF := ab_Fc hD.2.1 hD.2.2.1 hA
  have hts := hC.2.2.1.2
  have hMM := ab_noX (hM D cA ad H.size n1 (Nat.le_refl _)) (fun X st t h => by obtain ⟨⟨_, _, h, _⟩, _⟩ := h; exact h)
  refine ab_after (E' := fun _ _ => False) (av := (Value.ref (ad b) :: as.map (ab_v ad)).toArray) (n1 := n1) hC h1 h2 h3 h4 h5 hD (Nat.le_trans h1.2 hB) hlv hre hmc hms (fun T hT X => Or.inl ?_) (fun _ _ h => absurd h id) kk
  have hcb := ab_callB (mc' := mc') (ms' := ms') hC hl hini hco hyc hpn hf hlo
  rw [hret] at hcb hMM
  exact va_runI (nL := d.2.2.2.1) (n := n) (Ts := gw) (g := F0 m pc ls ((as.reverse ++ .ref b :: rest).map (ab_v ad))) ⟨hC.1.1, hC.1.2, hC.2.1.1, hC.2.2.1.1, hts⟩ hMM ⟨hcb, hy1, hts _ hyi⟩ ⟨ab_blind D cA ad H.size _ σ, fun U hU hW9 => ⟨rfl, by rw [hU], by rw [hU]; exact hD.1, va_K.moved hW9.alike hC.2.2.2.2.2.1.1, hD.2.1.weaken (fun _ _ _ _ => trivial), ab_St_at hC.2.2.2.2.2.1.2 hD.2.2.1 hU hW9 hF hD.2.2.2.1⟩⟩ rfl (by simpa using hn) hD.2.2.2.2.1 (by simp [ab_v]) (lv_room (by rw [ab_cats]; exact hW)) (hC.dec hk) ⟨by omega, by omega⟩ T hT X
theorem V_callIN (k n n1 : Nat) {y : MethodName} {dy : ab_M} {host : String} {fr' lo' mc' ms' idx b : Nat} {as rest st0 : List Value} {Q' : Option Value → ab_S → Prop}
    (hk : d.2.2.2.2.2.2[k]? = some (pc, .invokespecial idx, 3)) (hl : Cond.methodLinkNest d.1 idx y host ∈ ngw) (hy1 : y.name = "<init>") (hret : dy.2.2.2.2.1 = none) (hyi : Cond.instanceMethod y ∈ gw) (hini : Cond.initialized y.cls ∈ gw) (hco : Cond.code y dy.2.2.1 dy.2.2.2.1 dy.2.2.2.2.1 ∈ gw) (hyc : y.cls ≠ "java/lang/invoke/MethodHandle" ∧ y.cls ≠ "java/lang/invoke/VarHandle") (hpn : (parseMethodDescriptor y.desc).map (fun d => d.parameters.length) = some n)
    (hst : st0 = as.reverse ++ .ref b :: rest) (hn : as.length = n) (hf : fr' + 1 ≤ fr) (hlo : 8 + (dy.2.2.2.1 + 11) + lo' ≤ lo) (hW : (rest.map fun v => v.category).sum ≤ 8) (hmc : mc' ≤ kc) (hms : ms' ≤ ks) (hB : B ≤ n1) (hlv : ab_bd (lv.map (·.2)) ≤ n1) (hre : ab_bd rest ≤ n1)
    (hM : ab_Mt l y dy n1 fr' lo' mc' ms' (.ref b :: as) σ Q' (fun _ _ => False))
    (kk : ∀ (v : Option Value) (σ' : ab_S), Q' v σ' → V l d B fr lo (kc - mc') (ks - ms') Z (pc + 3) lv (v.toList ++ rest) σ') : V l d B fr lo kc ks Z pc lv st0 σ := by
  subst hst
  intro p e R s m args below meth c0 D cA A n0 ad0 mc ms hC h1 h2 h3 ad H locs cells slots ls h4 h5 hD
  have hA := hC.2.2.2.2.2.2.1.1
  have hF := ab_Fc hD.2.1 hD.2.2.1 hA
  have hts := hC.2.2.1.2
  have hrf := hC.2.2.2.2.2.2.1.2.1
  have hrl := hC.2.2.2.2.2.2.1.2.2
  have hMM := ab_noX (hM D cA ad H.size n1 (Nat.le_refl _)) (fun X st t h => by obtain ⟨⟨_, _, h, _⟩, _⟩ := h; exact h)
  refine ab_after (E' := fun _ _ => False) (av := (Value.ref (ad b) :: as.map (ab_v ad)).toArray) (n1 := n1) hC h1 h2 h3 h4 h5 hD (Nat.le_trans h1.2 hB) hlv hre hmc hms (fun T hT X => Or.inl ?_) (fun _ _ h => absurd h id) kk
  have hG : GoodIn gw (Cond.code y dy.2.2.1 dy.2.2.2.1 dy.2.2.2.2.1 :: gw) := fun w hw => by
    rcases List.mem_cons.mp hw with rfl | hw
    · exact ⟨hco, good_of_word (gw_good hco)⟩
    · exact ⟨hw, good_of_word (gw_good hw)⟩
  have hcb := va_cnB (R := R) (mc := mc') (ms := ms') (rm := { frames := fr', cells := mc', slots := ms', locals := lo' }) n hts hG rfl rfl rfl (hC.2.2.2.2.2.1.2.2.2.1 _ hl) (hts _ hini) ⟨hyc.1, hyc.2, hpn⟩ ⟨by show fr' + 1 ≤ _; omega, by show _ + _ + lo' ≤ _; omega⟩
  rw [hret] at hcb hMM
  exact va_runIN (nL := d.2.2.2.1) (n := n) (Ts := gw) (g := F0 m pc ls ((as.reverse ++ .ref b :: rest).map (ab_v ad))) ⟨hC.1.1, hC.1.2, hC.2.1.1, hC.2.2.1.1, hts⟩ hMM ⟨hcb, hy1, hts _ hyi⟩ ⟨ab_blind D cA ad H.size _ σ, fun U hU hW9 => ⟨rfl, by rw [hU], by rw [hU]; exact hD.1, va_K.moved hW9.alike hC.2.2.2.2.2.1.1, hD.2.1.weaken (fun _ _ _ _ => trivial), ab_St_at hC.2.2.2.2.2.1.2 hD.2.2.1 hU hW9 hF hD.2.2.2.1⟩⟩ rfl (by simpa using hn) hD.2.2.2.2.1 (by simp [ab_v]) (lv_room (by rw [ab_cats]; exact hW)) (hC.dec hk) ⟨by omega, by omega⟩ T hT X
end MORE
