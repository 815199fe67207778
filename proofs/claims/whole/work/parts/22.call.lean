/-! ===== methods by contract over abstract heaps: bodies, calls ===== -/
def ab_Pc (D : va_G) (cA : Nat → ClassId) (ad : Nat → Nat) (sz : Nat) (as : List Value) (σ : ab_S) : Array Value → State → Prop :=
  va_Pc (as.map (ab_v ad)) (fun U => U.heap.size = sz ∧ va_P D vwc (ab_ws cA ad σ) U.heap ∧ va_K D vwc (ab_tys cA) U ∧ va_D (fun _ => True) (ab_ws cA ad σ) ∧ ab_St ad (va_A (ab_ws cA ad σ) sz) U U.heap)
def ab_Mt (l : Launch) (y : MethodName) (d : ab_M) (B fr lo mc ms : Nat) (as : List Value) (σ : ab_S) (Q : Option Value → ab_S → Prop) (E : String → ab_S → Prop) : Prop :=
  ∀ (D : va_G) (cA : Nat → ClassId) (ad : Nat → Nat) (sz n0 : Nat), n0 ≤ B → vx_Met l y (Cond.code y d.2.2.1 d.2.2.2.1 d.2.2.2.2.1 :: gw) { frames := fr, cells := mc, slots := ms, locals := lo } (ab_Pc D cA ad sz as σ) (ab_Qc D cA (va_A (ab_ws cA ad σ) sz) n0 ad Q) (ab_XC D cA (va_A (ab_ws cA ad σ) sz) n0 ad E) mc ms (va_A (ab_ws cA ad σ) sz)
theorem ab_args (ad : Nat → Nat) : ∀ (as : List Value) (i : Nat), lv_args i (as.map (ab_v ad)) = ab_lv ad (lv_args i as)
  | [], _ => rfl
  | v :: vs, i => by
    simp only [List.map_cons, lv_args, ab_lv, ab_cat]
    rw [ab_args ad vs]
    rfl
theorem ab_sl (ad : Nat → Nat) : ∀ as : List Value, (lg_sl (as.map (ab_v ad))).length = (lg_sl as).length
  | [] => rfl
  | v :: vs => by
    have h := ab_sl ad vs
    cases v <;> simp_all [lg_sl, ab_v, Value.category]
theorem ng_warm {w : Cond} {s U : State} (h : w ∈ ngw) (hW : s.WarmedH U.vm) (hw : va_Nw w s) : va_Nw w U := by
  have hp : ngp w = true := (List.mem_filter.mp h).2
  cases w <;> first | exact va_Nw.warmD hW hw | exact va_Nw.warmC hW hw | exact va_Nw.warmM hW hw | exact absurd hp (by simp [ngp])
theorem ab_Sk_at {ad ad0 : Nat → Nat} {n0 : Nat} {A A' : Nat → Prop} {s U : State} {H : Heap} {locs : List Loc} (h : ab_Sk ad0 A s s.heap) (hS : va_S A s.heap H locs) (hW : s.WarmedH U.vm) (hA : ∀ q, A' q → A q) (hg : ab_ag n0 ad ad0) : ab_Sk ad A' U H := by
  have e1 : (fun i => ad (1000001 + i)) = (fun i => ad0 (1000001 + i)) := by funext i; exact hg _ (Or.inr (by omega))
  have e2 : (fun i => ad (1000101 + i)) = (fun i => ad0 (1000101 + i)) := by funext i; exact hg _ (Or.inr (by omega))
  obtain ⟨h1, h2, h3, v, h4, h5⟩ := h
  refine ⟨?_, ?_, ((h3.kept hS.2.1).moved hW.alike).narrow hA, v, ?_, ((h5.kept hS.2.1).moved hW.alike).narrow hA⟩
  · rw [e1, e2]; exact ((h1.kept hS.2.1).moved hW.alike).narrow hA
  · intro i hi; rw [hg _ (Or.inr (by omega))]; exact vk_R.warm hW (h2 i hi)
  · rw [hg _ (Or.inr (by omega))]; exact h4
theorem ab_Sk_call {ad : Nat → Nat} {A : Nat → Prop} {U : State} {H : Heap} (g : JFrame) (mk : MethodId) (a : Array Value) (h : ab_Sk ad A U H) : ab_Sk ad A (U.calling g mk a) H := by
  obtain ⟨h1, h2, h3, v, h4, h5⟩ := h
  exact ⟨h1.moved (u := U) (U := U.calling g mk a) (Vm.Alike.refl U.vm), fun i hi => vk_R.same (u := U) rfl (h2 i hi), h3.moved (u := U) (U := U.calling g mk a) (Vm.Alike.refl U.vm), v, h4, h5.moved (u := U) (U := U.calling g mk a) (Vm.Alike.refl U.vm)⟩
theorem ab_St_at {ad ad0 : Nat → Nat} {n0 : Nat} {A A' : Nat → Prop} {s U : State} {H : Heap} {locs : List Loc} (h : ab_St ad0 A s s.heap) (hS : va_S A s.heap H locs) (hU : U.heap = H) (hW : s.WarmedH U.vm) (hA : ∀ q, A' q → A q) (hg : ab_ag n0 ad ad0) : ab_St ad A' U U.heap := by
  rw [hU]
  exact ⟨((h.1.kept hS.2.1).moved hW.alike).narrow hA, ((h.2.1.kept hS.2.1).moved hW.alike).narrow hA, fun w hw => ng_warm hw hW (h.2.2.1 w hw), fun q hq => (h.2.2.2.1 q hq).moved hW.alike, ab_Sk_at h.2.2.2.2 hS hW hA hg⟩
theorem ab_St_call {ad : Nat → Nat} {A : Nat → Prop} {U : State} {H : Heap} (g : JFrame) (mk : MethodId) (a : Array Value) (h : ab_St ad A U H) : ab_St ad A (U.calling g mk a) H :=
  ⟨h.1.moved (u := U) (U := U.calling g mk a) (Vm.Alike.refl U.vm), h.2.1.moved (u := U) (U := U.calling g mk a) (Vm.Alike.refl U.vm), fun w hw => va_Nw.same (by
    have hp : ngp w = true := (List.mem_filter.mp hw).2
    cases w <;> first | rfl | exact absurd hp (by simp [ngp])) (u := U) (U := U.calling g mk a) rfl (h.2.2.1 w hw), fun q hq => (h.2.2.2.1 q hq).moved (u := U) (U := U.calling g mk a) (Vm.Alike.refl U.vm), ab_Sk_call g mk a h.2.2.2.2⟩
theorem ab_blind (D : va_G) (cA : Nat → ClassId) (ad : Nat → Nat) (sz : Nat) (as : List Value) (σ : ab_S) : FrameBlind (ab_Pc D cA ad sz as σ) := by
  intro a U g mk q
  obtain ⟨q0, q1, qP, qK, qD, qS⟩ := q
  exact ⟨q0, q1, qP, va_K.moved (u := U) (U := U.calling g mk a) (Vm.Alike.refl U.vm) qK, qD, ab_St_call g mk a qS⟩
theorem V_met {l : Launch} {y : MethodName} {d : ab_M} {B fr lo mc ms : Nat} {as : List Value} {σ : ab_S} {Q : Option Value → ab_S → Prop} {E : String → ab_S → Prop}
    (hl : l.stackTraces = false) (hy : y.cls = d.1 ∧ y.name = d.2.1 ∧ plainName y.cls = true) (htb : d.2.2.2.2.2.1 = []) (hd : ∀ q ∈ d.2.2.2.2.2.2, decode d.2.2.1 q.1 = .ok q.2) (hn : (lg_sl as).length ≤ d.2.2.2.1)
    (hV : V l d B fr lo mc ms (ab_End Q E) 0 (lv_args 0 as) [] σ) : ab_Mt l y d B fr lo mc ms as σ Q E := by
  intro D cA ad sz n0 hn0
  refine vx_ofW (cc := d.2.2.1) (maxL := d.2.2.2.1) (ret := d.2.2.2.2.1) hy.2.2 rfl ?_
  intro p e s m args below meth c s₁ Bd hml htab hv
  obtain ⟨rfl, hsz, hP, hK, hD0, hSt⟩ := hv
  have hts := atoms_spec (ws := Cond.code y d.2.2.1 d.2.2.2.1 d.2.2.2.2.1 :: gw) Bd.pre
  have hown : s.vm.findClass y.cls = some m.cls := findClass_of_methodNamed Bd.named
  have hnm : meth.name = y.name := (name_of_methodNamed Bd.named Bd.method).1
  subst hsz
  have hl0 := lv_entry (as.map (ab_v ad)) (n := d.2.2.2.1) (by rw [ab_sl]; exact hn)
  rw [lg_entry_eq]
  rw [ab_args] at hl0
  generalize (lg_sl (as.map (ab_v ad)) ++ List.replicate (d.2.2.2.1 - (lg_sl (as.map (ab_v ad))).length) Slot.unset).toArray = ls at hl0 ⊢
  have htb9 : c.exceptionTable.toList = tableOf d.2.2.2.2.2.1 := by
    rw [htb]
    cases hx : c.exceptionTable.toList with
    | nil => rfl
    | cons x r => exact absurd (htab x (by rw [hx]; exact List.mem_cons_self)) id
  exact hV p e _ s m _ below meth c D cA (va_A (ab_ws cA ad σ) s.heap.size) n0 ad mc ms
    ⟨⟨Bd.exec, Bd.bytes⟩, ⟨hml, Bd.returns⟩, ⟨by rw [← hy.1]; exact hown, fun w hw => hts w (List.mem_cons_of_mem _ hw)⟩, ⟨Bd.notSynchronized, hnm.trans hy.2.1⟩, ⟨htb9, hl⟩, ⟨hK, hSt⟩, ⟨fun q h => Or.inr h, Nat.le_refl _, Nat.le_refl _⟩, hd⟩
    ⟨trivial, hn0⟩ (Nat.le_refl _) (Nat.le_refl _) ad s.heap [] 0 0 ls (by omega) (by omega) ⟨hP, hD0.self, va_S.rf, fun _ _ => rfl, hl0⟩
/-- the largest number of a thing that some values name, and one -/
def ab_bd : List Value → Nat
  | [] => 0
  | .ref i :: r => if 1000000 ≤ i then ab_bd r else max (i + 1) (ab_bd r)
  | _ :: r => ab_bd r
theorem ab_bd_tl {v : Value} {r : List Value} {n : Nat} (h : ab_bd (v :: r) ≤ n) : ab_bd r ≤ n := by
  cases v with
  | ref i =>
    simp only [ab_bd] at h
    split at h <;> omega
  | _ => exact h
theorem ab_bd_eq {ad ad' : Nat → Nat} : ∀ (vs : List Value) (n : Nat), ab_bd vs ≤ n → ab_ag n ad' ad → vs.map (ab_v ad') = vs.map (ab_v ad)
  | [], _, _, _ => rfl
  | v :: r, n, hn, h => by
    rw [List.map_cons, List.map_cons, ab_bd_eq r n (ab_bd_tl hn) h]
    congr 1
    cases v with
    | ref i =>
      simp only [ab_v]
      by_cases hi : 1000000 ≤ i
      · rw [h i (Or.inr hi)]
      · simp only [ab_bd, if_neg hi] at hn
        rw [h i (Or.inl (by omega))]
    | _ => rfl
theorem ab_lv_eq {ad ad' : Nat → Nat} {lv : List (Nat × Value)} {n : Nat} (hn : ab_bd (lv.map (·.2)) ≤ n) (h : ab_ag n ad' ad) : ab_lv ad' lv = ab_lv ad lv := by
  have h1 := ab_bd_eq (lv.map (·.2)) n hn h
  induction lv with
  | nil => rfl
  | cons q r ih =>
    simp only [List.map_cons, List.cons.injEq] at h1
    have hr : ab_bd (r.map (·.2)) ≤ n := ab_bd_tl (v := q.2) hn
    simp only [ab_lv, List.map_cons, List.cons.injEq]
    exact ⟨by rw [h1.1], ih hr h1.2⟩
/-- a method as a callee: its words -/
def ab_yV (C : String) (y : MethodName) (dy : ab_M) (n : Nat) : Prop := Cond.instanceMethod y ∈ gw ∧ Cond.selects C y y ∈ gw ∧ Cond.initialized y.cls ∈ gw ∧ Cond.code y dy.2.2.1 dy.2.2.2.1 dy.2.2.2.2.1 ∈ gw ∧ (y.cls ≠ "java/lang/invoke/MethodHandle" ∧ y.cls ≠ "java/lang/invoke/VarHandle") ∧ (parseMethodDescriptor y.desc).map (fun d => d.parameters.length) = some n
def ab_yS (y : MethodName) (dy : ab_M) (n : Nat) : Prop := Cond.static y ∈ gw ∧ Cond.initialized y.cls ∈ gw ∧ Cond.code y dy.2.2.1 dy.2.2.2.1 dy.2.2.2.2.1 ∈ gw ∧ (y.cls ≠ "java/lang/invoke/MethodHandle" ∧ y.cls ≠ "java/lang/invoke/VarHandle") ∧ (parseMethodDescriptor y.desc).map (fun d => d.parameters.length) = some n
section CALL
variable {l : Launch} {d : ab_M} {B fr lo kc ks : Nat} {Q : Option Value → ab_S → Prop} {E : String → ab_S → Prop} {Z : ab_Zt} {pc : Nat} {lv : List (Nat × Value)} {st : List Value} {σ : ab_S}
theorem ab_callB {p : Program} {R : Room} {s : State} {m : MethodId} {args : Array Value} {meth : Method} {c : Code} {D : va_G} {cA : Nat → ClassId} {A : Nat → Prop} {ad0 : Nat → Nat} {y : MethodName} {dy : ab_M} {fr' lo' mc' ms' idx n : Nat}
    (hC : ab_Cx l d fr lo p R s m args meth c D cA A ad0) (hl : Cond.methodLink d.1 idx y ∈ gw) (hini : Cond.initialized y.cls ∈ gw) (hco : Cond.code y dy.2.2.1 dy.2.2.2.1 dy.2.2.2.2.1 ∈ gw) (hy : y.cls ≠ "java/lang/invoke/MethodHandle" ∧ y.cls ≠ "java/lang/invoke/VarHandle") (hpn : (parseMethodDescriptor y.desc).map (fun d => d.parameters.length) = some n)
    (hf : fr' + 1 ≤ fr) (hlo : 8 + (dy.2.2.2.1 + 11) + lo' ≤ lo) :
    CallB R s args d.1 idx y dy.2.2.1 dy.2.2.2.1 dy.2.2.2.2.1 (Cond.code y dy.2.2.1 dy.2.2.2.1 dy.2.2.2.2.1 :: gw) { frames := fr', cells := mc', slots := ms', locals := lo' } mc' ms' n := by
  have hts := hC.2.2.1.2
  have h1 := hC.2.2.2.2.2.2.1.2.1
  have h2 := hC.2.2.2.2.2.2.1.2.2
  refine ⟨rfl, rfl, Nat.le_trans hf h1, Nat.le_trans hlo h2, fun w hw a' U hW => ?_, List.mem_cons_self, hts _ hco, hts _ hini, hy, fun sig h => ?_, hts _ hl⟩
  · rcases List.mem_cons.mp hw with rfl | hw
    · exact word_at hW (good_of_word (gw_good hco)) (hts _ hco)
    · exact word_at hW (good_of_word (gw_good hw)) (hts _ hw)
  · rw [h] at hpn
    exact (Option.some.inj hpn).symm
theorem ab_Fc {cA : Nat → ClassId} {ad : Nat → Nat} {A : Nat → Prop} {s : State} {H : Heap} {locs : List Loc} (hD : va_D A (ab_ws cA ad σ)) (hS : va_S A s.heap H locs) (hA : ∀ q, s.heap.size ≤ q → A q) : ∀ q, va_A (ab_ws cA ad σ) H.size q → A q := by
  intro q h
  rcases h with ⟨k9, e9, h9⟩ | h9
  · exact hD.2 k9 _ h9
  · exact hA q (Nat.le_trans hS.1 h9)
/-- what is thrown over this place by a call, the frame with the call's values taken off, the thing thrown of class X -/
def VX (l : Launch) (d : ab_M) (B fr lo kc ks : Nat) (Z : ab_Zt) (X : String) (pc : Nat) (lv : List (Nat × Value)) (st : List Value) (σ : ab_S) : Prop :=
  ∀ (p : Program) (e : Env) (R : Room) (s : State) (m : MethodId) (args : Array Value) (below : List Frame) (meth : Method) (c : Code) (D : va_G) (cA : Nat → ClassId) (A : Nat → Prop) (n0 : Nat) (ad0 : Nat → Nat) (mc ms : Nat),
    ab_Cx l d fr lo p R s m args meth c D cA A ad0 → Z.1 s A ad0 ∧ n0 ≤ B → mc ≤ R.cells → ms ≤ R.slots → ∀ (ad : Nat → Nat) (H : Heap) (locs : List Loc) (cells slots : Nat) (ls : Array Slot), cells + kc ≤ mc → slots + ks ≤ ms →
    ab_Dx D cA A n0 ad0 s d.2.2.2.1 lv σ ad H locs ls → ∀ (q : Addr) (ce : Cell), H[q]? = some ce → ce.vm = .none → s.vm.findClass X = some ce.cls → vx_W p l e R s m args below meth c H locs cells slots (Z.2 below args s mc ms A D cA n0 ad0) (F0 m pc ls (st.map (ab_v ad))) q
theorem VX_out {X : String} (htb : d.2.2.2.2.2.1 = []) (hE : E X σ) : VX l d B fr lo kc ks (ab_End Q E) X pc lv st σ := by
  intro p e R s m args below meth c0 D cA A n0 ad0 mc ms hC h1 h2 h3 ad H locs cells slots ls h4 h5 hD q ce hce hcv hcl
  refine vx_out (E := X) (ce := ce) ?_ hC.2.2.2.1.1 hce hcv hcl ?_ hD.2.2.1.2.2 (by omega) (by omega)
  · intro x hx
    rw [hC.2.2.2.2.1.1, htb] at hx
    cases hx
  · intro t9 ht9 hvm9
    exact ⟨⟨σ, ad, hE, hD.2.2.2.1, by rw [ht9]; exact hD.1, hD.2.1, va_K.moved hvm9 hC.2.2.2.2.2.1.1⟩, hD.2.2.1.F ht9⟩
/-- behind a call that has been run: its answer, or what it throws, in the caller's words -/
theorem ab_after {mc' ms' : Nat} {Q' : Option Value → ab_S → Prop} {E' : String → ab_S → Prop} {rest st0 : List Value} {av : Array Value}
    {p : Program} {e : Env} {R : Room} {s : State} {m : MethodId} {args : Array Value} {below : List Frame} {meth : Method} {c : Code} {D : va_G} {cA : Nat → ClassId} {A : Nat → Prop} {n0 n1 : Nat} {ad0 : Nat → Nat} {mc ms : Nat}
    (hC : ab_Cx l d fr lo p R s m args meth c D cA A ad0) (h1 : Z.1 s A ad0 ∧ n0 ≤ B) (h2 : mc ≤ R.cells) (h3 : ms ≤ R.slots) {ad : Nat → Nat} {H : Heap} {locs : List Loc} {cells slots : Nat} {ls : Array Slot} (h4 : cells + kc ≤ mc) (h5 : slots + ks ≤ ms)
    (hD : ab_Dx D cA A n0 ad0 s d.2.2.2.1 lv σ ad H locs ls) (hn1 : n0 ≤ n1) (hlv : ab_bd (lv.map (·.2)) ≤ n1) (hre : ab_bd rest ≤ n1) (hmc : mc' ≤ kc) (hms : ms' ≤ ks)
    (hr : vx_Run p l e R s m args below meth c H locs cells slots mc' ms' (F0 m pc ls st0) (rest.map (ab_v ad)) (ab_Qc D cA (va_A (ab_ws cA ad σ) H.size) n1 ad Q' av) (ab_XC D cA (va_A (ab_ws cA ad σ) H.size) n1 ad E') (va_A (ab_ws cA ad σ) H.size))
    (kx : ∀ (X : String) (σ' : ab_S), E' X σ' → VX l d B fr lo (kc - mc') (ks - ms') Z X pc lv rest σ')
    (kk : ∀ (v : Option Value) (σ' : ab_S), Q' v σ' → V l d B fr lo (kc - mc') (ks - ms') Z (pc + 3) lv (v.toList ++ rest) σ') :
    W p l e R s m args below meth c H locs cells slots (Z.2 below args s mc ms A D cA n0 ad0) (F0 m pc ls st0) := by
  have hA := hC.2.2.2.2.2.2.1.1
  have hF := ab_Fc hD.2.1 hD.2.2.1 hA
  intro T hT X
  rcases hr T hT X with ⟨v, st₀, t, T', L, h0, X', hL, e1, e2, ⟨⟨v', σ', ad', hv, hq, hag, hP', hD', hK'⟩, hFr⟩, st9⟩ | ⟨q, st₀, t, T', L, X9, ce, h0, X', hL, e1, e2, ⟨⟨σ', ad', hE, hag, hP', hD', hK'⟩, hFr⟩, hce, hcv, hcl, st9⟩
  · obtain ⟨k1, k2, k3⟩ := vx_keep h0 e1 hD.2.2.1 (fun q _ h => hF q h) hF hL hFr
    cases hv
    have hls : lv_has ls d.2.2.2.1 (ab_lv ad' lv) := by rw [ab_lv_eq hlv hag]; exact hD.2.2.2.2
    have hst : (v'.toList ++ rest).map (ab_v ad') = (v'.map (ab_v ad')).toList ++ rest.map (ab_v ad) := by
      rw [List.map_append, ab_bd_eq rest n1 hre hag]
      cases v' <;> rfl
    obtain ⟨t2, a1, b1⟩ := kk v' σ' hq p e R s m args below meth c D cA A n0 ad0 mc ms hC h1 h2 h3 ad' T'.heap (locs ++ L) (cells + mc') (slots + ms') ls (by omega) (by omega)
      ⟨by rw [e1]; exact hP', hD'.weaken (fun _ _ _ h => hF _ h), k3, fun i hi => (hag i (hi.imp (fun z => Nat.lt_of_lt_of_le z hn1) id)).trans (hD.2.2.2.1 i hi), hls⟩ T' rfl X'
    rw [hst] at a1
    exact ⟨t2, st9 t2 a1, b1⟩
  · obtain ⟨k1, k2, k3⟩ := vx_keep h0 e1 hD.2.2.1 (fun q _ h => hF q h) hF hL hFr
    have hls : lv_has ls d.2.2.2.1 (ab_lv ad' lv) := by rw [ab_lv_eq hlv hag]; exact hD.2.2.2.2
    obtain ⟨t2, a1, b1⟩ := kx X9 σ' hE p e R s m args below meth c D cA A n0 ad0 mc ms hC h1 h2 h3 ad' T'.heap (locs ++ L) (cells + mc') (slots + ms') ls (by omega) (by omega)
      ⟨by rw [e1]; exact hP', hD'.weaken (fun _ _ _ h => hF _ h), k3, fun i hi => (hag i (hi.imp (fun z => Nat.lt_of_lt_of_le z hn1) id)).trans (hD.2.2.2.1 i hi), hls⟩ q ce (by rw [e1]; exact hce) hcv hcl T' rfl X'
    rw [ab_bd_eq rest n1 hre hag] at a1
    exact ⟨t2, st9.trans a1, b1⟩
theorem V_callV (k n : Nat) {y : MethodName} {dy : ab_M} {fr' lo' mc' ms' idx b c z N : Nat} {C : String} {T : u_T} {as rest st0 : List Value} {Q' : Option Value → ab_S → Prop} {E' : String → ab_S → Prop}
    (hk : d.2.2.2.2.2.2[k]? = some (pc, .invokevirtual idx, 3)) (hl : Cond.methodLink d.1 idx y ∈ gw) (hy : ab_yV C y dy n) (hst : st0 = as.reverse ++ .ref b :: rest) (hn : as.length = n) (hcl : ab_cl c C T N) (hs : σ.1[b]? = some (c, z))
    (hf : fr' + 1 ≤ fr) (hlo : 8 + (dy.2.2.2.1 + 11) + lo' ≤ lo) (hW : (rest.map fun v => v.category).sum ≤ 8) (hmc : mc' ≤ kc) (hms : ms' ≤ ks)
    (hM : ∀ B', ab_Mt l y dy B' fr' lo' mc' ms' (.ref b :: as) σ Q' E') (kx : ∀ (X : String) (σ' : ab_S), E' X σ' → VX l d B fr lo (kc - mc') (ks - ms') Z X pc lv rest σ')
    (kk : ∀ (v : Option Value) (σ' : ab_S), Q' v σ' → V l d B fr lo (kc - mc') (ks - ms') Z (pc + 3) lv (v.toList ++ rest) σ') : V l d B fr lo kc ks Z pc lv st0 σ := by
  subst hst
  intro p e R s m args below meth c0 D cA A n0 ad0 mc ms hC h1 h2 h3 ad H locs cells slots ls h4 h5 hD
  obtain ⟨y1, y2, y3, y4, y5, y6⟩ := hy
  have hA := hC.2.2.2.2.2.2.1.1
  have hF := ab_Fc hD.2.1 hD.2.2.1 hA
  have hts := hC.2.2.1.2
  have hMM := hM (max n0 (max (ab_bd (lv.map (·.2))) (ab_bd rest))) D cA ad H.size (max n0 (max (ab_bd (lv.map (·.2))) (ab_bd rest))) (Nat.le_refl _)
  refine ab_after (av := (Value.ref (ad b) :: as.map (ab_v ad)).toArray) (n1 := max n0 (max (ab_bd (lv.map (·.2))) (ab_bd rest))) hC h1 h2 h3 h4 h5 hD (by omega) (by omega) (by omega) hmc hms ?_ kx kk
  refine vx_runV (nL := d.2.2.2.1) (n := n) (C := C) (Ts := gw) ⟨hC.1.1, hC.1.2, hC.2.1.1, hC.2.2.1.1, hts⟩ hMM ⟨ab_callB hC hl y3 y4 y5 y6 hf hlo, hts _ y1, hts _ y2⟩ ⟨ab_blind D cA ad H.size _ σ, va_recv hC.2.2.2.2.2.1.1 hD.1 hcl.1 (ab_atO hs hcl.2.1), fun U hU hW9 => ⟨by simp [ab_v], by rw [hU], by rw [hU]; exact hD.1, va_K.moved hW9.alike hC.2.2.2.2.2.1.1, hD.2.1.weaken (fun _ _ _ _ => trivial), ab_St_at hC.2.2.2.2.2.1.2 hD.2.2.1 hU hW9 hF hD.2.2.2.1⟩⟩ rfl (by simpa using hn) hD.2.2.2.2.1 (by simp [ab_v]) (lv_room (by rw [ab_cats]; exact hW)) (hC.dec hk) ⟨by omega, by omega⟩
theorem V_callS (k n : Nat) {y : MethodName} {dy : ab_M} {fr' lo' mc' ms' idx : Nat} {as rest st0 : List Value} {Q' : Option Value → ab_S → Prop} {E' : String → ab_S → Prop}
    (hk : d.2.2.2.2.2.2[k]? = some (pc, .invokestatic idx, 3)) (hl : Cond.methodLink d.1 idx y ∈ gw) (hy : ab_yS y dy n) (hst : st0 = as.reverse ++ rest) (hn : as.length = n)
    (hf : fr' + 1 ≤ fr) (hlo : 8 + (dy.2.2.2.1 + 11) + lo' ≤ lo) (hW : (rest.map fun v => v.category).sum ≤ 8) (hmc : mc' ≤ kc) (hms : ms' ≤ ks)
    (hM : ∀ B', ab_Mt l y dy B' fr' lo' mc' ms' as σ Q' E') (kx : ∀ (X : String) (σ' : ab_S), E' X σ' → VX l d B fr lo (kc - mc') (ks - ms') Z X pc lv rest σ')
    (kk : ∀ (v : Option Value) (σ' : ab_S), Q' v σ' → V l d B fr lo (kc - mc') (ks - ms') Z (pc + 3) lv (v.toList ++ rest) σ') : V l d B fr lo kc ks Z pc lv st0 σ := by
  subst hst
  intro p e R s m args below meth c0 D cA A n0 ad0 mc ms hC h1 h2 h3 ad H locs cells slots ls h4 h5 hD
  obtain ⟨y1, y3, y4, y5, y6⟩ := hy
  have hA := hC.2.2.2.2.2.2.1.1
  have hF := ab_Fc hD.2.1 hD.2.2.1 hA
  have hts := hC.2.2.1.2
  have hMM := hM (max n0 (max (ab_bd (lv.map (·.2))) (ab_bd rest))) D cA ad H.size (max n0 (max (ab_bd (lv.map (·.2))) (ab_bd rest))) (Nat.le_refl _)
  refine ab_after (av := (as.map (ab_v ad)).toArray) (n1 := max n0 (max (ab_bd (lv.map (·.2))) (ab_bd rest))) hC h1 h2 h3 h4 h5 hD (by omega) (by omega) (by omega) hmc hms ?_ kx kk
  refine vx_runS (nL := d.2.2.2.1) (n := n) (Ts := gw) ⟨hC.1.1, hC.1.2, hC.2.1.1, hC.2.2.1.1, hts⟩ hMM ⟨ab_callB hC hl y3 y4 y5 y6 hf hlo, hts _ y1⟩ ⟨ab_blind D cA ad H.size _ σ, fun U hU hW9 => ⟨rfl, by rw [hU], by rw [hU]; exact hD.1, va_K.moved hW9.alike hC.2.2.2.2.2.1.1, hD.2.1.weaken (fun _ _ _ _ => trivial), ab_St_at hC.2.2.2.2.2.1.2 hD.2.2.1 hU hW9 hF hD.2.2.2.1⟩⟩ rfl (by simpa using hn) hD.2.2.2.2.1 (by simp) (lv_room (by rw [ab_cats]; exact hW)) (hC.dec hk) ⟨by omega, by omega⟩
end CALL
