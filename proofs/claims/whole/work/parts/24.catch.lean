/-! ===== methods with a table; catches that answer a number; copies; switches; the law's script ===== -/
def ab_MtH (l : Launch) (y : MethodName) (d : ab_M) (B fr lo mc ms : Nat) (as : List Value) (σ : ab_S) (Q : Option Value → ab_S → Prop) (E : String → ab_S → Prop) : Prop :=
  ∀ (D : va_G) (cA : Nat → ClassId) (ad : Nat → Nat) (sz n0 : Nat), n0 ≤ B → vx_Met l y (Cond.codeWith y d.2.2.1 d.2.2.2.1 d.2.2.2.2.1 d.2.2.2.2.2.1 :: gw) { frames := fr, cells := mc, slots := ms, locals := lo } (ab_Pc D cA ad sz as σ) (ab_Qc D cA (va_A (ab_ws cA ad σ) sz) n0 ad Q) (ab_XC D cA (va_A (ab_ws cA ad σ) sz) n0 ad E) mc ms (va_A (ab_ws cA ad σ) sz)
theorem V_metH {l : Launch} {y : MethodName} {d : ab_M} {B fr lo mc ms : Nat} {as : List Value} {σ : ab_S} {Q : Option Value → ab_S → Prop} {E : String → ab_S → Prop}
    (hl : l.stackTraces = false) (hy : y.cls = d.1 ∧ y.name = d.2.1 ∧ plainName y.cls = true) (hd : ∀ q ∈ d.2.2.2.2.2.2, decode d.2.2.1 q.1 = .ok q.2) (hn : (lg_sl as).length ≤ d.2.2.2.1)
    (hV : V l d B fr lo mc ms (ab_End Q E) 0 (lv_args 0 as) [] σ) : ab_MtH l y d B fr lo mc ms as σ Q E := by
  intro D cA ad sz n0 hn0
  refine vx_ofWH (cc := d.2.2.1) (maxL := d.2.2.2.1) (ret := d.2.2.2.2.1) (hh := d.2.2.2.2.2.1) hy.2.2 rfl ?_
  intro p e s m args below meth c s₁ Bd hml hv
  obtain ⟨rfl, hsz, hP, hK, hD0, hSt⟩ := hv
  have hts := atoms_spec (ws := Cond.codeWith y d.2.2.1 d.2.2.2.1 d.2.2.2.2.1 d.2.2.2.2.2.1 :: gw) Bd.pre
  have hown : s.vm.findClass y.cls = some m.cls := findClass_of_methodNamed Bd.named
  have hnm : meth.name = y.name := (name_of_methodNamed Bd.named Bd.method).1
  have htb9 : c.exceptionTable.toList = tableOf d.2.2.2.2.2.1 := vx_table (x := y) Bd (hts _ List.mem_cons_self)
  subst hsz
  have hl0 := lv_entry (as.map (ab_v ad)) (n := d.2.2.2.1) (by rw [ab_sl]; exact hn)
  rw [lg_entry_eq]
  rw [ab_args] at hl0
  generalize (lg_sl (as.map (ab_v ad)) ++ List.replicate (d.2.2.2.1 - (lg_sl (as.map (ab_v ad))).length) Slot.unset).toArray = ls at hl0 ⊢
  exact hV p e _ s m _ below meth c D cA (va_A (ab_ws cA ad σ) s.heap.size) n0 ad mc ms
    ⟨⟨Bd.exec, Bd.bytes⟩, ⟨hml, Bd.returns⟩, ⟨by rw [← hy.1]; exact hown, fun w hw => hts w (List.mem_cons_of_mem _ hw)⟩, ⟨Bd.notSynchronized, hnm.trans hy.2.1⟩, ⟨htb9, hl⟩, ⟨hK, hSt⟩, ⟨fun q h => Or.inr h, Nat.le_refl _, Nat.le_refl _⟩, hd⟩
    ⟨trivial, hn0⟩ (Nat.le_refl _) (Nat.le_refl _) ad s.heap [] 0 0 ls (by omega) (by omega) ⟨hP, hD0.self, va_S.rf, fun _ _ => rfl, hl0⟩
def ab_yX (y : MethodName) (dy : ab_M) (n : Nat) : Prop := Cond.static y ∈ gw ∧ Cond.initialized y.cls ∈ gw ∧ Cond.codeWith y dy.2.2.1 dy.2.2.2.1 dy.2.2.2.2.1 dy.2.2.2.2.2.1 ∈ gw ∧ (y.cls ≠ "java/lang/invoke/MethodHandle" ∧ y.cls ≠ "java/lang/invoke/VarHandle") ∧ (parseMethodDescriptor y.desc).map (fun d => d.parameters.length) = some n
section CATCH
variable {l : Launch} {d : ab_M} {B fr lo kc ks : Nat} {Q : Option Value → ab_S → Prop} {E : String → ab_S → Prop} {Z : ab_Zt} {pc : Nat} {lv : List (Nat × Value)} {st : List Value} {σ : ab_S}
theorem V_callSX (k n : Nat) {y : MethodName} {dy : ab_M} {fr' lo' mc' ms' idx : Nat} {as rest st0 : List Value} {Q' : Option Value → ab_S → Prop} {E' : String → ab_S → Prop}
    (hk : d.2.2.2.2.2.2[k]? = some (pc, .invokestatic idx, 3)) (hl : Cond.methodLink d.1 idx y ∈ gw) (hy : ab_yX y dy n) (hst : st0 = as.reverse ++ rest) (hn : as.length = n)
    (hf : fr' + 1 ≤ fr) (hlo : 8 + (dy.2.2.2.1 + 11) + lo' ≤ lo) (hW : (rest.map fun v => v.category).sum ≤ 8) (hmc : mc' ≤ kc) (hms : ms' ≤ ks)
    (hM : ∀ B', ab_MtH l y dy B' fr' lo' mc' ms' as σ Q' E') (kx : ∀ (X : String) (σ' : ab_S), E' X σ' → VX l d B fr lo (kc - mc') (ks - ms') Z X pc lv rest σ')
    (kk : ∀ (v : Option Value) (σ' : ab_S), Q' v σ' → V l d B fr lo (kc - mc') (ks - ms') Z (pc + 3) lv (v.toList ++ rest) σ') : V l d B fr lo kc ks Z pc lv st0 σ := by
  subst hst
  intro p e R s m args below meth c0 D cA A n0 ad0 mc ms hC h1 h2 h3 ad H locs cells slots ls h4 h5 hD
  obtain ⟨y1, y3, y4, y5, y6⟩ := hy
  have hA := hC.2.2.2.2.2.2.1.1
  have hF := ab_Fc hD.2.1 hD.2.2.1 hA
  have hts := hC.2.2.1.2
  have hrf := hC.2.2.2.2.2.2.1.2.1
  have hrl := hC.2.2.2.2.2.2.1.2.2
  have hMM := hM (max n0 (max (ab_bd (lv.map (·.2))) (ab_bd rest))) D cA ad H.size (max n0 (max (ab_bd (lv.map (·.2))) (ab_bd rest))) (Nat.le_refl _)
  refine ab_after (av := (as.map (ab_v ad)).toArray) (n1 := max n0 (max (ab_bd (lv.map (·.2))) (ab_bd rest))) hC h1 h2 h3 h4 h5 hD (by omega) (by omega) (by omega) hmc hms ?_ kx kk
  refine vx_runSX (nL := d.2.2.2.1) (n := n) (Ts := gw) (hh := dy.2.2.2.2.2.1) (bytes := dy.2.2.1) (maxL := dy.2.2.2.1) (ret := dy.2.2.2.2.1) ⟨hC.1.1, hC.1.2, hC.2.1.1, hC.2.2.1.1, hts⟩ hMM ⟨⟨rfl, rfl, by show fr' + 1 ≤ _; omega, by show _ + _ + lo' ≤ _; omega, fun w hw a' U hW => ?_, List.mem_cons_self⟩, hts _ y4, hts _ y3, y5, fun sig h => ?_, hts _ hl, hts _ y1⟩ ⟨ab_blind D cA ad H.size _ σ, fun U hU hW9 => ⟨rfl, by rw [hU], by rw [hU]; exact hD.1, va_K.moved hW9.alike hC.2.2.2.2.2.1.1, hD.2.1.weaken (fun _ _ _ _ => trivial), ab_St_at hC.2.2.2.2.2.1.2 hD.2.2.1 hU hW9 hF hD.2.2.2.1⟩⟩ rfl (by simpa using hn) hD.2.2.2.2.1 (by simp) (lv_room (by rw [ab_cats]; exact hW)) (hC.dec hk) ⟨by omega, by omega⟩
  · rcases List.mem_cons.mp hw with rfl | hw
    · exact word_at hW (good_of_word (gw_good y4)) (hts _ y4)
    · exact word_at hW (good_of_word (gw_good hw)) (hts _ hw)
  · rw [h] at y6
    exact (Option.some.inj y6).symm
/-- a handler that answers a number: astore, iconst, ireturn -/
theorem VX_ret (j k : Nat) {X name : String} {q : Nat × Nat × Nat × Nat} {len i : Nat} {n : Int} {v : Int32} {sti : Instr} (hq : d.2.2.2.2.2.1[j]? = some q) (hcv : q.1 ≤ pc ∧ pc < q.2.1) (h0 : q.2.2.2 ≠ 0) (hl : Cond.classLink d.1 q.2.2.2 name ∈ gw) (hca : Cond.castable X name ∈ ngw)
    (hpre : ∀ z ∈ d.2.2.2.2.2.1.take j, z.2.2.2 ≠ 0 ∧ ∃ nm : String, Cond.classLink d.1 z.2.2.2 nm ∈ gw ∧ (X, nm) ∈ ncw)
    (hk : d.2.2.2.2.2.2[k]? = some (q.2.2.1, sti, len)) (hsti : (sti = .astore i ∧ len = 2) ∨ (∃ f : Fin 4, sti = .astore_n f ∧ (f : Nat) = i ∧ len = 1)) (hi : i < d.2.2.2.1)
    (hk1 : d.2.2.2.2.2.2[k + 1]? = some (q.2.2.1 + len, .iconst n, 1)) (hk2 : d.2.2.2.2.2.2[k + 2]? = some (q.2.2.1 + len + 1, .ireturn, 1)) (hv : Int32.ofInt n = v) (hr : d.2.2.2.2.1 = some .int) (hQ : Q (some (.int v)) σ) : VX l d B fr lo kc ks (ab_End Q E) X pc lv st σ := by
  intro p e R s m args below meth c0 D cA A n0 ad0 mc ms hC h1 h2 h3 ad H locs cells slots ls h4 h5 hD a ce hce hcv9 hcl
  have hts := hC.2.2.1.2
  have hlen : j < d.2.2.2.2.2.1.length := (List.getElem?_eq_some_iff.mp hq).1
  have hqe : d.2.2.2.2.2.1[j] = q := (List.getElem?_eq_some_iff.mp hq).2
  have hsplit : c0.exceptionTable.toList = (d.2.2.2.2.2.1.take j).map (fun q => (⟨q.1, q.2.1, q.2.2.1, q.2.2.2⟩ : ExceptionTableEntry)) ++ (⟨q.1, q.2.1, q.2.2.1, q.2.2.2⟩ : ExceptionTableEntry) :: (d.2.2.2.2.2.1.drop (j + 1)).map (fun q => (⟨q.1, q.2.1, q.2.2.1, q.2.2.2⟩ : ExceptionTableEntry)) := by
    rw [hC.2.2.2.2.1.1]
    unfold tableOf
    conv => lhs; rw [← List.take_append_drop j d.2.2.2.2.2.1, List.drop_eq_getElem_cons hlen, hqe]
    rw [List.map_append, List.map_cons]
  refine vx_catch (E := X) (name := name) hC.2.2.1.1 _ _ _ hsplit ?_ ?_ h0 (hts _ hl) (va_Nw.use (ng_on hca) (hC.2.2.2.2.2.1.2.2.2.1 _ hca)) hce hcv9 hcl ?_
  · intro z hz
    obtain ⟨y9, hy9, rfl⟩ := List.mem_map.mp hz
    obtain ⟨g1, nm, g2, g3⟩ := hpre y9 hy9
    exact Or.inr ⟨g1, nm, hts _ g2, hC.2.2.2.2.2.1.2.2.2.2.1 _ g3⟩
  · simp [covers, hcv.1, hcv.2]
  · have fin : ∀ ls' : Array Slot, ∀ lv9, lv_has ls' d.2.2.2.1 lv9 → W p l e R s m args below meth c0 H locs cells slots ((ab_End Q E).2 below args s mc ms A D cA n0 ad0) (F0 m (q.2.2.1 + len) ls' []) := by
      intro ls' lv9 _
      refine lv_iconst hC.1.1 hC.1.2 (hC.dec hk1) hv ?_
      exact W.widen (k := mc) (n := ms) (by omega) (by omega) (vx_ret (W.iret hC.1.1 hC.1.2 (hC.2.1.2.trans hr) (fun t ht hW => ⟨⟨some (.int v), σ, ad, rfl, hQ, hD.2.2.2.1, by rw [ht]; exact hD.1, hD.2.1, va_K.moved hW.alike hC.2.2.2.2.2.1.1⟩, hD.2.2.1.F ht⟩) hD.2.2.1.2.2 (hC.dec hk2) hC.2.2.2.1.1))
    rcases hsti with ⟨rfl, rfl⟩ | ⟨f, rfl, hfi, rfl⟩
    · exact lv_astore hC.1.1 hC.1.2 (hC.dec hk) hD.2.2.2.2 hi rfl (fun ls' h => fin ls' _ h)
    · exact lv_astore_n hC.1.1 hC.1.2 (hC.dec hk) hfi hD.2.2.2.2 hi rfl (fun ls' h => fin ls' _ h)
theorem V_max (k : Nat) {idx : Nat} {x y : Int32} (hk : d.2.2.2.2.2.2[k]? = some (pc, .invokestatic idx, 3)) (hl : Cond.methodLink d.1 idx Lib.Math.max.name ∈ gw) (h6 : Cond.static Lib.Math.max.name ∈ gw) (h7 : Cond.initialized "java/lang/Math" ∈ gw) (h8 : Cond.code Lib.Math.max.name Lib.Math.max.code 2 (some .int) ∈ gw) (hf : 1 ≤ fr) (hlo : (st.map fun v => v.category).sum + 13 ≤ lo)
    (kk : V l d B fr lo kc ks Z (pc + 3) lv (.int (if x < y then y else x) :: st) σ) : V l d B fr lo kc ks Z pc lv (.int y :: .int x :: st) σ := by
  intro p e R s m args below meth c0 D cA A n0 ad0 mc ms hC h1 h2 h3 ad H locs cells slots ls h4 h5 hD
  have hts := hC.2.2.1.2
  have hrf := hC.2.2.2.2.2.2.1.2.1
  have hrl := hC.2.2.2.2.2.2.1.2.2
  have hcs := ab_cats ad st
  exact va_mmax hC.1.1 hC.1.2 (hC.2.1.1.trans hD.2.2.2.2.1.symm) hC.2.2.1.1 (hts _ hl) (hts _ h6) (hts _ h7) (hts _ h8) (by omega) (by omega) (by omega) (by omega) (hC.dec hk) (kk p e R s m args below meth c0 D cA A n0 ad0 mc ms hC h1 h2 h3 ad H locs cells slots ls h4 h5 hD)
theorem V_tab (k : Nat) {dflt lo9 hi : Int} {offs : Array Int} {len : Nat} {x : Int32} {v off : Int} {tgt : Nat} (hk : d.2.2.2.2.2.2[k]? = some (pc, .tableswitch dflt lo9 hi offs, len)) (hx : x.toInt = v) (h6 : lo9 ≤ v ∧ v ≤ hi) (ho : offs[(v - lo9).toNat]? = some off) (ht : (pc : Int) + off = (tgt : Int))
    (kk : V l d B fr lo kc ks Z tgt lv st σ) : V l d B fr lo kc ks Z pc lv (.int x :: st) σ := by
  intro p e R s m args below meth c0 D cA A n0 ad0 mc ms hC h1 h2 h3 ad H locs cells slots ls h4 h5 hD
  subst hx
  exact lv_tableIn hC.1.1 hC.1.2 (hC.dec hk) (by omega) (by omega) ho ht (kk p e R s m args below meth c0 D cA A n0 ad0 mc ms hC h1 h2 h3 ad H locs cells slots ls h4 h5 hD)
theorem V_tabOut (k : Nat) {dflt lo9 hi : Int} {offs : Array Int} {len : Nat} {x : Int32} {tgt : Nat} (hk : d.2.2.2.2.2.2[k]? = some (pc, .tableswitch dflt lo9 hi offs, len)) (hx : x.toInt < lo9 ∨ hi < x.toInt) (ht : (pc : Int) + dflt = (tgt : Int))
    (kk : V l d B fr lo kc ks Z tgt lv st σ) : V l d B fr lo kc ks Z pc lv (.int x :: st) σ := by
  intro p e R s m args below meth c0 D cA A n0 ad0 mc ms hC h1 h2 h3 ad H locs cells slots ls h4 h5 hD
  exact lv_tableOut hC.1.1 hC.1.2 (hC.dec hk) hx ht (kk p e R s m args below meth c0 D cA A n0 ad0 mc ms hC h1 h2 h3 ad H locs cells slots ls h4 h5 hD)
theorem V_look (k : Nat) {dflt : Int} {ps : Array (Int × Int)} {len : Nat} {x : Int32} {off : Int} {tgt : Nat} (hk : d.2.2.2.2.2.2[k]? = some (pc, .lookupswitch dflt ps, len)) (hp : (ps.toList.zip (ps.toList.drop 1)).all (fun (a, next) => a.1 < next.1) = true) (ho : Op.lookupswitch.offset ps.toList dflt x.toInt = off) (ht : (pc : Int) + off = (tgt : Int))
    (kk : V l d B fr lo kc ks Z tgt lv st σ) : V l d B fr lo kc ks Z pc lv (.int x :: st) σ := by
  intro p e R s m args below meth c0 D cA A n0 ad0 mc ms hC h1 h2 h3 ad H locs cells slots ls h4 h5 hD
  exact lv_lookup hC.1.1 hC.1.2 (hC.dec hk) hp ho ht (kk p e R s m args below meth c0 D cA A n0 ad0 mc ms hC h1 h2 h3 ad H locs cells slots ls h4 h5 hD)
end CATCH
