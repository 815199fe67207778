/-! ===== abstract heaps: things by their numbers; the judgement V; a row an instruction ===== -/
abbrev vwc : List vw_C := [(RX0, TX0, 20), (RX1, TX1, 4), (RX2, TX2, 14), (RX3, TX3, 1), (RX4, TX4, 11), (RX5, TX5, 8), (RX6, TX6, 10), (RX7, TX7, 6), (RX8, TX8, 2), (RX9, TX9, 6), (RX10, TX10, 4), (RX11, TX11, 18), (RX12, TX12, 97)]
def gw : List Cond := lw_tbl.filter goodWord
theorem gw_of {w : Cond} (h : w ∈ lw_tbl) (g : goodWord w = true) : w ∈ gw := List.mem_filter.mpr ⟨h, g⟩
theorem gw_good {w : Cond} (h : w ∈ gw) : goodWord w = true := (List.mem_filter.mp h).2
def ngp : Cond → Bool
  | .declares _ | .castable .. | .methodLinkNest .. => true
  | _ => false
def ngw : List Cond := lw_tbl.filter ngp
/-- pairs of classes of which the first isn't of the second's kind -/
def ncw : List (String × String) := [("java/lang/UnsupportedOperationException", "java/lang/IllegalArgumentException"), ("java/lang/IllegalArgumentException", "java/lang/IllegalStateException"), ("java/lang/IndexOutOfBoundsException", "java/lang/IllegalStateException"), ("java/lang/IllegalArgumentException", "java/lang/IndexOutOfBoundsException"), ("java/lang/ArithmeticException", "java/lang/IllegalStateException"), ("java/lang/ArithmeticException", "java/lang/IndexOutOfBoundsException"), ("java/lang/ArithmeticException", "java/lang/IllegalArgumentException")]
abbrev ab_S : Type := List (Nat × Nat) × (Nat → Nat → Int32) × (Nat → Nat → Int64) × (Nat → Nat → Option Nat)
def ab_ty (c : Nat) : Nat → FieldType := match c with
  | 0 => tyX0 | 1 => tyX1 | 2 => tyX2 | 3 => tyX3 | 4 => tyX4 | 5 => tyX5 | 6 => tyX6 | 7 => tyX7 | 8 => tyX8 | 9 => tyX9 | 10 => tyX10 | 11 => tyX11 | 12 => tyX12 | _ => fun _ => .int
def ab_nf (c : Nat) : Nat := match c with
  | 0 => 20 | 1 => 4 | 2 => 14 | 3 => 1 | 4 => 11 | 5 => 8 | 6 => 10 | 7 => 6 | 8 => 2 | 9 => 6 | 10 => 4 | 11 => 18 | 12 => 97 | _ => 0
def ab_v (ad : Nat → Nat) : Value → Value
  | .ref i => .ref (ad i)
  | .int x => .int x
  | .long x => .long x
  | .float x => .float x
  | .double x => .double x
  | .null => .null
  | .retAddr x => .retAddr x
theorem ab_cat (ad : Nat → Nat) (v : Value) : (ab_v ad v).category = v.category := by cases v <;> rfl
theorem ab_cats (ad : Nat → Nat) (st : List Value) : ((st.map (ab_v ad)).map fun v => v.category).sum = (st.map fun v => v.category).sum := by
  rw [List.map_map]; congr 1; exact List.map_congr_left (fun v _ => ab_cat ad v)
def ab_fv (ad : Nat → Nat) (σ : ab_S) (i k : Nat) : FieldType → Value
  | .long => .long (σ.2.2.1 i k)
  | .object _ => va_rf ((σ.2.2.2 i k).map ad)
  | .array _ => va_rf ((σ.2.2.2 i k).map ad)
  | _ => .int (σ.2.1 i k)
def ab_obj (ad : Nat → Nat) (σ : ab_S) (i c : Nat) : List Value := (List.range (ab_nf c)).map (fun k => ab_fv ad σ i k (ab_ty c k))
def ab_e (cA : Nat → ClassId) (ad : Nat → Nat) (σ : ab_S) (i : Nat) (q : Nat × Nat) : va_E :=
  if q.1 < 20 then .inr (q.1, ab_obj ad σ i q.1) else if q.1 = 21 then .inl (cA 21, q.2, .inr (.inl (σ.2.2.1 i))) else .inl (cA q.1, q.2, .inl (σ.2.1 i))
def ab_ws (cA : Nat → ClassId) (ad : Nat → Nat) (σ : ab_S) : va_W := σ.1.mapIdx (fun i q => (ad i, ab_e cA ad σ i q))
def ab_tys (cA : Nat → ClassId) : List (ClassId × FieldType) := [(cA 20, .int), (cA 21, .long), (cA 22, .boolean), (cA 23, .char)]
theorem ab_at {cA : Nat → ClassId} {ad : Nat → Nat} {σ : ab_S} {i : Nat} {q : Nat × Nat} (h : σ.1[i]? = some q) : (ab_ws cA ad σ)[i]? = some (ad i, ab_e cA ad σ i q) := by
  simp [ab_ws, List.getElem?_mapIdx, h]
theorem ab_atO {cA : Nat → ClassId} {ad : Nat → Nat} {σ : ab_S} {i c z : Nat} (h : σ.1[i]? = some (c, z)) (hc : c < 20) : (ab_ws cA ad σ)[i]? = some (ad i, .inr (c, ab_obj ad σ i c)) := by
  rw [ab_at h]; simp [ab_e, hc]
theorem ab_atI {cA : Nat → ClassId} {ad : Nat → Nat} {σ : ab_S} {i c n : Nat} (h : σ.1[i]? = some (c, n)) (hc : ¬ c < 20) (h1 : c ≠ 21) : (ab_ws cA ad σ)[i]? = some (ad i, .inl (cA c, n, .inl (σ.2.1 i))) := by
  rw [ab_at h]; simp [ab_e, hc, h1]
theorem ab_atL {cA : Nat → ClassId} {ad : Nat → Nat} {σ : ab_S} {i n : Nat} (h : σ.1[i]? = some (21, n)) : (ab_ws cA ad σ)[i]? = some (ad i, .inl (cA 21, n, .inr (.inl (σ.2.2.1 i)))) := by
  rw [ab_at h]; simp [ab_e]
/-- writes -/
def ab_I (σ : ab_S) (i k : Nat) (x : Int32) : ab_S := (σ.1, (fun a b => if a = i then (if b = k then x else σ.2.1 i b) else σ.2.1 a b), σ.2.2.1, σ.2.2.2)
def ab_L (σ : ab_S) (i k : Nat) (x : Int64) : ab_S := (σ.1, σ.2.1, (fun a b => if a = i then (if b = k then x else σ.2.2.1 i b) else σ.2.2.1 a b), σ.2.2.2)
def ab_R (σ : ab_S) (i k : Nat) (x : Option Nat) : ab_S := (σ.1, σ.2.1, σ.2.2.1, (fun a b => if a = i then (if b = k then x else σ.2.2.2 i b) else σ.2.2.2 a b))
theorem ab_ws_set {cA : Nat → ClassId} {ad : Nat → Nat} {σ σ' : ab_S} {i : Nat} {q : Nat × Nat} (h : σ.1[i]? = some q) (hs : σ'.1 = σ.1) (ho : ∀ (j : Nat) (z : Nat × Nat), j ≠ i → ab_e cA ad σ' j z = ab_e cA ad σ j z) : ab_ws cA ad σ' = (ab_ws cA ad σ).set i (ad i, ab_e cA ad σ' i q) := by
  apply List.ext_getElem?
  intro j
  have hl : i < σ.1.length := (List.getElem?_eq_some_iff.mp h).1
  by_cases hj : j = i
  · subst hj
    have hq : σ.1[j] = q := (List.getElem?_eq_some_iff.mp h).2
    simp [ab_ws, hs, hl, hq]
  · have hji : ¬ i = j := fun e => hj e.symm
    rw [List.getElem?_set, if_neg hji]
    simp only [ab_ws, List.getElem?_mapIdx, hs]
    cases hz : σ.1[j]? with
    | none => rfl
    | some z => simp [ho j z hj]
theorem ab_e_I {cA : Nat → ClassId} {ad : Nat → Nat} {σ : ab_S} {i k j : Nat} {x : Int32} {z : Nat × Nat} (hj : j ≠ i) : ab_e cA ad (ab_I σ i k x) j z = ab_e cA ad σ j z := by
  have e1 : (ab_I σ i k x).2.1 j = σ.2.1 j := by funext b; simp [ab_I, hj]
  have e2 : ∀ (b : Nat) (t : FieldType), ab_fv ad (ab_I σ i k x) j b t = ab_fv ad σ j b t := by
    intro b t; cases t <;> simp [ab_fv, ab_I, hj]
  unfold ab_e ab_obj
  rw [e1]
  simp only [e2]
  rfl
theorem ab_e_L {cA : Nat → ClassId} {ad : Nat → Nat} {σ : ab_S} {i k j : Nat} {x : Int64} {z : Nat × Nat} (hj : j ≠ i) : ab_e cA ad (ab_L σ i k x) j z = ab_e cA ad σ j z := by
  have e1 : (ab_L σ i k x).2.2.1 j = σ.2.2.1 j := by funext b; simp [ab_L, hj]
  have e2 : ∀ (b : Nat) (t : FieldType), ab_fv ad (ab_L σ i k x) j b t = ab_fv ad σ j b t := by
    intro b t; cases t <;> simp [ab_fv, ab_L, hj]
  unfold ab_e ab_obj
  rw [e1]
  simp only [e2]
  rfl
theorem ab_e_R {cA : Nat → ClassId} {ad : Nat → Nat} {σ : ab_S} {i k j : Nat} {x : Option Nat} {z : Nat × Nat} (hj : j ≠ i) : ab_e cA ad (ab_R σ i k x) j z = ab_e cA ad σ j z := by
  have e2 : ∀ (b : Nat) (t : FieldType), ab_fv ad (ab_R σ i k x) j b t = ab_fv ad σ j b t := by
    intro b t; cases t <;> simp [ab_fv, ab_R, hj]
  unfold ab_e ab_obj
  simp only [e2]
  rfl
theorem ab_obj_get {ad : Nat → Nat} {σ : ab_S} {i c k : Nat} (hk : k < ab_nf c) : (ab_obj ad σ i c)[k]? = some (ab_fv ad σ i k (ab_ty c k)) := by
  simp [ab_obj, hk]
theorem ab_obj_len {ad : Nat → Nat} {σ : ab_S} {i c : Nat} : (ab_obj ad σ i c).length = ab_nf c := by simp [ab_obj]
theorem ab_obj_set {ad : Nat → Nat} {σ σ' : ab_S} {i c k : Nat} {v : Value} (hk : k < ab_nf c) (hv : ab_fv ad σ' i k (ab_ty c k) = v) (ho : ∀ (b : Nat) (t : FieldType), b ≠ k → ab_fv ad σ' i b t = ab_fv ad σ i b t) : (ab_obj ad σ i c).set k v = ab_obj ad σ' i c := by
  apply List.ext_getElem?
  intro j
  by_cases hj : j = k
  · subst hj
    rw [List.getElem?_set, if_pos rfl, if_pos (by rw [ab_obj_len]; exact hk), ab_obj_get hk, hv]
  · have hjk : ¬ k = j := fun e => hj e.symm
    rw [List.getElem?_set, if_neg hjk]
    by_cases hl : j < ab_nf c
    · rw [ab_obj_get hl, ab_obj_get hl, ho j _ hj]
    · rw [List.getElem?_eq_none (by rw [ab_obj_len]; omega), List.getElem?_eq_none (by rw [ab_obj_len]; omega)]
/-- a method: its class, its name, its code, locals, type, table, instructions -/
abbrev ab_M : Type := String × String × ByteArray × Nat × Option FieldType × List (Nat × Nat × Nat × Nat) × List (Nat × Instr × Nat)

/-- the String constants (numbers 1000001 .. 1000007), their bytes (1000101 ..), and the two statics that String's own methods read -/
def skI : List Nat := [93, 99, 101, 103, 105, 107, 78]
def skT : List String := ["symbol", "down", "up", "if", "then", "else", ":=;,.{}()#+-*/<"]
def skL : List Nat := [6, 4, 2, 2, 4, 4, 15]
def skB : List (List Int32) := [[115, 121, 109, 98, 111, 108], [100, 111, 119, 110], [117, 112], [105, 102], [116, 104, 101, 110], [101, 108, 115, 101], [58, 61, 59, 44, 46, 123, 125, 40, 41, 35, 43, 45, 42, 47, 60]]
def ab_Sk (ad : Nat → Nat) (A : Nat → Prop) (U : State) (H : Heap) : Prop := vk_S 7 skL skB (fun i => ad (1000001 + i)) (fun i => ad (1000101 + i)) A U H ∧ (∀ i, i < 7 → vk_R RX6 (skI.getD i 0) (skT.getD i "") (ad (1000001 + i)) U) ∧ va_Z "java/lang/String" "COMPACT_STRINGS" "Z" (.int 1) A U H ∧ ∃ v : Value, (v = .null ∨ v = .ref (ad 1000008)) ∧ va_Z "jdk/internal/util/Preconditions" "SIOOBE_FORMATTER" "Ljava/util/function/BiFunction;" v A U H
def ab_St (ad : Nat → Nat) (A : Nat → Prop) (U : State) (H : Heap) : Prop := vx_Zq Bundle.tN "UNASSIGNED_STACK" Bundle.steD A U H ∧ vx_Zq Bundle.tN "SUPPRESSED_SENTINEL" Bundle.listD A U H ∧ (∀ w ∈ ngw, va_Nw w U) ∧ (∀ q ∈ ncw, va_Nc q.1 q.2 U) ∧ ab_Sk ad A U H
def ab_Cx (l : Launch) (d : ab_M) (fr lo : Nat) (p : Program) (R : Room) (s : State) (m : MethodId) (args : Array Value) (meth : Method) (c : Code) (D : va_G) (cA : Nat → ClassId) (A : Nat → Prop) (ad0 : Nat → Nat) : Prop :=
  (p.tables.exec = Jvm.exec ∧ c.code = d.2.2.1) ∧ (c.maxLocals = d.2.2.2.1 ∧ meth.sig.returnType = d.2.2.2.2.1) ∧ (s.vm.findClass d.1 = some m.cls ∧ ∀ w ∈ gw, w.before args s = true) ∧ (meth.locks = false ∧ meth.name = d.2.1) ∧ (c.exceptionTable.toList = tableOf d.2.2.2.2.2.1 ∧ l.stackTraces = false) ∧ (va_K D vwc (ab_tys cA) s ∧ ab_St ad0 A s s.heap) ∧ ((∀ q, s.heap.size ≤ q → A q) ∧ fr ≤ R.frames ∧ lo ≤ R.locals) ∧ ∀ q ∈ d.2.2.2.2.2.2, decode d.2.2.1 q.1 = .ok q.2
section CX
variable {l : Launch} {d : ab_M} {fr lo : Nat} {p : Program} {R : Room} {s : State} {m : MethodId} {args : Array Value} {meth : Method} {c : Code} {D : va_G} {cA : Nat → ClassId} {A : Nat → Prop} {ad0 : Nat → Nat}
theorem ab_Cx.dec (h : ab_Cx l d fr lo p R s m args meth c D cA A ad0) {k pc n : Nat} {i : Instr} (hk : d.2.2.2.2.2.2[k]? = some (pc, i, n)) : decode d.2.2.1 pc = .ok (i, n) := h.2.2.2.2.2.2.2 (pc, i, n) (List.mem_of_getElem? hk)
end CX
/-- the places of the first n0 things stay, and those of what lies outside the world (numbers from a million on) -/
def ab_ag (n0 : Nat) (ad ad0 : Nat → Nat) : Prop := ∀ i, (i < n0 ∨ 1000000 ≤ i) → ad i = ad0 i
def ab_lv (ad : Nat → Nat) (lv : List (Nat × Value)) : List (Nat × Value) := lv.map fun q => (q.1, ab_v ad q.2)
def ab_Dx (D : va_G) (cA : Nat → ClassId) (A : Nat → Prop) (n0 : Nat) (ad0 : Nat → Nat) (s : State) (nL : Nat) (lv : List (Nat × Value)) (σ : ab_S) (ad : Nat → Nat) (H : Heap) (locs : List Loc) (ls : Array Slot) : Prop :=
  va_P D vwc (ab_ws cA ad σ) H ∧ va_D A (ab_ws cA ad σ) ∧ va_S A s.heap H locs ∧ ab_ag n0 ad ad0 ∧ lv_has ls nL (ab_lv ad lv)
def ab_Wd (D : va_G) (cA : Nat → ClassId) (A : Nat → Prop) (n0 : Nat) (ad0 : Nat → Nat) (σ : ab_S) (ad : Nat → Nat) (t : State) : Prop :=
  ab_ag n0 ad ad0 ∧ va_P D vwc (ab_ws cA ad σ) t.heap ∧ va_D A (ab_ws cA ad σ) ∧ va_K D vwc (ab_tys cA) t
def ab_Qc (D : va_G) (cA : Nat → ClassId) (A : Nat → Prop) (n0 : Nat) (ad0 : Nat → Nat) (Q : Option Value → ab_S → Prop) : Array Value → State → Outcome → State → Prop := fun _ st oc t =>
  (∃ (v : Option Value) (σ : ab_S) (ad : Nat → Nat), oc = .returned (v.map (ab_v ad)) ∧ Q v σ ∧ ab_Wd D cA A n0 ad0 σ ad t) ∧ va_F A st t
def ab_XC (D : va_G) (cA : Nat → ClassId) (A : Nat → Prop) (n0 : Nat) (ad0 : Nat → Nat) (E : String → ab_S → Prop) : String → State → State → Prop := fun X st t =>
  (∃ (σ : ab_S) (ad : Nat → Nat), E X σ ∧ ab_Wd D cA A n0 ad0 σ ad t) ∧ va_F A st t
/-- how a walk ends: what it takes as given of the start, what must hold at the end -/
abbrev ab_Zt : Type := (State → (Nat → Prop) → (Nat → Nat) → Prop) × (List Frame → Array Value → State → Nat → Nat → (Nat → Prop) → va_G → (Nat → ClassId) → Nat → (Nat → Nat) → State → Prop)
/-- .. of a method: Q of its answer, or E of what it throws -/
def ab_End (Q : Option Value → ab_S → Prop) (E : String → ab_S → Prop) : ab_Zt := (fun _ _ _ => True, fun below args s mc ms A D cA n0 ad0 => vx_MQ below (ab_Qc D cA A n0 ad0 Q) (ab_XC D cA A n0 ad0 E) args s mc ms A)
/-- from this place, with these locals, this stack and this heap, the method comes to its end Z; B bounds the numbers whose places must stay; kc cells and ks slots may still come -/
def V (l : Launch) (d : ab_M) (B fr lo kc ks : Nat) (Z : ab_Zt) (pc : Nat) (lv : List (Nat × Value)) (st : List Value) (σ : ab_S) : Prop :=
  ∀ (p : Program) (e : Env) (R : Room) (s : State) (m : MethodId) (args : Array Value) (below : List Frame) (meth : Method) (c : Code) (D : va_G) (cA : Nat → ClassId) (A : Nat → Prop) (n0 : Nat) (ad0 : Nat → Nat) (mc ms : Nat),
    ab_Cx l d fr lo p R s m args meth c D cA A ad0 → Z.1 s A ad0 ∧ n0 ≤ B → mc ≤ R.cells → ms ≤ R.slots → ∀ (ad : Nat → Nat) (H : Heap) (locs : List Loc) (cells slots : Nat) (ls : Array Slot), cells + kc ≤ mc → slots + ks ≤ ms →
    ab_Dx D cA A n0 ad0 s d.2.2.2.1 lv σ ad H locs ls → W p l e R s m args below meth c H locs cells slots (Z.2 below args s mc ms A D cA n0 ad0) (F0 m pc ls (st.map (ab_v ad)))
section ROWS
variable {l : Launch} {d : ab_M} {B fr lo kc ks : Nat} {Z : ab_Zt} {pc : Nat} {lv : List (Nat × Value)} {st : List Value} {σ : ab_S}
theorem V_iconst (k : Nat) {n : Int} {v : Int32} (hk : d.2.2.2.2.2.2[k]? = some (pc, .iconst n, 1)) (hv : Int32.ofInt n = v) (kk : V l d B fr lo kc ks Z (pc + 1) lv (.int v :: st) σ) : V l d B fr lo kc ks Z (pc) lv (st) σ := by
  intro p e R s m args below meth c D cA A n0 ad0 mc ms hC h1 h2 h3 ad H locs cells slots ls h4 h5 hD
  exact lv_iconst hC.1.1 hC.1.2 (hC.dec hk) hv (kk p e R s m args below meth c D cA A n0 ad0 mc ms hC h1 h2 h3 ad H locs cells slots ls h4 h5 hD)
theorem V_bipush (k : Nat) {n : Int} {v : Int32} (hk : d.2.2.2.2.2.2[k]? = some (pc, .bipush n, 2)) (hv : (Int8.ofInt n).toInt32 = v) (kk : V l d B fr lo kc ks Z (pc + 2) lv (.int v :: st) σ) : V l d B fr lo kc ks Z (pc) lv (st) σ := by
  intro p e R s m args below meth c D cA A n0 ad0 mc ms hC h1 h2 h3 ad H locs cells slots ls h4 h5 hD
  exact lv_bipush hC.1.1 hC.1.2 (hC.dec hk) hv (kk p e R s m args below meth c D cA A n0 ad0 mc ms hC h1 h2 h3 ad H locs cells slots ls h4 h5 hD)
theorem V_sipush (k : Nat) {n : Int} {v : Int32} (hk : d.2.2.2.2.2.2[k]? = some (pc, .sipush n, 3)) (hv : (Int16.ofInt n).toInt32 = v) (kk : V l d B fr lo kc ks Z (pc + 3) lv (.int v :: st) σ) : V l d B fr lo kc ks Z (pc) lv (st) σ := by
  intro p e R s m args below meth c D cA A n0 ad0 mc ms hC h1 h2 h3 ad H locs cells slots ls h4 h5 hD
  exact lv_sipush hC.1.1 hC.1.2 (hC.dec hk) hv (kk p e R s m args below meth c D cA A n0 ad0 mc ms hC h1 h2 h3 ad H locs cells slots ls h4 h5 hD)
theorem V_lconst (k : Nat) {n : Fin 2} {v : Int64} (hk : d.2.2.2.2.2.2[k]? = some (pc, .lconst n, 1)) (hv : Int64.ofNat (n : Nat) = v) (kk : V l d B fr lo kc ks Z (pc + 1) lv (.long v :: st) σ) : V l d B fr lo kc ks Z (pc) lv (st) σ := by
  intro p e R s m args below meth c D cA A n0 ad0 mc ms hC h1 h2 h3 ad H locs cells slots ls h4 h5 hD
  exact lv_lconst hC.1.1 hC.1.2 (hC.dec hk) hv (kk p e R s m args below meth c D cA A n0 ad0 mc ms hC h1 h2 h3 ad H locs cells slots ls h4 h5 hD)
theorem V_null (k : Nat)  (hk : d.2.2.2.2.2.2[k]? = some (pc, .aconst_null, 1))  (kk : V l d B fr lo kc ks Z (pc + 1) lv (.null :: st) σ) : V l d B fr lo kc ks Z (pc) lv (st) σ := by
  intro p e R s m args below meth c D cA A n0 ad0 mc ms hC h1 h2 h3 ad H locs cells slots ls h4 h5 hD
  exact lv_null hC.1.1 hC.1.2 (hC.dec hk)  (kk p e R s m args below meth c D cA A n0 ad0 mc ms hC h1 h2 h3 ad H locs cells slots ls h4 h5 hD)
theorem V_iadd (k : Nat) {x y : Int32} (hk : d.2.2.2.2.2.2[k]? = some (pc, .iadd, 1))  (kk : V l d B fr lo kc ks Z (pc + 1) lv (.int (x + y) :: st) σ) : V l d B fr lo kc ks Z (pc) lv (.int y :: .int x :: st) σ := by
  intro p e R s m args below meth c D cA A n0 ad0 mc ms hC h1 h2 h3 ad H locs cells slots ls h4 h5 hD
  exact lv_iadd hC.1.1 hC.1.2 (hC.dec hk)  (kk p e R s m args below meth c D cA A n0 ad0 mc ms hC h1 h2 h3 ad H locs cells slots ls h4 h5 hD)
theorem V_isub (k : Nat) {x y : Int32} (hk : d.2.2.2.2.2.2[k]? = some (pc, .isub, 1))  (kk : V l d B fr lo kc ks Z (pc + 1) lv (.int (x - y) :: st) σ) : V l d B fr lo kc ks Z (pc) lv (.int y :: .int x :: st) σ := by
  intro p e R s m args below meth c D cA A n0 ad0 mc ms hC h1 h2 h3 ad H locs cells slots ls h4 h5 hD
  exact lv_isub hC.1.1 hC.1.2 (hC.dec hk)  (kk p e R s m args below meth c D cA A n0 ad0 mc ms hC h1 h2 h3 ad H locs cells slots ls h4 h5 hD)
theorem V_imul (k : Nat) {x y : Int32} (hk : d.2.2.2.2.2.2[k]? = some (pc, .imul, 1))  (kk : V l d B fr lo kc ks Z (pc + 1) lv (.int (x * y) :: st) σ) : V l d B fr lo kc ks Z (pc) lv (.int y :: .int x :: st) σ := by
  intro p e R s m args below meth c D cA A n0 ad0 mc ms hC h1 h2 h3 ad H locs cells slots ls h4 h5 hD
  exact lv_imul hC.1.1 hC.1.2 (hC.dec hk)  (kk p e R s m args below meth c D cA A n0 ad0 mc ms hC h1 h2 h3 ad H locs cells slots ls h4 h5 hD)
theorem V_iand (k : Nat) {x y : Int32} (hk : d.2.2.2.2.2.2[k]? = some (pc, .iand, 1))  (kk : V l d B fr lo kc ks Z (pc + 1) lv (.int (x &&& y) :: st) σ) : V l d B fr lo kc ks Z (pc) lv (.int y :: .int x :: st) σ := by
  intro p e R s m args below meth c D cA A n0 ad0 mc ms hC h1 h2 h3 ad H locs cells slots ls h4 h5 hD
  exact lv_iand hC.1.1 hC.1.2 (hC.dec hk)  (kk p e R s m args below meth c D cA A n0 ad0 mc ms hC h1 h2 h3 ad H locs cells slots ls h4 h5 hD)
theorem V_ior (k : Nat) {x y : Int32} (hk : d.2.2.2.2.2.2[k]? = some (pc, .ior, 1))  (kk : V l d B fr lo kc ks Z (pc + 1) lv (.int (x ||| y) :: st) σ) : V l d B fr lo kc ks Z (pc) lv (.int y :: .int x :: st) σ := by
  intro p e R s m args below meth c D cA A n0 ad0 mc ms hC h1 h2 h3 ad H locs cells slots ls h4 h5 hD
  exact lv_ior hC.1.1 hC.1.2 (hC.dec hk)  (kk p e R s m args below meth c D cA A n0 ad0 mc ms hC h1 h2 h3 ad H locs cells slots ls h4 h5 hD)
theorem V_ixor (k : Nat) {x y : Int32} (hk : d.2.2.2.2.2.2[k]? = some (pc, .ixor, 1))  (kk : V l d B fr lo kc ks Z (pc + 1) lv (.int (x ^^^ y) :: st) σ) : V l d B fr lo kc ks Z (pc) lv (.int y :: .int x :: st) σ := by
  intro p e R s m args below meth c D cA A n0 ad0 mc ms hC h1 h2 h3 ad H locs cells slots ls h4 h5 hD
  exact lv_ixor hC.1.1 hC.1.2 (hC.dec hk)  (kk p e R s m args below meth c D cA A n0 ad0 mc ms hC h1 h2 h3 ad H locs cells slots ls h4 h5 hD)
theorem V_ladd (k : Nat) {x y : Int64} (hk : d.2.2.2.2.2.2[k]? = some (pc, .ladd, 1))  (kk : V l d B fr lo kc ks Z (pc + 1) lv (.long (x + y) :: st) σ) : V l d B fr lo kc ks Z (pc) lv (.long y :: .long x :: st) σ := by
  intro p e R s m args below meth c D cA A n0 ad0 mc ms hC h1 h2 h3 ad H locs cells slots ls h4 h5 hD
  exact lv_ladd hC.1.1 hC.1.2 (hC.dec hk)  (kk p e R s m args below meth c D cA A n0 ad0 mc ms hC h1 h2 h3 ad H locs cells slots ls h4 h5 hD)
theorem V_lsub (k : Nat) {x y : Int64} (hk : d.2.2.2.2.2.2[k]? = some (pc, .lsub, 1))  (kk : V l d B fr lo kc ks Z (pc + 1) lv (.long (x - y) :: st) σ) : V l d B fr lo kc ks Z (pc) lv (.long y :: .long x :: st) σ := by
  intro p e R s m args below meth c D cA A n0 ad0 mc ms hC h1 h2 h3 ad H locs cells slots ls h4 h5 hD
  exact lv_lsub hC.1.1 hC.1.2 (hC.dec hk)  (kk p e R s m args below meth c D cA A n0 ad0 mc ms hC h1 h2 h3 ad H locs cells slots ls h4 h5 hD)
theorem V_lmul (k : Nat) {x y : Int64} (hk : d.2.2.2.2.2.2[k]? = some (pc, .lmul, 1))  (kk : V l d B fr lo kc ks Z (pc + 1) lv (.long (x * y) :: st) σ) : V l d B fr lo kc ks Z (pc) lv (.long y :: .long x :: st) σ := by
  intro p e R s m args below meth c D cA A n0 ad0 mc ms hC h1 h2 h3 ad H locs cells slots ls h4 h5 hD
  exact lv_lmul hC.1.1 hC.1.2 (hC.dec hk)  (kk p e R s m args below meth c D cA A n0 ad0 mc ms hC h1 h2 h3 ad H locs cells slots ls h4 h5 hD)
theorem V_land (k : Nat) {x y : Int64} (hk : d.2.2.2.2.2.2[k]? = some (pc, .land, 1))  (kk : V l d B fr lo kc ks Z (pc + 1) lv (.long (x &&& y) :: st) σ) : V l d B fr lo kc ks Z (pc) lv (.long y :: .long x :: st) σ := by
  intro p e R s m args below meth c D cA A n0 ad0 mc ms hC h1 h2 h3 ad H locs cells slots ls h4 h5 hD
  exact lv_land hC.1.1 hC.1.2 (hC.dec hk)  (kk p e R s m args below meth c D cA A n0 ad0 mc ms hC h1 h2 h3 ad H locs cells slots ls h4 h5 hD)
theorem V_lor (k : Nat) {x y : Int64} (hk : d.2.2.2.2.2.2[k]? = some (pc, .lor, 1))  (kk : V l d B fr lo kc ks Z (pc + 1) lv (.long (x ||| y) :: st) σ) : V l d B fr lo kc ks Z (pc) lv (.long y :: .long x :: st) σ := by
  intro p e R s m args below meth c D cA A n0 ad0 mc ms hC h1 h2 h3 ad H locs cells slots ls h4 h5 hD
  exact lv_lor hC.1.1 hC.1.2 (hC.dec hk)  (kk p e R s m args below meth c D cA A n0 ad0 mc ms hC h1 h2 h3 ad H locs cells slots ls h4 h5 hD)
theorem V_lxor (k : Nat) {x y : Int64} (hk : d.2.2.2.2.2.2[k]? = some (pc, .lxor, 1))  (kk : V l d B fr lo kc ks Z (pc + 1) lv (.long (x ^^^ y) :: st) σ) : V l d B fr lo kc ks Z (pc) lv (.long y :: .long x :: st) σ := by
  intro p e R s m args below meth c D cA A n0 ad0 mc ms hC h1 h2 h3 ad H locs cells slots ls h4 h5 hD
  exact lv_lxor hC.1.1 hC.1.2 (hC.dec hk)  (kk p e R s m args below meth c D cA A n0 ad0 mc ms hC h1 h2 h3 ad H locs cells slots ls h4 h5 hD)
theorem V_idiv (k : Nat) {x y : Int32} (hk : d.2.2.2.2.2.2[k]? = some (pc, .idiv, 1)) (hne : ¬ y = 0) (kk : V l d B fr lo kc ks Z (pc + 1) lv (.int (x / y) :: st) σ) : V l d B fr lo kc ks Z (pc) lv (.int y :: .int x :: st) σ := by
  intro p e R s m args below meth c D cA A n0 ad0 mc ms hC h1 h2 h3 ad H locs cells slots ls h4 h5 hD
  exact lv_idiv hC.1.1 hC.1.2 (hC.dec hk) hne (kk p e R s m args below meth c D cA A n0 ad0 mc ms hC h1 h2 h3 ad H locs cells slots ls h4 h5 hD)
theorem V_irem (k : Nat) {x y : Int32} (hk : d.2.2.2.2.2.2[k]? = some (pc, .irem, 1)) (hne : ¬ y = 0) (kk : V l d B fr lo kc ks Z (pc + 1) lv (.int (x - x / y * y) :: st) σ) : V l d B fr lo kc ks Z (pc) lv (.int y :: .int x :: st) σ := by
  intro p e R s m args below meth c D cA A n0 ad0 mc ms hC h1 h2 h3 ad H locs cells slots ls h4 h5 hD
  exact lv_irem hC.1.1 hC.1.2 (hC.dec hk) hne (kk p e R s m args below meth c D cA A n0 ad0 mc ms hC h1 h2 h3 ad H locs cells slots ls h4 h5 hD)
theorem V_ldiv (k : Nat) {x y : Int64} (hk : d.2.2.2.2.2.2[k]? = some (pc, .ldiv, 1)) (hne : ¬ y = 0) (kk : V l d B fr lo kc ks Z (pc + 1) lv (.long (x / y) :: st) σ) : V l d B fr lo kc ks Z (pc) lv (.long y :: .long x :: st) σ := by
  intro p e R s m args below meth c D cA A n0 ad0 mc ms hC h1 h2 h3 ad H locs cells slots ls h4 h5 hD
  exact lv_ldiv hC.1.1 hC.1.2 (hC.dec hk) hne (kk p e R s m args below meth c D cA A n0 ad0 mc ms hC h1 h2 h3 ad H locs cells slots ls h4 h5 hD)
theorem V_ineg (k : Nat) {x : Int32} (hk : d.2.2.2.2.2.2[k]? = some (pc, .ineg, 1))  (kk : V l d B fr lo kc ks Z (pc + 1) lv (.int (-x) :: st) σ) : V l d B fr lo kc ks Z (pc) lv (.int x :: st) σ := by
  intro p e R s m args below meth c D cA A n0 ad0 mc ms hC h1 h2 h3 ad H locs cells slots ls h4 h5 hD
  exact lv_ineg hC.1.1 hC.1.2 (hC.dec hk)  (kk p e R s m args below meth c D cA A n0 ad0 mc ms hC h1 h2 h3 ad H locs cells slots ls h4 h5 hD)
theorem V_lneg (k : Nat) {x : Int64} (hk : d.2.2.2.2.2.2[k]? = some (pc, .lneg, 1))  (kk : V l d B fr lo kc ks Z (pc + 1) lv (.long (-x) :: st) σ) : V l d B fr lo kc ks Z (pc) lv (.long x :: st) σ := by
  intro p e R s m args below meth c D cA A n0 ad0 mc ms hC h1 h2 h3 ad H locs cells slots ls h4 h5 hD
  exact lv_lneg hC.1.1 hC.1.2 (hC.dec hk)  (kk p e R s m args below meth c D cA A n0 ad0 mc ms hC h1 h2 h3 ad H locs cells slots ls h4 h5 hD)
theorem V_ishl (k : Nat) {x y : Int32} (hk : d.2.2.2.2.2.2[k]? = some (pc, .ishl, 1))  (kk : V l d B fr lo kc ks Z (pc + 1) lv (.int (x <<< (y &&& 31)) :: st) σ) : V l d B fr lo kc ks Z (pc) lv (.int y :: .int x :: st) σ := by
  intro p e R s m args below meth c D cA A n0 ad0 mc ms hC h1 h2 h3 ad H locs cells slots ls h4 h5 hD
  exact lv_ishl hC.1.1 hC.1.2 (hC.dec hk)  (kk p e R s m args below meth c D cA A n0 ad0 mc ms hC h1 h2 h3 ad H locs cells slots ls h4 h5 hD)
theorem V_ishr (k : Nat) {x y : Int32} (hk : d.2.2.2.2.2.2[k]? = some (pc, .ishr, 1))  (kk : V l d B fr lo kc ks Z (pc + 1) lv (.int (x >>> (y &&& 31)) :: st) σ) : V l d B fr lo kc ks Z (pc) lv (.int y :: .int x :: st) σ := by
  intro p e R s m args below meth c D cA A n0 ad0 mc ms hC h1 h2 h3 ad H locs cells slots ls h4 h5 hD
  exact lv_ishr hC.1.1 hC.1.2 (hC.dec hk)  (kk p e R s m args below meth c D cA A n0 ad0 mc ms hC h1 h2 h3 ad H locs cells slots ls h4 h5 hD)
theorem V_iushr (k : Nat) {x y : Int32} (hk : d.2.2.2.2.2.2[k]? = some (pc, .iushr, 1))  (kk : V l d B fr lo kc ks Z (pc + 1) lv (.int ((x.toUInt32 >>> (y.toUInt32 &&& Int32.toUInt32 31)).toInt32) :: st) σ) : V l d B fr lo kc ks Z (pc) lv (.int y :: .int x :: st) σ := by
  intro p e R s m args below meth c D cA A n0 ad0 mc ms hC h1 h2 h3 ad H locs cells slots ls h4 h5 hD
  exact lv_iushr hC.1.1 hC.1.2 (hC.dec hk) rfl (kk p e R s m args below meth c D cA A n0 ad0 mc ms hC h1 h2 h3 ad H locs cells slots ls h4 h5 hD)
theorem V_lshl (k : Nat) {x : Int64} {y : Int32} (hk : d.2.2.2.2.2.2[k]? = some (pc, .lshl, 1))  (kk : V l d B fr lo kc ks Z (pc + 1) lv (.long (x <<< (y.toInt64 &&& 63)) :: st) σ) : V l d B fr lo kc ks Z (pc) lv (.int y :: .long x :: st) σ := by
  intro p e R s m args below meth c D cA A n0 ad0 mc ms hC h1 h2 h3 ad H locs cells slots ls h4 h5 hD
  exact lv_lshl hC.1.1 hC.1.2 (hC.dec hk) rfl (kk p e R s m args below meth c D cA A n0 ad0 mc ms hC h1 h2 h3 ad H locs cells slots ls h4 h5 hD)
theorem V_lshr (k : Nat) {x : Int64} {y : Int32} (hk : d.2.2.2.2.2.2[k]? = some (pc, .lshr, 1))  (kk : V l d B fr lo kc ks Z (pc + 1) lv (.long (x >>> (y.toInt64 &&& 63)) :: st) σ) : V l d B fr lo kc ks Z (pc) lv (.int y :: .long x :: st) σ := by
  intro p e R s m args below meth c D cA A n0 ad0 mc ms hC h1 h2 h3 ad H locs cells slots ls h4 h5 hD
  exact lv_lshr hC.1.1 hC.1.2 (hC.dec hk) rfl (kk p e R s m args below meth c D cA A n0 ad0 mc ms hC h1 h2 h3 ad H locs cells slots ls h4 h5 hD)
theorem V_i2l (k : Nat) {x : Int32} (hk : d.2.2.2.2.2.2[k]? = some (pc, .i2l, 1))  (kk : V l d B fr lo kc ks Z (pc + 1) lv (.long x.toInt64 :: st) σ) : V l d B fr lo kc ks Z (pc) lv (.int x :: st) σ := by
  intro p e R s m args below meth c D cA A n0 ad0 mc ms hC h1 h2 h3 ad H locs cells slots ls h4 h5 hD
  exact lv_i2l hC.1.1 hC.1.2 (hC.dec hk) rfl (kk p e R s m args below meth c D cA A n0 ad0 mc ms hC h1 h2 h3 ad H locs cells slots ls h4 h5 hD)
theorem V_l2i (k : Nat) {x : Int64} (hk : d.2.2.2.2.2.2[k]? = some (pc, .l2i, 1))  (kk : V l d B fr lo kc ks Z (pc + 1) lv (.int x.toInt32 :: st) σ) : V l d B fr lo kc ks Z (pc) lv (.long x :: st) σ := by
  intro p e R s m args below meth c D cA A n0 ad0 mc ms hC h1 h2 h3 ad H locs cells slots ls h4 h5 hD
  exact lv_l2i hC.1.1 hC.1.2 (hC.dec hk) rfl (kk p e R s m args below meth c D cA A n0 ad0 mc ms hC h1 h2 h3 ad H locs cells slots ls h4 h5 hD)
theorem V_i2c (k : Nat) {x : Int32} (hk : d.2.2.2.2.2.2[k]? = some (pc, .i2c, 1))  (kk : V l d B fr lo kc ks Z (pc + 1) lv (.int (x.toUInt32 % 65536).toInt32 :: st) σ) : V l d B fr lo kc ks Z (pc) lv (.int x :: st) σ := by
  intro p e R s m args below meth c D cA A n0 ad0 mc ms hC h1 h2 h3 ad H locs cells slots ls h4 h5 hD
  exact lv_i2c hC.1.1 hC.1.2 (hC.dec hk) rfl (kk p e R s m args below meth c D cA A n0 ad0 mc ms hC h1 h2 h3 ad H locs cells slots ls h4 h5 hD)
theorem V_lcmp (k : Nat) {x y : Int64} (hk : d.2.2.2.2.2.2[k]? = some (pc, .lcmp, 1))  (kk : V l d B fr lo kc ks Z (pc + 1) lv (.int (lg_cmp x y) :: st) σ) : V l d B fr lo kc ks Z (pc) lv (.long y :: .long x :: st) σ := by
  intro p e R s m args below meth c D cA A n0 ad0 mc ms hC h1 h2 h3 ad H locs cells slots ls h4 h5 hD
  exact W.lcmp hC.1.1 hC.1.2 (hC.dec hk)  (kk p e R s m args below meth c D cA A n0 ad0 mc ms hC h1 h2 h3 ad H locs cells slots ls h4 h5 hD)
theorem V_dup (k : Nat) {v : Value} (hk : d.2.2.2.2.2.2[k]? = some (pc, .dup, 1)) (hv : v.category = 1) (kk : V l d B fr lo kc ks Z (pc + 1) lv (v :: v :: st) σ) : V l d B fr lo kc ks Z (pc) lv (v :: st) σ := by
  intro p e R s m args below meth c D cA A n0 ad0 mc ms hC h1 h2 h3 ad H locs cells slots ls h4 h5 hD
  exact lv_dup hC.1.1 hC.1.2 (hC.dec hk) ((ab_cat ad v).trans hv) (kk p e R s m args below meth c D cA A n0 ad0 mc ms hC h1 h2 h3 ad H locs cells slots ls h4 h5 hD)
theorem V_pop (k : Nat) {v : Value} (hk : d.2.2.2.2.2.2[k]? = some (pc, .pop, 1)) (hv : v.category = 1) (kk : V l d B fr lo kc ks Z (pc + 1) lv (st) σ) : V l d B fr lo kc ks Z (pc) lv (v :: st) σ := by
  intro p e R s m args below meth c D cA A n0 ad0 mc ms hC h1 h2 h3 ad H locs cells slots ls h4 h5 hD
  exact lv_pop hC.1.1 hC.1.2 (hC.dec hk) ((ab_cat ad v).trans hv) (kk p e R s m args below meth c D cA A n0 ad0 mc ms hC h1 h2 h3 ad H locs cells slots ls h4 h5 hD)
theorem V_dup_x1 (k : Nat) {v w : Value} (hk : d.2.2.2.2.2.2[k]? = some (pc, .dup_x1, 1)) (hv : v.category = 1) (hw : w.category = 1) (kk : V l d B fr lo kc ks Z (pc + 1) lv (v :: w :: v :: st) σ) : V l d B fr lo kc ks Z (pc) lv (v :: w :: st) σ := by
  intro p e R s m args below meth c D cA A n0 ad0 mc ms hC h1 h2 h3 ad H locs cells slots ls h4 h5 hD
  exact lv_dup_x1 hC.1.1 hC.1.2 (hC.dec hk) ((ab_cat ad v).trans hv) ((ab_cat ad w).trans hw) (kk p e R s m args below meth c D cA A n0 ad0 mc ms hC h1 h2 h3 ad H locs cells slots ls h4 h5 hD)
theorem V_dup_x2 (k : Nat) {v w u : Value} (hk : d.2.2.2.2.2.2[k]? = some (pc, .dup_x2, 1)) (hv : v.category = 1) (hw : w.category = 1) (hu : u.category = 1) (kk : V l d B fr lo kc ks Z (pc + 1) lv (v :: w :: u :: v :: st) σ) : V l d B fr lo kc ks Z (pc) lv (v :: w :: u :: st) σ := by
  intro p e R s m args below meth c D cA A n0 ad0 mc ms hC h1 h2 h3 ad H locs cells slots ls h4 h5 hD
  exact lv_dup_x2 hC.1.1 hC.1.2 (hC.dec hk) ((ab_cat ad v).trans hv) ((ab_cat ad w).trans hw) ((ab_cat ad u).trans hu) (kk p e R s m args below meth c D cA A n0 ad0 mc ms hC h1 h2 h3 ad H locs cells slots ls h4 h5 hD)
theorem V_dup2 (k : Nat) {v w : Value} (hk : d.2.2.2.2.2.2[k]? = some (pc, .dup2, 1)) (hv : v.category = 1) (hw : w.category = 1) (kk : V l d B fr lo kc ks Z (pc + 1) lv (v :: w :: v :: w :: st) σ) : V l d B fr lo kc ks Z (pc) lv (v :: w :: st) σ := by
  intro p e R s m args below meth c D cA A n0 ad0 mc ms hC h1 h2 h3 ad H locs cells slots ls h4 h5 hD
  exact lv_dup2_11 hC.1.1 hC.1.2 (hC.dec hk) ((ab_cat ad v).trans hv) ((ab_cat ad w).trans hw) (kk p e R s m args below meth c D cA A n0 ad0 mc ms hC h1 h2 h3 ad H locs cells slots ls h4 h5 hD)
theorem V_dup2_2 (k : Nat) {v : Value} (hk : d.2.2.2.2.2.2[k]? = some (pc, .dup2, 1)) (hv : v.category = 2) (kk : V l d B fr lo kc ks Z (pc + 1) lv (v :: v :: st) σ) : V l d B fr lo kc ks Z (pc) lv (v :: st) σ := by
  intro p e R s m args below meth c D cA A n0 ad0 mc ms hC h1 h2 h3 ad H locs cells slots ls h4 h5 hD
  exact lv_dup2_2 hC.1.1 hC.1.2 (hC.dec hk) ((ab_cat ad v).trans hv) (kk p e R s m args below meth c D cA A n0 ad0 mc ms hC h1 h2 h3 ad H locs cells slots ls h4 h5 hD)
theorem V_dup2_x1 (k : Nat) {v w : Value} (hk : d.2.2.2.2.2.2[k]? = some (pc, .dup2_x1, 1)) (hv : v.category = 2) (hw : w.category = 1) (kk : V l d B fr lo kc ks Z (pc + 1) lv (v :: w :: v :: st) σ) : V l d B fr lo kc ks Z (pc) lv (v :: w :: st) σ := by
  intro p e R s m args below meth c D cA A n0 ad0 mc ms hC h1 h2 h3 ad H locs cells slots ls h4 h5 hD
  exact lv_dup2_x1_2 hC.1.1 hC.1.2 (hC.dec hk) ((ab_cat ad v).trans hv) ((ab_cat ad w).trans hw) (kk p e R s m args below meth c D cA A n0 ad0 mc ms hC h1 h2 h3 ad H locs cells slots ls h4 h5 hD)
theorem V_ldc (k : Nat) {i : Nat} {v : Int32} (hk : d.2.2.2.2.2.2[k]? = some (pc, .ldc i, 2)) (hw : Cond.constant d.1 i v ∈ gw) (kk : V l d B fr lo kc ks Z (pc + 2) lv (.int v :: st) σ) : V l d B fr lo kc ks Z (pc) lv (st) σ := by
  intro p e R s m args below meth c D cA A n0 ad0 mc ms hC h1 h2 h3 ad H locs cells slots ls h4 h5 hD
  exact lv_ldc hC.1.1 hC.1.2 hC.2.2.1.1 (hC.2.2.1.2 _ hw) (hC.dec hk) (kk p e R s m args below meth c D cA A n0 ad0 mc ms hC h1 h2 h3 ad H locs cells slots ls h4 h5 hD)
theorem V_ldc_w (k : Nat) {i : Nat} {v : Int32} (hk : d.2.2.2.2.2.2[k]? = some (pc, .ldc_w i, 3)) (hw : Cond.constant d.1 i v ∈ gw) (kk : V l d B fr lo kc ks Z (pc + 3) lv (.int v :: st) σ) : V l d B fr lo kc ks Z (pc) lv (st) σ := by
  intro p e R s m args below meth c D cA A n0 ad0 mc ms hC h1 h2 h3 ad H locs cells slots ls h4 h5 hD
  exact lv_ldcw hC.1.1 hC.1.2 hC.2.2.1.1 (hC.2.2.1.2 _ hw) (hC.dec hk) (kk p e R s m args below meth c D cA A n0 ad0 mc ms hC h1 h2 h3 ad H locs cells slots ls h4 h5 hD)
theorem V_ldc2 (k : Nat) {i : Nat} {v : Int64} (hk : d.2.2.2.2.2.2[k]? = some (pc, .ldc2_w i, 3)) (hw : Cond.constantLong d.1 i v ∈ gw) (kk : V l d B fr lo kc ks Z (pc + 3) lv (.long v :: st) σ) : V l d B fr lo kc ks Z (pc) lv (st) σ := by
  intro p e R s m args below meth c D cA A n0 ad0 mc ms hC h1 h2 h3 ad H locs cells slots ls h4 h5 hD
  exact lv_ldc2 hC.1.1 hC.1.2 hC.2.2.1.1 (hC.2.2.1.2 _ hw) (hC.dec hk) (kk p e R s m args below meth c D cA A n0 ad0 mc ms hC h1 h2 h3 ad H locs cells slots ls h4 h5 hD)
theorem ab_lv_at {ad : Nat → Nat} {ls : Array Slot} {nL : Nat} (h : lv_has ls nL (ab_lv ad lv)) (j : Nat) {i : Nat} {v : Value} (hj : lv[j]? = some (i, v)) : ls[i]? = some (.val (ab_v ad v)) :=
  lv_at h j (by simp [ab_lv, hj])
def ab_set1 (lv : List (Nat × Value)) (i : Nat) (v : Value) : List (Nat × Value) := (i, v) :: lv.filter (fun q => !(q.1 == i) && !(q.1 + 1 == i && q.2.category == 2))
def ab_set2 (lv : List (Nat × Value)) (i : Nat) (v : Value) : List (Nat × Value) := (i, v) :: lv.filter (fun q => !(q.1 == i) && (!(q.1 == i + 1) && !(q.1 + 1 == i && q.2.category == 2)))
theorem ab_lv_set1 (ad : Nat → Nat) (i : Nat) (v : Value) : (i, ab_v ad v) :: (ab_lv ad lv).filter (fun q => !(q.1 == i) && !(q.1 + 1 == i && q.2.category == 2)) = ab_lv ad (ab_set1 lv i v) := by
  simp only [ab_set1, ab_lv, List.map_cons, List.filter_map]
  congr 2
  apply List.filter_congr
  intro q _
  simp [ab_cat]
theorem ab_lv_set2 (ad : Nat → Nat) (i : Nat) (v : Value) : (i, ab_v ad v) :: (ab_lv ad lv).filter (fun q => !(q.1 == i) && (!(q.1 == i + 1) && !(q.1 + 1 == i && q.2.category == 2))) = ab_lv ad (ab_set2 lv i v) := by
  simp only [ab_set2, ab_lv, List.map_cons, List.filter_map]
  congr 2
  apply List.filter_congr
  intro q _
  simp [ab_cat]
theorem V_iload_n (k j : Nat) {n : Fin 4} {i : Nat} {x : Int32} (hk : d.2.2.2.2.2.2[k]? = some (pc, .iload_n n, 1)) (hi : (n : Nat) = i) (hj : lv[j]? = some (i, .int x)) (kk : V l d B fr lo kc ks Z (pc + 1) lv (.int x :: st) σ) : V l d B fr lo kc ks Z (pc) lv (st) σ := by
  intro p e R s m args below meth c D cA A n0 ad0 mc ms hC h1 h2 h3 ad H locs cells slots ls h4 h5 hD
  exact lv_iload_n hC.1.1 hC.1.2 (hC.dec hk) hi (ab_lv_at hD.2.2.2.2 j hj) (kk p e R s m args below meth c D cA A n0 ad0 mc ms hC h1 h2 h3 ad H locs cells slots ls h4 h5 hD)
theorem V_iload (k j : Nat) {i : Nat} {x : Int32} (hk : d.2.2.2.2.2.2[k]? = some (pc, .iload i, 2)) (hj : lv[j]? = some (i, .int x)) (kk : V l d B fr lo kc ks Z (pc + 2) lv (.int x :: st) σ) : V l d B fr lo kc ks Z (pc) lv (st) σ := by
  intro p e R s m args below meth c D cA A n0 ad0 mc ms hC h1 h2 h3 ad H locs cells slots ls h4 h5 hD
  exact lv_iload hC.1.1 hC.1.2 (hC.dec hk) (ab_lv_at hD.2.2.2.2 j hj) (kk p e R s m args below meth c D cA A n0 ad0 mc ms hC h1 h2 h3 ad H locs cells slots ls h4 h5 hD)
theorem V_istore_n (k : Nat) {n : Fin 4} {i : Nat} {x : Int32} {lv' : List (Nat × Value)} (hk : d.2.2.2.2.2.2[k]? = some (pc, .istore_n n, 1)) (hi : (n : Nat) = i) (hn : i < d.2.2.2.1) (hl : ab_set1 lv i (.int x) = lv') (kk : V l d B fr lo kc ks Z (pc + 1) lv' (st) σ) : V l d B fr lo kc ks Z (pc) lv (.int x :: st) σ := by
  intro p e R s m args below meth c D cA A n0 ad0 mc ms hC h1 h2 h3 ad H locs cells slots ls h4 h5 hD
  exact lv_istore_n hC.1.1 hC.1.2 (hC.dec hk) hi hD.2.2.2.2 hn ((ab_lv_set1 ad i (.int x)).trans (congrArg _ hl)) (fun ls' hl' => kk p e R s m args below meth c D cA A n0 ad0 mc ms hC h1 h2 h3 ad H locs cells slots ls' h4 h5 ⟨hD.1, hD.2.1, hD.2.2.1, hD.2.2.2.1, hl'⟩)
theorem V_istore (k : Nat) {i : Nat} {x : Int32} {lv' : List (Nat × Value)} (hk : d.2.2.2.2.2.2[k]? = some (pc, .istore i, 2)) (hn : i < d.2.2.2.1) (hl : ab_set1 lv i (.int x) = lv') (kk : V l d B fr lo kc ks Z (pc + 2) lv' (st) σ) : V l d B fr lo kc ks Z (pc) lv (.int x :: st) σ := by
  intro p e R s m args below meth c D cA A n0 ad0 mc ms hC h1 h2 h3 ad H locs cells slots ls h4 h5 hD
  exact lv_istore hC.1.1 hC.1.2 (hC.dec hk) hD.2.2.2.2 hn ((ab_lv_set1 ad i (.int x)).trans (congrArg _ hl)) (fun ls' hl' => kk p e R s m args below meth c D cA A n0 ad0 mc ms hC h1 h2 h3 ad H locs cells slots ls' h4 h5 ⟨hD.1, hD.2.1, hD.2.2.1, hD.2.2.2.1, hl'⟩)
theorem V_lload_n (k j : Nat) {n : Fin 4} {i : Nat} {x : Int64} (hk : d.2.2.2.2.2.2[k]? = some (pc, .lload_n n, 1)) (hi : (n : Nat) = i) (hj : lv[j]? = some (i, .long x)) (kk : V l d B fr lo kc ks Z (pc + 1) lv (.long x :: st) σ) : V l d B fr lo kc ks Z (pc) lv (st) σ := by
  intro p e R s m args below meth c D cA A n0 ad0 mc ms hC h1 h2 h3 ad H locs cells slots ls h4 h5 hD
  exact lv_lload_n hC.1.1 hC.1.2 (hC.dec hk) hi (ab_lv_at hD.2.2.2.2 j hj) (kk p e R s m args below meth c D cA A n0 ad0 mc ms hC h1 h2 h3 ad H locs cells slots ls h4 h5 hD)
theorem V_lload (k j : Nat) {i : Nat} {x : Int64} (hk : d.2.2.2.2.2.2[k]? = some (pc, .lload i, 2)) (hj : lv[j]? = some (i, .long x)) (kk : V l d B fr lo kc ks Z (pc + 2) lv (.long x :: st) σ) : V l d B fr lo kc ks Z (pc) lv (st) σ := by
  intro p e R s m args below meth c D cA A n0 ad0 mc ms hC h1 h2 h3 ad H locs cells slots ls h4 h5 hD
  exact lv_lload hC.1.1 hC.1.2 (hC.dec hk) (ab_lv_at hD.2.2.2.2 j hj) (kk p e R s m args below meth c D cA A n0 ad0 mc ms hC h1 h2 h3 ad H locs cells slots ls h4 h5 hD)
theorem V_lstore_n (k : Nat) {n : Fin 4} {i : Nat} {x : Int64} {lv' : List (Nat × Value)} (hk : d.2.2.2.2.2.2[k]? = some (pc, .lstore_n n, 1)) (hi : (n : Nat) = i) (hn : i + 1 < d.2.2.2.1) (hl : ab_set2 lv i (.long x) = lv') (kk : V l d B fr lo kc ks Z (pc + 1) lv' (st) σ) : V l d B fr lo kc ks Z (pc) lv (.long x :: st) σ := by
  intro p e R s m args below meth c D cA A n0 ad0 mc ms hC h1 h2 h3 ad H locs cells slots ls h4 h5 hD
  exact lv_lstore_n hC.1.1 hC.1.2 (hC.dec hk) hi hD.2.2.2.2 hn ((ab_lv_set2 ad i (.long x)).trans (congrArg _ hl)) (fun ls' hl' => kk p e R s m args below meth c D cA A n0 ad0 mc ms hC h1 h2 h3 ad H locs cells slots ls' h4 h5 ⟨hD.1, hD.2.1, hD.2.2.1, hD.2.2.2.1, hl'⟩)
theorem V_lstore (k : Nat) {i : Nat} {x : Int64} {lv' : List (Nat × Value)} (hk : d.2.2.2.2.2.2[k]? = some (pc, .lstore i, 2)) (hn : i + 1 < d.2.2.2.1) (hl : ab_set2 lv i (.long x) = lv') (kk : V l d B fr lo kc ks Z (pc + 2) lv' (st) σ) : V l d B fr lo kc ks Z (pc) lv (.long x :: st) σ := by
  intro p e R s m args below meth c D cA A n0 ad0 mc ms hC h1 h2 h3 ad H locs cells slots ls h4 h5 hD
  exact lv_lstore hC.1.1 hC.1.2 (hC.dec hk) hD.2.2.2.2 hn ((ab_lv_set2 ad i (.long x)).trans (congrArg _ hl)) (fun ls' hl' => kk p e R s m args below meth c D cA A n0 ad0 mc ms hC h1 h2 h3 ad H locs cells slots ls' h4 h5 ⟨hD.1, hD.2.1, hD.2.2.1, hD.2.2.2.1, hl'⟩)
theorem V_aload_n (k j : Nat) {n : Fin 4} {i : Nat} {x : Nat} (hk : d.2.2.2.2.2.2[k]? = some (pc, .aload_n n, 1)) (hi : (n : Nat) = i) (hj : lv[j]? = some (i, .ref x)) (kk : V l d B fr lo kc ks Z (pc + 1) lv (.ref x :: st) σ) : V l d B fr lo kc ks Z (pc) lv (st) σ := by
  intro p e R s m args below meth c D cA A n0 ad0 mc ms hC h1 h2 h3 ad H locs cells slots ls h4 h5 hD
  exact lv_aload_n hC.1.1 hC.1.2 (hC.dec hk) hi (ab_lv_at hD.2.2.2.2 j hj) (kk p e R s m args below meth c D cA A n0 ad0 mc ms hC h1 h2 h3 ad H locs cells slots ls h4 h5 hD)
theorem V_aload (k j : Nat) {i : Nat} {x : Nat} (hk : d.2.2.2.2.2.2[k]? = some (pc, .aload i, 2)) (hj : lv[j]? = some (i, .ref x)) (kk : V l d B fr lo kc ks Z (pc + 2) lv (.ref x :: st) σ) : V l d B fr lo kc ks Z (pc) lv (st) σ := by
  intro p e R s m args below meth c D cA A n0 ad0 mc ms hC h1 h2 h3 ad H locs cells slots ls h4 h5 hD
  exact lv_aload hC.1.1 hC.1.2 (hC.dec hk) (ab_lv_at hD.2.2.2.2 j hj) (kk p e R s m args below meth c D cA A n0 ad0 mc ms hC h1 h2 h3 ad H locs cells slots ls h4 h5 hD)
theorem V_astore_n (k : Nat) {n : Fin 4} {i : Nat} {x : Nat} {lv' : List (Nat × Value)} (hk : d.2.2.2.2.2.2[k]? = some (pc, .astore_n n, 1)) (hi : (n : Nat) = i) (hn : i < d.2.2.2.1) (hl : ab_set1 lv i (.ref x) = lv') (kk : V l d B fr lo kc ks Z (pc + 1) lv' (st) σ) : V l d B fr lo kc ks Z (pc) lv (.ref x :: st) σ := by
  intro p e R s m args below meth c D cA A n0 ad0 mc ms hC h1 h2 h3 ad H locs cells slots ls h4 h5 hD
  exact lv_astore_n hC.1.1 hC.1.2 (hC.dec hk) hi hD.2.2.2.2 hn ((ab_lv_set1 ad i (.ref x)).trans (congrArg _ hl)) (fun ls' hl' => kk p e R s m args below meth c D cA A n0 ad0 mc ms hC h1 h2 h3 ad H locs cells slots ls' h4 h5 ⟨hD.1, hD.2.1, hD.2.2.1, hD.2.2.2.1, hl'⟩)
theorem V_astore (k : Nat) {i : Nat} {x : Nat} {lv' : List (Nat × Value)} (hk : d.2.2.2.2.2.2[k]? = some (pc, .astore i, 2)) (hn : i < d.2.2.2.1) (hl : ab_set1 lv i (.ref x) = lv') (kk : V l d B fr lo kc ks Z (pc + 2) lv' (st) σ) : V l d B fr lo kc ks Z (pc) lv (.ref x :: st) σ := by
  intro p e R s m args below meth c D cA A n0 ad0 mc ms hC h1 h2 h3 ad H locs cells slots ls h4 h5 hD
  exact lv_astore hC.1.1 hC.1.2 (hC.dec hk) hD.2.2.2.2 hn ((ab_lv_set1 ad i (.ref x)).trans (congrArg _ hl)) (fun ls' hl' => kk p e R s m args below meth c D cA A n0 ad0 mc ms hC h1 h2 h3 ad H locs cells slots ls' h4 h5 ⟨hD.1, hD.2.1, hD.2.2.1, hD.2.2.2.1, hl'⟩)
theorem V_iinc (k j : Nat) {i : Nat} {n : Int} {x v : Int32} {lv' : List (Nat × Value)} (hk : d.2.2.2.2.2.2[k]? = some (pc, .iinc i n, 3)) (hj : lv[j]? = some (i, .int x)) (hv : x + Int32.ofInt n = v) (hn : i < d.2.2.2.1) (hl : ab_set1 lv i (.int v) = lv') (kk : V l d B fr lo kc ks Z (pc + 3) lv' (st) σ) : V l d B fr lo kc ks Z (pc) lv (st) σ := by
  intro p e R s m args below meth c D cA A n0 ad0 mc ms hC h1 h2 h3 ad H locs cells slots ls h4 h5 hD
  exact lv_iinc hC.1.1 hC.1.2 (hC.dec hk) hD.2.2.2.2 (k := j) (by simp [ab_lv, hj, ab_v]) hv hn ((ab_lv_set1 ad i (.int v)).trans (congrArg _ hl)) (fun ls' hl' => kk p e R s m args below meth c D cA A n0 ad0 mc ms hC h1 h2 h3 ad H locs cells slots ls' h4 h5 ⟨hD.1, hD.2.1, hD.2.2.1, hD.2.2.2.1, hl'⟩)
theorem V_sub (js : List Nat) {lv' : List (Nat × Value)} (hl : js.filterMap (fun j => lv[j]?) = lv') (kk : V l d B fr lo kc ks Z (pc) lv' (st) σ) : V l d B fr lo kc ks Z (pc) lv (st) σ := by
  intro p e R s m args below meth c D cA A n0 ad0 mc ms hC h1 h2 h3 ad H locs cells slots ls h4 h5 hD
  refine kk p e R s m args below meth c D cA A n0 ad0 mc ms hC h1 h2 h3 ad H locs cells slots ls h4 h5 ⟨hD.1, hD.2.1, hD.2.2.1, hD.2.2.2.1, lv_sub hD.2.2.2.2 js ?_⟩
  subst hl
  simp only [lv_pick, ab_lv, List.map_filterMap, List.getElem?_map]
theorem V_if_eq (k : Nat) {x : Int32} {off : Int} {tgt : Nat} (hk : d.2.2.2.2.2.2[k]? = some (pc, .ifCond .eq off, 3)) (ht : (pc : Int) + off = (tgt : Int)) (kt : (x = 0) → V l d B fr lo kc ks Z (tgt) lv (st) σ) (kf : ¬ (x = 0) → V l d B fr lo kc ks Z (pc + 3) lv (st) σ) : V l d B fr lo kc ks Z (pc) lv (.int x :: st) σ := by
  intro p e R s m args below meth c D cA A n0 ad0 mc ms hC h1 h2 h3 ad H locs cells slots ls h4 h5 hD
  exact lv_if_eq hC.1.1 hC.1.2 (hC.dec hk) ht (fun h => kt (by first | exact h | (simpa using h)) p e R s m args below meth c D cA A n0 ad0 mc ms hC h1 h2 h3 ad H locs cells slots ls h4 h5 hD) (fun h => kf (by first | exact h | (simpa using h)) p e R s m args below meth c D cA A n0 ad0 mc ms hC h1 h2 h3 ad H locs cells slots ls h4 h5 hD)
theorem V_icmp_eq (k : Nat) {x y : Int32} {off : Int} {tgt : Nat} (hk : d.2.2.2.2.2.2[k]? = some (pc, .if_icmp .eq off, 3)) (ht : (pc : Int) + off = (tgt : Int)) (kt : (x = y) → V l d B fr lo kc ks Z (tgt) lv (st) σ) (kf : ¬ (x = y) → V l d B fr lo kc ks Z (pc + 3) lv (st) σ) : V l d B fr lo kc ks Z (pc) lv (.int y :: .int x :: st) σ := by
  intro p e R s m args below meth c D cA A n0 ad0 mc ms hC h1 h2 h3 ad H locs cells slots ls h4 h5 hD
  exact lv_icmp_eq hC.1.1 hC.1.2 (hC.dec hk) ht (fun h => kt (by first | exact h | (simpa using h)) p e R s m args below meth c D cA A n0 ad0 mc ms hC h1 h2 h3 ad H locs cells slots ls h4 h5 hD) (fun h => kf (by first | exact h | (simpa using h)) p e R s m args below meth c D cA A n0 ad0 mc ms hC h1 h2 h3 ad H locs cells slots ls h4 h5 hD)
theorem V_if_ne (k : Nat) {x : Int32} {off : Int} {tgt : Nat} (hk : d.2.2.2.2.2.2[k]? = some (pc, .ifCond .ne off, 3)) (ht : (pc : Int) + off = (tgt : Int)) (kt : (¬ x = 0) → V l d B fr lo kc ks Z (tgt) lv (st) σ) (kf : ¬ (¬ x = 0) → V l d B fr lo kc ks Z (pc + 3) lv (st) σ) : V l d B fr lo kc ks Z (pc) lv (.int x :: st) σ := by
  intro p e R s m args below meth c D cA A n0 ad0 mc ms hC h1 h2 h3 ad H locs cells slots ls h4 h5 hD
  exact lv_if_ne hC.1.1 hC.1.2 (hC.dec hk) ht (fun h => kt (by first | exact h | (simpa using h)) p e R s m args below meth c D cA A n0 ad0 mc ms hC h1 h2 h3 ad H locs cells slots ls h4 h5 hD) (fun h => kf (by first | exact h | (simpa using h)) p e R s m args below meth c D cA A n0 ad0 mc ms hC h1 h2 h3 ad H locs cells slots ls h4 h5 hD)
theorem V_icmp_ne (k : Nat) {x y : Int32} {off : Int} {tgt : Nat} (hk : d.2.2.2.2.2.2[k]? = some (pc, .if_icmp .ne off, 3)) (ht : (pc : Int) + off = (tgt : Int)) (kt : (¬ x = y) → V l d B fr lo kc ks Z (tgt) lv (st) σ) (kf : ¬ (¬ x = y) → V l d B fr lo kc ks Z (pc + 3) lv (st) σ) : V l d B fr lo kc ks Z (pc) lv (.int y :: .int x :: st) σ := by
  intro p e R s m args below meth c D cA A n0 ad0 mc ms hC h1 h2 h3 ad H locs cells slots ls h4 h5 hD
  exact lv_icmp_ne hC.1.1 hC.1.2 (hC.dec hk) ht (fun h => kt (by first | exact h | (simpa using h)) p e R s m args below meth c D cA A n0 ad0 mc ms hC h1 h2 h3 ad H locs cells slots ls h4 h5 hD) (fun h => kf (by first | exact h | (simpa using h)) p e R s m args below meth c D cA A n0 ad0 mc ms hC h1 h2 h3 ad H locs cells slots ls h4 h5 hD)
theorem V_if_lt (k : Nat) {x : Int32} {off : Int} {tgt : Nat} (hk : d.2.2.2.2.2.2[k]? = some (pc, .ifCond .lt off, 3)) (ht : (pc : Int) + off = (tgt : Int)) (kt : (x < 0) → V l d B fr lo kc ks Z (tgt) lv (st) σ) (kf : ¬ (x < 0) → V l d B fr lo kc ks Z (pc + 3) lv (st) σ) : V l d B fr lo kc ks Z (pc) lv (.int x :: st) σ := by
  intro p e R s m args below meth c D cA A n0 ad0 mc ms hC h1 h2 h3 ad H locs cells slots ls h4 h5 hD
  exact lv_if_lt hC.1.1 hC.1.2 (hC.dec hk) ht (fun h => kt (by first | exact h | (simpa using h)) p e R s m args below meth c D cA A n0 ad0 mc ms hC h1 h2 h3 ad H locs cells slots ls h4 h5 hD) (fun h => kf (by first | exact h | (simpa using h)) p e R s m args below meth c D cA A n0 ad0 mc ms hC h1 h2 h3 ad H locs cells slots ls h4 h5 hD)
theorem V_icmp_lt (k : Nat) {x y : Int32} {off : Int} {tgt : Nat} (hk : d.2.2.2.2.2.2[k]? = some (pc, .if_icmp .lt off, 3)) (ht : (pc : Int) + off = (tgt : Int)) (kt : (x < y) → V l d B fr lo kc ks Z (tgt) lv (st) σ) (kf : ¬ (x < y) → V l d B fr lo kc ks Z (pc + 3) lv (st) σ) : V l d B fr lo kc ks Z (pc) lv (.int y :: .int x :: st) σ := by
  intro p e R s m args below meth c D cA A n0 ad0 mc ms hC h1 h2 h3 ad H locs cells slots ls h4 h5 hD
  exact lv_icmp_lt hC.1.1 hC.1.2 (hC.dec hk) ht (fun h => kt (by first | exact h | (simpa using h)) p e R s m args below meth c D cA A n0 ad0 mc ms hC h1 h2 h3 ad H locs cells slots ls h4 h5 hD) (fun h => kf (by first | exact h | (simpa using h)) p e R s m args below meth c D cA A n0 ad0 mc ms hC h1 h2 h3 ad H locs cells slots ls h4 h5 hD)
theorem V_if_ge (k : Nat) {x : Int32} {off : Int} {tgt : Nat} (hk : d.2.2.2.2.2.2[k]? = some (pc, .ifCond .ge off, 3)) (ht : (pc : Int) + off = (tgt : Int)) (kt : (0 ≤ x) → V l d B fr lo kc ks Z (tgt) lv (st) σ) (kf : ¬ (0 ≤ x) → V l d B fr lo kc ks Z (pc + 3) lv (st) σ) : V l d B fr lo kc ks Z (pc) lv (.int x :: st) σ := by
  intro p e R s m args below meth c D cA A n0 ad0 mc ms hC h1 h2 h3 ad H locs cells slots ls h4 h5 hD
  exact lv_if_ge hC.1.1 hC.1.2 (hC.dec hk) ht (fun h => kt (by first | exact h | (simpa using h)) p e R s m args below meth c D cA A n0 ad0 mc ms hC h1 h2 h3 ad H locs cells slots ls h4 h5 hD) (fun h => kf (by first | exact h | (simpa using h)) p e R s m args below meth c D cA A n0 ad0 mc ms hC h1 h2 h3 ad H locs cells slots ls h4 h5 hD)
theorem V_icmp_ge (k : Nat) {x y : Int32} {off : Int} {tgt : Nat} (hk : d.2.2.2.2.2.2[k]? = some (pc, .if_icmp .ge off, 3)) (ht : (pc : Int) + off = (tgt : Int)) (kt : (y ≤ x) → V l d B fr lo kc ks Z (tgt) lv (st) σ) (kf : ¬ (y ≤ x) → V l d B fr lo kc ks Z (pc + 3) lv (st) σ) : V l d B fr lo kc ks Z (pc) lv (.int y :: .int x :: st) σ := by
  intro p e R s m args below meth c D cA A n0 ad0 mc ms hC h1 h2 h3 ad H locs cells slots ls h4 h5 hD
  exact lv_icmp_ge hC.1.1 hC.1.2 (hC.dec hk) ht (fun h => kt (by first | exact h | (simpa using h)) p e R s m args below meth c D cA A n0 ad0 mc ms hC h1 h2 h3 ad H locs cells slots ls h4 h5 hD) (fun h => kf (by first | exact h | (simpa using h)) p e R s m args below meth c D cA A n0 ad0 mc ms hC h1 h2 h3 ad H locs cells slots ls h4 h5 hD)
theorem V_if_gt (k : Nat) {x : Int32} {off : Int} {tgt : Nat} (hk : d.2.2.2.2.2.2[k]? = some (pc, .ifCond .gt off, 3)) (ht : (pc : Int) + off = (tgt : Int)) (kt : (0 < x) → V l d B fr lo kc ks Z (tgt) lv (st) σ) (kf : ¬ (0 < x) → V l d B fr lo kc ks Z (pc + 3) lv (st) σ) : V l d B fr lo kc ks Z (pc) lv (.int x :: st) σ := by
  intro p e R s m args below meth c D cA A n0 ad0 mc ms hC h1 h2 h3 ad H locs cells slots ls h4 h5 hD
  exact lv_if_gt hC.1.1 hC.1.2 (hC.dec hk) ht (fun h => kt (by first | exact h | (simpa using h)) p e R s m args below meth c D cA A n0 ad0 mc ms hC h1 h2 h3 ad H locs cells slots ls h4 h5 hD) (fun h => kf (by first | exact h | (simpa using h)) p e R s m args below meth c D cA A n0 ad0 mc ms hC h1 h2 h3 ad H locs cells slots ls h4 h5 hD)
theorem V_icmp_gt (k : Nat) {x y : Int32} {off : Int} {tgt : Nat} (hk : d.2.2.2.2.2.2[k]? = some (pc, .if_icmp .gt off, 3)) (ht : (pc : Int) + off = (tgt : Int)) (kt : (y < x) → V l d B fr lo kc ks Z (tgt) lv (st) σ) (kf : ¬ (y < x) → V l d B fr lo kc ks Z (pc + 3) lv (st) σ) : V l d B fr lo kc ks Z (pc) lv (.int y :: .int x :: st) σ := by
  intro p e R s m args below meth c D cA A n0 ad0 mc ms hC h1 h2 h3 ad H locs cells slots ls h4 h5 hD
  exact lv_icmp_gt hC.1.1 hC.1.2 (hC.dec hk) ht (fun h => kt (by first | exact h | (simpa using h)) p e R s m args below meth c D cA A n0 ad0 mc ms hC h1 h2 h3 ad H locs cells slots ls h4 h5 hD) (fun h => kf (by first | exact h | (simpa using h)) p e R s m args below meth c D cA A n0 ad0 mc ms hC h1 h2 h3 ad H locs cells slots ls h4 h5 hD)
theorem V_if_le (k : Nat) {x : Int32} {off : Int} {tgt : Nat} (hk : d.2.2.2.2.2.2[k]? = some (pc, .ifCond .le off, 3)) (ht : (pc : Int) + off = (tgt : Int)) (kt : (x ≤ 0) → V l d B fr lo kc ks Z (tgt) lv (st) σ) (kf : ¬ (x ≤ 0) → V l d B fr lo kc ks Z (pc + 3) lv (st) σ) : V l d B fr lo kc ks Z (pc) lv (.int x :: st) σ := by
  intro p e R s m args below meth c D cA A n0 ad0 mc ms hC h1 h2 h3 ad H locs cells slots ls h4 h5 hD
  exact lv_if_le hC.1.1 hC.1.2 (hC.dec hk) ht (fun h => kt (by first | exact h | (simpa using h)) p e R s m args below meth c D cA A n0 ad0 mc ms hC h1 h2 h3 ad H locs cells slots ls h4 h5 hD) (fun h => kf (by first | exact h | (simpa using h)) p e R s m args below meth c D cA A n0 ad0 mc ms hC h1 h2 h3 ad H locs cells slots ls h4 h5 hD)
theorem V_icmp_le (k : Nat) {x y : Int32} {off : Int} {tgt : Nat} (hk : d.2.2.2.2.2.2[k]? = some (pc, .if_icmp .le off, 3)) (ht : (pc : Int) + off = (tgt : Int)) (kt : (x ≤ y) → V l d B fr lo kc ks Z (tgt) lv (st) σ) (kf : ¬ (x ≤ y) → V l d B fr lo kc ks Z (pc + 3) lv (st) σ) : V l d B fr lo kc ks Z (pc) lv (.int y :: .int x :: st) σ := by
  intro p e R s m args below meth c D cA A n0 ad0 mc ms hC h1 h2 h3 ad H locs cells slots ls h4 h5 hD
  exact lv_icmp_le hC.1.1 hC.1.2 (hC.dec hk) ht (fun h => kt (by first | exact h | (simpa using h)) p e R s m args below meth c D cA A n0 ad0 mc ms hC h1 h2 h3 ad H locs cells slots ls h4 h5 hD) (fun h => kf (by first | exact h | (simpa using h)) p e R s m args below meth c D cA A n0 ad0 mc ms hC h1 h2 h3 ad H locs cells slots ls h4 h5 hD)
theorem V_goto (k : Nat) {off : Int} {tgt : Nat} (hk : d.2.2.2.2.2.2[k]? = some (pc, .goto off, 3)) (ht : (pc : Int) + off = (tgt : Int)) (kk : V l d B fr lo kc ks Z (tgt) lv (st) σ) : V l d B fr lo kc ks Z (pc) lv (st) σ := by
  intro p e R s m args below meth c D cA A n0 ad0 mc ms hC h1 h2 h3 ad H locs cells slots ls h4 h5 hD
  exact lv_goto hC.1.1 hC.1.2 (hC.dec hk) ht (kk p e R s m args below meth c D cA A n0 ad0 mc ms hC h1 h2 h3 ad H locs cells slots ls h4 h5 hD)
end ROWS
