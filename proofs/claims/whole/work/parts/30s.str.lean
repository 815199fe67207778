/-! ===== String constants: rows, and String's own methods by contract ===== -/
def isS (n : Nat) : Prop := 1000001 ≤ n ∧ n < 1000008
def skn (n : Nat) : Nat := skL.getD (n - 1000001) 0
def skb (n k : Nat) : Int32 := (skB.getD (n - 1000001) []).getD k 0
theorem sk_at {ad : Nat → Nat} {A : Nat → Prop} {U : State} {H : Heap} {n : Nat} (h : ab_Sk ad A U H) (hn : isS n) : va_O "java/lang/String" (ad n) A U H ∧ va_OF "java/lang/String" "coder" "B" (.int 0) (ad n) A U H ∧ va_OF "java/lang/String" "value" "[B" (.ref (ad (n + 100))) (ad n) A U H ∧ va_T .byte (ad (n + 100)) (skn n) (fun j => .int (skb n j)) A U H := by
  obtain ⟨h1, h2⟩ := hn
  have := h.1.1 (n - 1000001) (by omega)
  simp only [] at this
  rw [show 1000001 + (n - 1000001) = n by omega, show 1000101 + (n - 1000001) = n + 100 by omega] at this
  exact this
section STR
variable {l : Launch} {d : ab_M} {B fr lo kc ks : Nat} {Q : Option Value → ab_S → Prop} {E : String → ab_S → Prop} {Z : ab_Zt} {pc : Nat} {lv : List (Nat × Value)} {st : List Value} {σ : ab_S}
theorem V_ldcS (k i : Nat) {idx : Nat} (hk : d.2.2.2.2.2.2[k]? = some (pc, .ldc idx, 2)) (hd : d.1 = RX6) (hi : i < 7) (hx : skI.getD i 0 = idx) (kk : V l d B fr lo kc ks Z (pc + 2) lv (.ref (1000001 + i) :: st) σ) : V l d B fr lo kc ks Z pc lv st σ := by
  intro p e R s m args below meth c D cA A n0 ad0 mc ms hC h1 h2 h3 ad H locs cells slots ls h4 h5 hD
  have hSk := hC.2.2.2.2.2.1.2.2.2.2.2
  have ha : ad (1000001 + i) = ad0 (1000001 + i) := hD.2.2.2.1 _ (Or.inr (by omega))
  have hz := hSk.2.1 i hi
  rw [hx, ← ha] at hz
  exact va_ldcS hC.1.1 hC.1.2 (by rw [← hd]; exact hC.2.2.1.1) hz (hC.dec hk) (kk p e R s m args below meth c D cA A n0 ad0 mc ms hC h1 h2 h3 ad H locs cells slots ls h4 h5 hD)
theorem V_gstr (k : Nat) {idx n : Nat} (hk : d.2.2.2.2.2.2[k]? = some (pc, .getfield idx, 3)) (hl : Cond.fieldLink d.1 idx "java/lang/String" "value" "[B" ∈ gw) (hn : isS n) (kk : V l d B fr lo kc ks Z (pc + 3) lv (.ref (n + 100) :: st) σ) : V l d B fr lo kc ks Z pc lv (.ref n :: st) σ := by
  intro p e R s m args below meth c D cA A n0 ad0 mc ms hC h1 h2 h3 ad H locs cells slots ls h4 h5 hD
  have hk9 := (sk_at hC.2.2.2.2.2.1.2.2.2.2.2 hn).2.2.1
  have ha : ad n = ad0 n := hD.2.2.2.1 _ (Or.inr (by have := hn.1; omega))
  have hb : ad (n + 100) = ad0 (n + 100) := hD.2.2.2.1 _ (Or.inr (by have := hn.1; omega))
  rw [← ha, ← hb] at hk9
  exact vk_getf hC.1.1 hC.1.2 hk9 hD.2.2.1 hC.2.2.1.1 (hC.2.2.1.2 _ hl) (fun x hx => hx) (hC.dec hk) (kk p e R s m args below meth c D cA A n0 ad0 mc ms hC h1 h2 h3 ad H locs cells slots ls h4 h5 hD)
theorem V_gcod (k : Nat) {idx n : Nat} (hk : d.2.2.2.2.2.2[k]? = some (pc, .getfield idx, 3)) (hl : Cond.fieldLink d.1 idx "java/lang/String" "coder" "B" ∈ gw) (hn : isS n) (kk : V l d B fr lo kc ks Z (pc + 3) lv (.int 0 :: st) σ) : V l d B fr lo kc ks Z pc lv (.ref n :: st) σ := by
  intro p e R s m args below meth c D cA A n0 ad0 mc ms hC h1 h2 h3 ad H locs cells slots ls h4 h5 hD
  have hk9 := (sk_at hC.2.2.2.2.2.1.2.2.2.2.2 hn).2.1
  have ha : ad n = ad0 n := hD.2.2.2.1 _ (Or.inr (by have := hn.1; omega))
  rw [← ha] at hk9
  exact vk_getf hC.1.1 hC.1.2 hk9 hD.2.2.1 hC.2.2.1.1 (hC.2.2.1.2 _ hl) (fun x hx => hx) (hC.dec hk) (kk p e R s m args below meth c D cA A n0 ad0 mc ms hC h1 h2 h3 ad H locs cells slots ls h4 h5 hD)
theorem V_gcs (k : Nat) {idx : Nat} (hk : d.2.2.2.2.2.2[k]? = some (pc, .getstatic idx, 3)) (hl : Cond.fieldLink d.1 idx "java/lang/String" "COMPACT_STRINGS" "Z" ∈ gw) (kk : V l d B fr lo kc ks Z (pc + 3) lv (.int 1 :: st) σ) : V l d B fr lo kc ks Z pc lv st σ := by
  intro p e R s m args below meth c D cA A n0 ad0 mc ms hC h1 h2 h3 ad H locs cells slots ls h4 h5 hD
  exact va_gets hC.1.1 hC.1.2 hC.2.2.2.2.2.1.2.2.2.2.2.2.2.1 hD.2.2.1 hC.2.2.1.1 (hC.2.2.1.2 _ hl) (fun x hx => hx) (hC.dec hk) (kk p e R s m args below meth c D cA A n0 ad0 mc ms hC h1 h2 h3 ad H locs cells slots ls h4 h5 hD)
theorem V_gsf (k : Nat) {idx : Nat} (hk : d.2.2.2.2.2.2[k]? = some (pc, .getstatic idx, 3)) (hl : Cond.fieldLink d.1 idx "jdk/internal/util/Preconditions" "SIOOBE_FORMATTER" "Ljava/util/function/BiFunction;" ∈ gw) (kk : ∀ v : Value, (v = .null ∨ v = .ref 1000008) → V l d B fr lo kc ks Z (pc + 3) lv (v :: st) σ) : V l d B fr lo kc ks Z pc lv st σ := by
  intro p e R s m args below meth c D cA A n0 ad0 mc ms hC h1 h2 h3 ad H locs cells slots ls h4 h5 hD
  obtain ⟨v, hv, hz⟩ := hC.2.2.2.2.2.1.2.2.2.2.2.2.2.2
  have ha : ad 1000008 = ad0 1000008 := hD.2.2.2.1 _ (Or.inr (by omega))
  refine va_gets hC.1.1 hC.1.2 hz hD.2.2.1 hC.2.2.1.1 (hC.2.2.1.2 _ hl) (fun x hx => hx) (hC.dec hk) ?_
  rcases hv with rfl | rfl
  · exact kk .null (Or.inl rfl) p e R s m args below meth c D cA A n0 ad0 mc ms hC h1 h2 h3 ad H locs cells slots ls h4 h5 hD
  · rw [← ha]
    exact kk (.ref 1000008) (Or.inr rfl) p e R s m args below meth c D cA A n0 ad0 mc ms hC h1 h2 h3 ad H locs cells slots ls h4 h5 hD
theorem V_blen (k : Nat) {n : Nat} (hk : d.2.2.2.2.2.2[k]? = some (pc, .arraylength, 1)) (hn : isS n) (kk : V l d B fr lo kc ks Z (pc + 1) lv (.int (nI (skn n)) :: st) σ) : V l d B fr lo kc ks Z pc lv (.ref (n + 100) :: st) σ := by
  intro p e R s m args below meth c D cA A n0 ad0 mc ms hC h1 h2 h3 ad H locs cells slots ls h4 h5 hD
  have hk9 := (sk_at hC.2.2.2.2.2.1.2.2.2.2.2 hn).2.2.2
  have hb : ad (n + 100) = ad0 (n + 100) := hD.2.2.2.1 _ (Or.inr (by have := hn.1; omega))
  rw [← hb] at hk9
  exact va_tlen hC.1.1 hC.1.2 hk9 hD.2.2.1 rfl (hC.dec hk) (kk p e R s m args below meth c D cA A n0 ad0 mc ms hC h1 h2 h3 ad H locs cells slots ls h4 h5 hD)
theorem V_bald (k : Nat) {n : Nat} {x : Int32} (hk : d.2.2.2.2.2.2[k]? = some (pc, .baload, 1)) (hn : isS n) (hin : vp_in x (skn n)) (kk : V l d B fr lo kc ks Z (pc + 1) lv (.int (skb n x.toNatClampNeg) :: st) σ) : V l d B fr lo kc ks Z pc lv (.int x :: .ref (n + 100) :: st) σ := by
  intro p e R s m args below meth c D cA A n0 ad0 mc ms hC h1 h2 h3 ad H locs cells slots ls h4 h5 hD
  have hk9 := (sk_at hC.2.2.2.2.2.1.2.2.2.2.2 hn).2.2.2
  have hb : ad (n + 100) = ad0 (n + 100) := hD.2.2.2.1 _ (Or.inr (by have := hn.1; omega))
  rw [← hb] at hk9
  exact va_tb hC.1.1 hC.1.2 hk9 hD.2.2.1 hin rfl (hC.dec hk) (kk p e R s m args below meth c D cA A n0 ad0 mc ms hC h1 h2 h3 ad H locs cells slots ls h4 h5 hD)
theorem V_xret (k : Nat) {ty : FieldType} {v : Int32} (hk : d.2.2.2.2.2.2[k]? = some (pc, .ireturn, 1)) (hr : d.2.2.2.2.1 = some ty) (hn : narrow ty (.int v) = .int v) (hq : Q (some (.int v)) σ) : V l d B fr lo kc ks (ab_End Q E) pc lv [.int v] σ := by
  intro p e R s m args below meth c0 D cA A n0 ad0 mc ms hC h1 h2 h3 ad H locs cells slots ls h4 h5 hD
  exact W.widen (k := mc) (n := ms) (by omega) (by omega) (vx_ret (W.zret hC.1.1 hC.1.2 (hC.2.1.2.trans hr) hn (fun t ht hW => ⟨⟨some (.int v), σ, ad, rfl, hq, hD.2.2.2.1, by rw [ht]; exact hD.1, hD.2.1, va_K.moved hW.alike hC.2.2.2.2.2.1.1⟩, hD.2.2.1.F ht⟩) hD.2.2.1.2.2 (hC.dec hk) hC.2.2.2.1.1))
theorem V_i2b (k : Nat) {x : Int32} (hk : d.2.2.2.2.2.2[k]? = some (pc, .i2b, 1)) (kk : V l d B fr lo kc ks Z (pc + 1) lv (.int x.toInt8.toInt32 :: st) σ) : V l d B fr lo kc ks Z pc lv (.int x :: st) σ := by
  intro p e R s m args below meth c D cA A n0 ad0 mc ms hC h1 h2 h3 ad H locs cells slots ls h4 h5 hD
  exact lv_i2b hC.1.1 hC.1.2 (hC.dec hk) rfl (kk p e R s m args below meth c D cA A n0 ad0 mc ms hC h1 h2 h3 ad H locs cells slots ls h4 h5 hD)
theorem V_min (k : Nat) {idx : Nat} {x y : Int32} (hk : d.2.2.2.2.2.2[k]? = some (pc, .invokestatic idx, 3)) (hl : Cond.methodLink d.1 idx Lib.Math.min.name ∈ gw) (h6 : Cond.static Lib.Math.min.name ∈ gw) (h7 : Cond.initialized "java/lang/Math" ∈ gw) (h8 : Cond.code Lib.Math.min.name Lib.Math.min.code 2 (some .int) ∈ gw) (hf : 1 ≤ fr) (hlo : (st.map fun v => v.category).sum + 13 ≤ lo)
    (kk : V l d B fr lo kc ks Z (pc + 3) lv (.int (if y < x then y else x) :: st) σ) : V l d B fr lo kc ks Z pc lv (.int y :: .int x :: st) σ := by
  intro p e R s m args below meth c0 D cA A n0 ad0 mc ms hC h1 h2 h3 ad H locs cells slots ls h4 h5 hD
  have hts := hC.2.2.1.2
  have hrf := hC.2.2.2.2.2.2.1.2.1
  have hrl := hC.2.2.2.2.2.2.1.2.2
  have hcs := ab_cats ad st
  exact va_mmin hC.1.1 hC.1.2 (hC.2.1.1.trans hD.2.2.2.2.1.symm) hC.2.2.1.1 (hts _ hl) (hts _ h6) (hts _ h7) (hts _ h8) (by omega) (by omega) (by omega) (by omega) (hC.dec hk) (kk p e R s m args below meth c0 D cA A n0 ad0 mc ms hC h1 h2 h3 ad H locs cells slots ls h4 h5 hD)
/-- a call on a String constant -/
theorem V_callK (k n : Nat) {y : MethodName} {dy : ab_M} {fr' lo' mc' ms' idx b : Nat} {as rest st0 : List Value} {Q' : Option Value → ab_S → Prop} {E' : String → ab_S → Prop}
    (hk : d.2.2.2.2.2.2[k]? = some (pc, .invokevirtual idx, 3)) (hl : Cond.methodLink d.1 idx y ∈ gw) (hy : ab_yV "java/lang/String" y dy n) (hst : st0 = as.reverse ++ .ref b :: rest) (hn : as.length = n) (hs : isS b)
    (hf : fr' + 1 ≤ fr) (hlo : 8 + (dy.2.2.2.1 + 11) + lo' ≤ lo) (hW : (rest.map fun v => v.category).sum ≤ 8) (hmc : mc' ≤ kc) (hms : ms' ≤ ks)
    (hM : ∀ B', ab_Mt l y dy B' fr' lo' mc' ms' (.ref b :: as) σ Q' E') (kx : ∀ (X : String) (σ' : ab_S), E' X σ' → VX l d B fr lo (kc - mc') (ks - ms') Z X pc lv rest σ')
    (kk : ∀ (v : Option Value) (σ' : ab_S), Q' v σ' → V l d B fr lo (kc - mc') (ks - ms') Z (pc + 3) lv (v.toList ++ rest) σ') : V l d B fr lo kc ks Z pc lv st0 σ := by
  subst hst
  intro p e R s m args below meth c0 D cA A n0 ad0 mc ms hC h1 h2 h3 ad H locs cells slots ls h4 h5 hD
  obtain ⟨y1, y2, y3, y4, y5, y6⟩ := hy
  have hA := hC.2.2.2.2.2.2.1.1
  have hF := ab_Fc hD.2.1 hD.2.2.1 hA
  have hts := hC.2.2.1.2
  have hrec : ∃ cell : Cell, H[ad b]? = some cell ∧ cell.vm.isStatics = false ∧ s.vm.findClass "java/lang/String" = some cell.cls := by
    obtain ⟨cell, g1, g2, g3, -⟩ := (sk_at hC.2.2.2.2.2.1.2.2.2.2.2 hs).1.kept hD.2.2.1.2.1
    rw [← hD.2.2.2.1 b (Or.inr (by have := hs.1; omega))] at g1
    exact ⟨cell, g1, g2, g3⟩
  have hMM := hM (max n0 (max (ab_bd (lv.map (·.2))) (ab_bd rest))) D cA ad H.size (max n0 (max (ab_bd (lv.map (·.2))) (ab_bd rest))) (Nat.le_refl _)
  refine ab_after (av := (Value.ref (ad b) :: as.map (ab_v ad)).toArray) (n1 := max n0 (max (ab_bd (lv.map (·.2))) (ab_bd rest))) hC h1 h2 h3 h4 h5 hD (by omega) (by omega) (by omega) hmc hms ?_ kx kk
  refine vx_runV (nL := d.2.2.2.1) (n := n) (C := "java/lang/String") (Ts := gw) ⟨hC.1.1, hC.1.2, hC.2.1.1, hC.2.2.1.1, hts⟩ hMM ⟨ab_callB hC hl y3 y4 y5 y6 hf hlo, hts _ y1, hts _ y2⟩ ⟨ab_blind D cA ad H.size _ σ, hrec, fun U hU hW9 => ⟨by simp [ab_v], by rw [hU], by rw [hU]; exact hD.1, va_K.moved hW9.alike hC.2.2.2.2.2.1.1, hD.2.1.weaken (fun _ _ _ _ => trivial), ab_St_at hC.2.2.2.2.2.1.2 hD.2.2.1 hU hW9 hF hD.2.2.2.1⟩⟩ rfl (by simpa using hn) hD.2.2.2.2.1 (by simp [ab_v]) (lv_room (by rw [ab_cats]; exact hW)) (hC.dec hk) ⟨by omega, by omega⟩
end STR
def skQ (σ : ab_S) (v : Int32) : Option Value → ab_S → Prop := fun r σ' => r = some (.int v) ∧ σ' = σ
def skE : String → ab_S → Prop := fun _ _ => False
section SKM
theorem ceJ0_coder {l : Launch} (hl : l.stackTraces = false) (B : Nat) {n : Nat} {σ : ab_S} (hn : isS n) : ab_Mt l yJ0_coder_7d493 mdJ0_coder_7d493 B 0 0 0 0 [.ref n] σ (skQ σ 0) skE := by
  refine V_met hl ⟨rfl, rfl, by decide⟩ rfl dkJ0_coder_7d493 (Nat.le_of_ble_eq_true rfl) ?_
  show V l mdJ0_coder_7d493 B 0 0 0 0 (ab_End _ _) 0 [(0, .ref n)] [] σ
  refine V_gcs 0 rfl flJ0_38 ?_
  refine V_if_eq 1 (tgt := 13) rfl (by decide) (fun hc => absurd hc (by decide)) (fun hc => ?_)
  refine V_pc 6 rfl ?_
  refine V_aload_n 2 0 rfl rfl rfl ?_
  refine V_gcod 3 rfl flJ0_15 hn ?_
  refine V_goto 4 (tgt := 14) rfl (by decide) ?_
  exact V_xret 6 (ty := .byte) rfl rfl rfl ⟨rfl, rfl⟩
theorem ceJ0_length {l : Launch} (hl : l.stackTraces = false) (B : Nat) {n : Nat} {σ : ab_S} (hn : isS n) : ab_Mt l yJ0_length_8abf5 mdJ0_length_8abf5 B 1 20 0 0 [.ref n] σ (skQ σ (nI (skn n))) skE := by
  refine V_met hl ⟨rfl, rfl, by decide⟩ rfl dkJ0_length_8abf5 (Nat.le_of_ble_eq_true rfl) ?_
  show V l mdJ0_length_8abf5 B 1 20 0 0 (ab_End _ _) 0 [(0, .ref n)] [] σ
  refine V_aload_n 0 0 rfl rfl rfl ?_
  refine V_gstr 1 rfl flJ0_9 hn ?_
  refine V_blen 2 rfl hn ?_
  refine V_aload_n 3 0 rfl rfl rfl ?_
  refine V_callK 4 0 (as := []) (rest := [.int (nI (skn n))]) rfl mlJ0_335 yvJ0_coder_7d493 rfl rfl hn (by decide) (by decide) (Nat.le_of_ble_eq_true rfl) (by decide) (by decide) (fun B9 => ceJ0_coder hl B9 hn) (fun X9 τ9 h9 => absurd h9 id) ?_
  rintro v9 σ9 ⟨rfl, rfl⟩
  refine V_ishr 5 rfl ?_
  refine V_iret 6 rfl rfl ⟨?_, rfl⟩
  have h9 : ∀ x : Int32, x >>> ((0 : Int32) &&& 31) = x := by
    intro x
    have e : ((0 : Int32) &&& 31) = 0 := by decide
    rw [e]
    apply Int32.toBitVec_inj.mp
    simp
  rw [h9]
theorem ceJ0_isLatin1 {l : Launch} (hl : l.stackTraces = false) (B : Nat) {n : Nat} {σ : ab_S} (hn : isS n) : ab_Mt l yJ0_isLatin1_aae02 mdJ0_isLatin1_aae02 B 0 0 0 0 [.ref n] σ (skQ σ 1) skE := by
  refine V_met hl ⟨rfl, rfl, by decide⟩ rfl dkJ0_isLatin1_aae02 (Nat.le_of_ble_eq_true rfl) ?_
  show V l mdJ0_isLatin1_aae02 B 0 0 0 0 (ab_End _ _) 0 [(0, .ref n)] [] σ
  refine V_gcs 0 rfl flJ0_38 ?_
  refine V_if_eq 1 (tgt := 17) rfl (by decide) (fun hc => absurd hc (by decide)) (fun hc => ?_)
  refine V_pc 6 rfl ?_
  refine V_aload_n 2 0 rfl rfl rfl ?_
  refine V_gcod 3 rfl flJ0_15 hn ?_
  refine V_if_ne 4 (tgt := 17) rfl (by decide) (fun hc => absurd rfl hc) (fun hc => ?_)
  refine V_pc 13 rfl ?_
  refine V_iconst 5 (v := 1) rfl (by decide) ?_
  refine V_goto 6 (tgt := 18) rfl (by decide) ?_
  exact V_zret 8 rfl rfl rfl ⟨rfl, rfl⟩
theorem ceJ3_checkIndex {l : Launch} (hl : l.stackTraces = false) (B : Nat) {σ : ab_S} {x y : Int32} {v : Value} (h0 : ¬ x < 0) (h1 : x < y) (hv : v = .null ∨ v = .ref 1000008) : ab_Mt l yJ3_checkIndex_8e157 mdJ3_checkIndex_8e157 B 0 0 0 0 [.int x, .int y, v] σ (skQ σ x) skE := by
  refine V_met hl ⟨rfl, rfl, by decide⟩ rfl dkJ3_checkIndex_8e157 (by rcases hv with rfl | rfl <;> exact Nat.le_of_ble_eq_true rfl) ?_
  show V l mdJ3_checkIndex_8e157 B 0 0 0 0 (ab_End _ _) 0 [(0, .int x), (1, .int y), (2, v)] [] σ
  refine V_iload_n 0 0 rfl rfl rfl ?_
  refine V_if_lt 1 (tgt := 9) rfl (by decide) (fun hc => absurd hc h0) (fun hc => ?_)
  refine V_pc 4 rfl ?_
  refine V_iload_n 2 0 rfl rfl rfl ?_
  refine V_iload_n 3 1 rfl rfl rfl ?_
  refine V_icmp_lt 4 (tgt := 16) rfl (by decide) (fun hc => ?_) (fun hc => absurd h1 hc)
  refine V_iload_n 10 0 rfl rfl rfl ?_
  exact V_iret 11 rfl rfl ⟨rfl, rfl⟩
theorem ceJ0_checkIndex {l : Launch} (hl : l.stackTraces = false) (B : Nat) {σ : ab_S} {x y : Int32} (h0 : ¬ x < 0) (h1 : x < y) : ab_Mt l yJ0_checkIndex_df160 mdJ0_checkIndex_df160 B 1 22 0 0 [.int x, .int y] σ (fun r σ' => r = none ∧ σ' = σ) skE := by
  refine V_met hl ⟨rfl, rfl, by decide⟩ rfl dkJ0_checkIndex_df160 (Nat.le_of_ble_eq_true rfl) ?_
  show V l mdJ0_checkIndex_df160 B 1 22 0 0 (ab_End _ _) 0 [(0, .int x), (1, .int y)] [] σ
  refine V_iload_n 0 0 rfl rfl rfl ?_
  refine V_iload_n 1 1 rfl rfl rfl ?_
  refine V_gsf 2 rfl flJ0_1053 (fun v hv => ?_)
  refine V_callS 3 3 (as := [.int x, .int y, v]) (rest := []) rfl mlJ0_1059 yvJ3_checkIndex_8e157 rfl rfl (by decide) (by decide) (Nat.le_of_ble_eq_true rfl) (by decide) (by decide) (fun B9 => ceJ3_checkIndex hl B9 h0 h1 hv) (fun X9 τ9 h9 => absurd h9 id) ?_
  rintro v9 σ9 ⟨rfl, rfl⟩
  refine V_pop 4 (st := []) (v := .int x) rfl rfl ?_
  exact V_vret 5 rfl rfl ⟨rfl, rfl⟩
theorem sk_c : ∀ i, i < 7 → ∀ k, k < skL.getD i 0 → (((skB.getD i []).getD k 0 &&& 255).toUInt32 % 65536).toInt32 = (skB.getD i []).getD k 0 ∧ narrow .char (.int ((skB.getD i []).getD k 0)) = .int ((skB.getD i []).getD k 0) := by decide
theorem sk_l : ∀ i, i < 7 → skL.getD i 0 < 16 := by decide
theorem sk_cc {n : Nat} {k : Nat} (hn : isS n) (hk : k < skn n) : ((skb n k &&& 255).toUInt32 % 65536).toInt32 = skb n k ∧ narrow .char (.int (skb n k)) = .int (skb n k) := sk_c (n - 1000001) (by have := hn.1; have := hn.2; omega) k hk
theorem sk_15 {n : Nat} (hn : isS n) : skn n < 16 := sk_l (n - 1000001) (by have := hn.1; have := hn.2; omega)
theorem sk_in {n : Nat} {x : Int32} (hn : isS n) (hin : vp_in x (skn n)) : ¬ x < 0 ∧ x < nI (skn n) ∧ x.toNatClampNeg < skn n := by
  have h15 := sk_15 hn
  have h0 : ¬ x < 0 := fun h => hin (Or.inl h)
  have h1 : x.toNatClampNeg < skn n := Nat.not_le.mp fun h => hin (Or.inr h)
  refine ⟨h0, ?_, h1⟩
  rw [Int32.lt_iff_toInt_lt]
  have e : (nI (skn n)).toInt = (skn n : Int) := by
    show (Int32.ofNat (skn n)).toInt = _
    rw [Int32.toInt_ofNat_of_lt]
    show skn n < 2147483648
    omega
  rw [e]
  have h2 : x.toInt.toNat < skn n := h1
  omega
theorem ceJ1_charAt {l : Launch} (hl : l.stackTraces = false) (B : Nat) {n : Nat} {σ : ab_S} {x : Int32} (hn : isS n) (hin : vp_in x (skn n)) : ab_Mt l yJ1_charAt_3b067 mdJ1_charAt_3b067 B 2 43 0 0 [.ref (n + 100), .int x] σ (skQ σ (skb n x.toNatClampNeg)) skE := by
  obtain ⟨g1, g2, g3⟩ := sk_in hn hin
  refine V_met hl ⟨rfl, rfl, by decide⟩ rfl dkJ1_charAt_3b067 (Nat.le_of_ble_eq_true rfl) ?_
  show V l mdJ1_charAt_3b067 B 2 43 0 0 (ab_End _ _) 0 [(0, .ref (n + 100)), (1, .int x)] [] σ
  refine V_iload_n 0 1 rfl rfl rfl ?_
  refine V_aload_n 1 0 rfl rfl rfl ?_
  refine V_blen 2 rfl hn ?_
  refine V_callS 3 2 (as := [.int x, .int (nI (skn n))]) (rest := []) rfl mlJ1_9 yvJ0_checkIndex_df160 rfl rfl (by decide) (by decide) (Nat.le_of_ble_eq_true rfl) (by decide) (by decide) (fun B9 => ceJ0_checkIndex hl B9 g1 g2) (fun X9 τ9 h9 => absurd h9 id) ?_
  rintro v9 σ9 ⟨rfl, rfl⟩
  refine V_pc 6 rfl ?_
  refine V_aload_n 4 0 rfl rfl rfl ?_
  refine V_iload_n 5 1 rfl rfl rfl ?_
  refine V_bald 6 rfl hn hin ?_
  refine V_sipush 7 (v := 255) rfl (by decide) ?_
  refine V_iand 8 rfl ?_
  refine V_i2c 9 rfl ?_
  rw [(sk_cc hn g3).1]
  exact V_xret 10 (ty := .char) rfl rfl (sk_cc hn g3).2 ⟨rfl, rfl⟩
theorem ceJ0_charAt {l : Launch} (hl : l.stackTraces = false) (B : Nat) {n : Nat} {σ : ab_S} {x : Int32} (hn : isS n) (hin : vp_in x (skn n)) : ab_Mt l yJ0_charAt_5068e mdJ0_charAt_5068e B 3 64 0 0 [.ref n, .int x] σ (skQ σ (skb n x.toNatClampNeg)) skE := by
  obtain ⟨g1, g2, g3⟩ := sk_in hn hin
  refine V_met hl ⟨rfl, rfl, by decide⟩ rfl dkJ0_charAt_5068e (Nat.le_of_ble_eq_true rfl) ?_
  show V l mdJ0_charAt_5068e B 3 64 0 0 (ab_End _ _) 0 [(0, .ref n), (1, .int x)] [] σ
  refine V_aload_n 0 0 rfl rfl rfl ?_
  refine V_callK 1 0 (as := []) (rest := []) rfl mlJ0_492 yvJ0_isLatin1_aae02 rfl rfl hn (by decide) (by decide) (Nat.le_of_ble_eq_true rfl) (by decide) (by decide) (fun B9 => ceJ0_isLatin1 hl B9 hn) (fun X9 τ9 h9 => absurd h9 id) ?_
  rintro v9 σ9 ⟨rfl, rfl⟩
  refine V_if_eq 2 (x := 1) (st := []) (tgt := 16) rfl (by decide) (fun hc => absurd hc (by decide)) (fun hc => ?_)
  refine V_pc 7 rfl ?_
  refine V_aload_n 3 0 rfl rfl rfl ?_
  refine V_gstr 4 rfl flJ0_9 hn ?_
  refine V_iload_n 5 1 rfl rfl rfl ?_
  refine V_callS 6 2 (as := [.ref (n + 100), .int x]) (rest := []) rfl mlJ0_495 yvJ1_charAt_3b067 rfl rfl (by decide) (by decide) (Nat.le_of_ble_eq_true rfl) (by decide) (by decide) (fun B9 => ceJ1_charAt hl B9 hn hin) (fun X9 τ9 h9 => absurd h9 id) ?_
  rintro v9 σ9 ⟨rfl, rfl⟩
  exact V_xret 7 (ty := .char) rfl rfl (sk_cc hn g3).2 ⟨rfl, rfl⟩
def skF (c : Int32) : List Int32 → Nat → Int32
  | [], _ => -1
  | b :: r, k => if b = c then nI k else skF c r (k + 1)
def skG : List Int32 := [58, 61, 59, 44, 46, 123, 125, 40, 41, 35, 43, 45, 42, 47, 60]
/-- indexOf in the tokens' signs -/
def ski (c : Int32) : Int32 := if c < 0 then -1 else if 255 < c then -1 else skF c.toInt8.toInt32 skG 0
theorem ceJ1_canEncode {l : Launch} (hl : l.stackTraces = false) (B : Nat) {σ : ab_S} {c : Int32} : ab_Mt l yJ1_canEncode_9a6ad mdJ1_canEncode_9a6ad B 0 0 0 0 [.int c] σ (skQ σ (if c < 0 then 0 else if 255 < c then 0 else 1)) skE := by
  refine V_met hl ⟨rfl, rfl, by decide⟩ rfl dkJ1_canEncode_9a6ad (Nat.le_of_ble_eq_true rfl) ?_
  show V l mdJ1_canEncode_9a6ad B 0 0 0 0 (ab_End _ _) 0 [(0, .int c)] [] σ
  refine V_iload_n 0 0 rfl rfl rfl ?_
  refine V_if_lt 1 (tgt := 15) rfl (by decide) (fun hc => ?_) (fun hc => ?_)
  · rw [if_pos hc]
    refine V_iconst 7 (v := 0) rfl (by decide) ?_
    exact V_zret 8 rfl rfl rfl ⟨rfl, rfl⟩
  · rw [if_neg hc]
    refine V_pc 4 rfl ?_
    refine V_iload_n 2 0 rfl rfl rfl ?_
    refine V_sipush 3 (v := 255) rfl (by decide) ?_
    refine V_icmp_gt 4 (tgt := 15) rfl (by decide) (fun hc => ?_) (fun hc => ?_)
    · rw [if_pos hc]
      refine V_iconst 7 (v := 0) rfl (by decide) ?_
      exact V_zret 8 rfl rfl rfl ⟨rfl, rfl⟩
    · rw [if_neg hc]
      refine V_pc 11 rfl ?_
      refine V_iconst 5 (v := 1) rfl (by decide) ?_
      refine V_goto 6 (tgt := 16) rfl (by decide) ?_
      exact V_zret 8 rfl rfl rfl ⟨rfl, rfl⟩
theorem sk_step : ∀ k, k < 15 → (¬ (nI k < 0 ∨ 15 ≤ (nI k).toNatClampNeg)) ∧ nI k + 1 = nI (k + 1) ∧ ¬ nI 15 ≤ nI k ∧ (nI k).toNatClampNeg = k ∧ skG.drop k = skb 1000007 k :: skG.drop (k + 1) := by decide
theorem ceJ1_indexOfChar {l : Launch} (hl : l.stackTraces = false) (B : Nat) {σ : ab_S} {c : Int32} : ab_Mt l yJ1_indexOfChar_4cfef mdJ1_indexOfChar_4cfef B 0 0 0 0 [.ref 1000107, .int c, .int 0, .int (nI 15)] σ (skQ σ (skF c.toInt8.toInt32 skG 0)) skE := by
  refine V_met hl ⟨rfl, rfl, by decide⟩ rfl dkJ1_indexOfChar_4cfef (Nat.le_of_ble_eq_true rfl) ?_
  show V l mdJ1_indexOfChar_4cfef B 0 0 0 0 (ab_End _ _) 0 [(0, .ref 1000107), (1, .int c), (2, .int 0), (3, .int (nI 15))] [] σ
  have loop : ∀ (j k : Nat), k + j = 15 → V l mdJ1_indexOfChar_4cfef B 0 0 0 0 (ab_End (skQ σ (skF c.toInt8.toInt32 (skG.drop k) k)) skE) 7 [(5, .int (nI k)), (4, .int c.toInt8.toInt32), (0, .ref 1000107), (3, .int (nI 15))] [] σ := by
    intro j
    induction j with
    | zero =>
      intro k hk
      have : k = 15 := by omega
      subst this
      refine V_iload 5 0 rfl rfl ?_
      refine V_iload_n 6 3 rfl rfl rfl ?_
      refine V_icmp_ge 7 (tgt := 31) rfl (by decide) (fun hc => ?_) (fun hc => absurd (by decide) hc)
      refine V_iconst 17 (v := -1) rfl (by decide) ?_
      exact V_iret 18 rfl rfl ⟨rfl, rfl⟩
    | succ j ih =>
      intro k hk
      obtain ⟨s1, s2, s3, s4, s5⟩ := sk_step k (by omega)
      refine V_iload 5 0 rfl rfl ?_
      refine V_iload_n 6 3 rfl rfl rfl ?_
      refine V_icmp_ge 7 (tgt := 31) rfl (by decide) (fun hc => absurd hc s3) (fun hc => ?_)
      refine V_pc 13 rfl ?_
      refine V_aload_n 8 2 rfl rfl rfl ?_
      refine V_iload 9 0 rfl rfl ?_
      refine V_bald 10 (n := 1000007) rfl ⟨by decide, by decide⟩ s1 ?_
      refine V_iload 11 1 rfl rfl ?_
      rw [s4, s5]
      simp only [skF]
      refine V_icmp_ne 12 (tgt := 25) rfl (by decide) (fun hc => ?_) (fun hc => ?_)
      · rw [if_neg hc]
        refine V_iinc 15 0 (v := nI (k + 1)) (lv' := [(5, .int (nI (k + 1))), (4, .int c.toInt8.toInt32), (0, .ref 1000107), (3, .int (nI 15))]) rfl rfl ((in_1 _).trans s2) (by decide) rfl ?_
        refine V_goto 16 (tgt := 7) rfl (by decide) ?_
        exact ih (k + 1) (by omega)
      · rw [if_pos (Classical.not_not.mp hc)]
        refine V_pc 22 rfl ?_
        refine V_iload 13 0 rfl rfl ?_
        exact V_iret 14 rfl rfl ⟨rfl, rfl⟩
  refine V_iload_n 0 1 rfl rfl rfl ?_
  refine V_i2b 1 rfl ?_
  refine V_istore 2 (lv' := [(4, .int c.toInt8.toInt32), (0, .ref 1000107), (1, .int c), (2, .int 0), (3, .int (nI 15))]) rfl (by decide) rfl ?_
  refine V_iload_n 3 3 rfl rfl rfl ?_
  refine V_istore 4 (lv' := [(5, .int 0), (4, .int c.toInt8.toInt32), (0, .ref 1000107), (1, .int c), (2, .int 0), (3, .int (nI 15))]) rfl (by decide) rfl ?_
  refine V_sub [0, 1, 2, 5] (lv' := [(5, .int 0), (4, .int c.toInt8.toInt32), (0, .ref 1000107), (3, .int (nI 15))]) rfl ?_
  exact loop 15 0 rfl
theorem ceJ1_indexOf {l : Launch} (hl : l.stackTraces = false) (B : Nat) {σ : ab_S} {c : Int32} : ab_Mt l yJ1_indexOf_4cfef mdJ1_indexOf_4cfef B 1 40 0 0 [.ref 1000107, .int c, .int 0, .int (nI 15)] σ (skQ σ (ski c)) skE := by
  refine V_met hl ⟨rfl, rfl, by decide⟩ rfl dkJ1_indexOf_4cfef (Nat.le_of_ble_eq_true rfl) ?_
  show V l mdJ1_indexOf_4cfef B 1 40 0 0 (ab_End _ _) 0 [(0, .ref 1000107), (1, .int c), (2, .int 0), (3, .int (nI 15))] [] σ
  refine V_iload_n 0 1 rfl rfl rfl ?_
  refine V_callS 1 1 (as := [.int c]) (rest := []) rfl mlJ1_88 yvJ1_canEncode_9a6ad rfl rfl (by decide) (by decide) (Nat.le_of_ble_eq_true rfl) (by decide) (by decide) (fun B9 => ceJ1_canEncode hl B9) (fun X9 τ9 h9 => absurd h9 id) ?_
  rintro v9 σ9 ⟨rfl, rfl⟩
  refine V_if_ne 2 (x := (if c < 0 then 0 else if 255 < c then 0 else 1)) (st := []) (tgt := 9) rfl (by decide) (fun hc => ?_) (fun hc => ?_)
  · have hi : ski c = skF c.toInt8.toInt32 skG 0 := by
      unfold ski
      by_cases g1 : c < 0
      · simp [g1] at hc
      · by_cases g2 : (255 : Int32) < c
        · simp [g1, g2] at hc
        · rw [if_neg g1, if_neg g2]
    rw [hi]
    refine V_iload_n 5 2 rfl rfl rfl ?_
    refine V_iconst 6 (v := 0) rfl (by decide) ?_
    refine V_max 7 rfl mlJ1_92 mx_1 mx_2 mx_3 (by decide) (Nat.le_of_ble_eq_true rfl) ?_
    rw [show (if (0 : Int32) < 0 then (0 : Int32) else 0) = 0 from by decide]
    refine V_istore_n 8 (lv' := [(2, .int 0), (0, .ref 1000107), (1, .int c), (3, .int (nI 15))]) rfl rfl (by decide) rfl ?_
    refine V_pc 15 rfl ?_
    refine V_iload_n 9 3 rfl rfl rfl ?_
    refine V_aload_n 10 1 rfl rfl rfl ?_
    refine V_blen 11 (n := 1000007) rfl ⟨by decide, by decide⟩ ?_
    refine V_min 12 rfl mlJ1_38 mn_1 mx_2 mn_3 (by decide) (Nat.le_of_ble_eq_true rfl) ?_
    rw [show (if nI (skn 1000007) < nI 15 then nI (skn 1000007) else nI 15) = nI 15 from by decide]
    refine V_istore_n 13 (lv' := [(3, .int (nI 15)), (2, .int 0), (0, .ref 1000107), (1, .int c)]) rfl rfl (by decide) rfl ?_
    refine V_pc 22 rfl ?_
    refine V_iload_n 14 1 rfl rfl rfl ?_
    refine V_iload_n 15 0 rfl rfl rfl ?_
    refine V_icmp_lt 16 (tgt := 29) rfl (by decide) (fun hc => ?_) (fun hc => absurd (by decide) hc)
    refine V_aload_n 19 2 rfl rfl rfl ?_
    refine V_iload_n 20 3 rfl rfl rfl ?_
    refine V_iload_n 21 1 rfl rfl rfl ?_
    refine V_iload_n 22 0 rfl rfl rfl ?_
    refine V_callS 23 4 (as := [.ref 1000107, .int c, .int 0, .int (nI 15)]) (rest := []) rfl mlJ1_95 yvJ1_indexOfChar_4cfef rfl rfl (by decide) (by decide) (Nat.le_of_ble_eq_true rfl) (by decide) (by decide) (fun B9 => ceJ1_indexOfChar hl B9) (fun X9 τ9 h9 => absurd h9 id) ?_
    rintro v9 σ9 ⟨rfl, rfl⟩
    exact V_iret 24 rfl rfl ⟨rfl, rfl⟩
  · have hi : ski c = -1 := by
      unfold ski
      by_cases g1 : c < 0
      · rw [if_pos g1]
      · by_cases g2 : (255 : Int32) < c
        · rw [if_neg g1, if_pos g2]
        · simp [g1, g2] at hc
    rw [hi]
    refine V_pc 7 rfl ?_
    refine V_iconst 3 (v := -1) rfl (by decide) ?_
    exact V_iret 4 rfl rfl ⟨rfl, rfl⟩
theorem ceJ0_indexOf3 {l : Launch} (hl : l.stackTraces = false) (B : Nat) {σ : ab_S} {c : Int32} : ab_Mt l yJ0_indexOf_7cf53 mdJ0_indexOf_7cf53 B 2 63 0 0 [.ref 1000007, .int c, .int 0] σ (skQ σ (ski c)) skE := by
  have hn : isS 1000007 := ⟨by decide, by decide⟩
  refine V_met hl ⟨rfl, rfl, by decide⟩ rfl dkJ0_indexOf_7cf53 (Nat.le_of_ble_eq_true rfl) ?_
  show V l mdJ0_indexOf_7cf53 B 2 63 0 0 (ab_End _ _) 0 [(0, .ref 1000007), (1, .int c), (2, .int 0)] [] σ
  refine V_aload_n 0 0 rfl rfl rfl ?_
  refine V_callK 1 0 (as := []) (rest := []) rfl mlJ0_492 yvJ0_isLatin1_aae02 rfl rfl hn (by decide) (by decide) (Nat.le_of_ble_eq_true rfl) (by decide) (by decide) (fun B9 => ceJ0_isLatin1 hl B9 hn) (fun X9 τ9 h9 => absurd h9 id) ?_
  rintro v9 σ9 ⟨rfl, rfl⟩
  refine V_if_eq 2 (x := 1) (st := []) (tgt := 23) rfl (by decide) (fun hc => absurd hc (by decide)) (fun hc => ?_)
  refine V_pc 7 rfl ?_
  refine V_aload_n 3 0 rfl rfl rfl ?_
  refine V_gstr 4 rfl flJ0_9 hn ?_
  refine V_iload_n 5 1 rfl rfl rfl ?_
  refine V_iload_n 6 2 rfl rfl rfl ?_
  refine V_aload_n 7 0 rfl rfl rfl ?_
  refine V_callK 8 0 (as := []) (rest := [.int 0, .int c, .ref 1000107]) rfl mlJ0_505 yvJ0_length_8abf5 rfl rfl hn (by decide) (by decide) (Nat.le_of_ble_eq_true rfl) (by decide) (by decide) (fun B9 => ceJ0_length hl B9 hn) (fun X9 τ9 h9 => absurd h9 id) ?_
  rintro v9 σ9 ⟨rfl, rfl⟩
  refine V_callS 9 4 (as := [.ref 1000107, .int c, .int 0, .int (nI 15)]) (rest := []) rfl mlJ0_637 yvJ1_indexOf_4cfef rfl rfl (by decide) (by decide) (Nat.le_of_ble_eq_true rfl) (by decide) (by decide) (fun B9 => ceJ1_indexOf hl B9) (fun X9 τ9 h9 => absurd h9 id) ?_
  rintro v9 σ9 ⟨rfl, rfl⟩
  refine V_goto 10 (tgt := 36) rfl (by decide) ?_
  exact V_iret 18 rfl rfl ⟨rfl, rfl⟩
theorem ceJ0_indexOf {l : Launch} (hl : l.stackTraces = false) (B : Nat) {σ : ab_S} {c : Int32} : ab_Mt l yJ0_indexOf_0f7a4 mdJ0_indexOf_0f7a4 B 3 85 0 0 [.ref 1000007, .int c] σ (skQ σ (ski c)) skE := by
  have hn : isS 1000007 := ⟨by decide, by decide⟩
  refine V_met hl ⟨rfl, rfl, by decide⟩ rfl dkJ0_indexOf_0f7a4 (Nat.le_of_ble_eq_true rfl) ?_
  show V l mdJ0_indexOf_0f7a4 B 3 85 0 0 (ab_End _ _) 0 [(0, .ref 1000007), (1, .int c)] [] σ
  refine V_aload_n 0 0 rfl rfl rfl ?_
  refine V_iload_n 1 1 rfl rfl rfl ?_
  refine V_iconst 2 (v := 0) rfl (by decide) ?_
  refine V_callK 3 2 (as := [.int c, .int 0]) (rest := []) rfl mlJ0_633 yvJ0_indexOf_7cf53 rfl rfl hn (by decide) (by decide) (Nat.le_of_ble_eq_true rfl) (by decide) (by decide) (fun B9 => ceJ0_indexOf3 hl B9) (fun X9 τ9 h9 => absurd h9 id) ?_
  rintro v9 σ9 ⟨rfl, rfl⟩
  exact V_iret 4 rfl rfl ⟨rfl, rfl⟩
end SKM
