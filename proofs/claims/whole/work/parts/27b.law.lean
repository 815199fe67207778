/-! ===== the law's own walk: its script lies outside the world, by the number 1000000 ===== -/
def ab_LZ (b L : Nat) (xs : Nat → Int32) : ab_Zt := (fun s A ad0 => va_X b L xs s s.heap ∧ b < s.heap.size ∧ (∀ q, A q → s.heap.size ≤ q) ∧ ad0 1000000 = b, fun below args s mc ms _ _ _ _ _ t => mc ≤ 601024 → ms ≤ 7293034 → lw_Z below args s t)
section LAW
variable {l : Launch} {d : ab_M} {B fr lo kc ks : Nat} {pc : Nat} {lv : List (Nat × Value)} {st : List Value} {σ : ab_S} {b L : Nat} {xs : Nat → Int32}
theorem V_sld (k : Nat) {x : Int32} (hk : d.2.2.2.2.2.2[k]? = some (pc, .iaload, 1)) (hin : vp_in x L) (kk : V l d B fr lo kc ks (ab_LZ b L xs) (pc + 1) lv (.int (xs x.toNatClampNeg) :: st) σ) : V l d B fr lo kc ks (ab_LZ b L xs) pc lv (.int x :: .ref 1000000 :: st) σ := by
  intro p e R s m args below meth c0 D cA A n0 ad0 mc ms hC h1 h2 h3 ad H locs cells slots ls h4 h5 hD
  obtain ⟨⟨z1, z2, z3, z4⟩, z5⟩ := h1
  have ha : ad 1000000 = b := (hD.2.2.2.1 1000000 (Or.inr (Nat.le_refl _))).trans z4
  show W p l e R s m args below meth c0 H locs cells slots _ (F0 m pc ls (.int x :: .ref (ad 1000000) :: st.map (ab_v ad)))
  rw [ha]
  exact va_sld hC.1.1 hC.1.2 z1 z2 (fun h => absurd (z3 b h) (Nat.not_le.mpr z2)) hD.2.2.1 hin (hC.dec hk) (kk p e R s m args below meth c0 D cA A n0 ad0 mc ms hC ⟨⟨z1, z2, z3, z4⟩, z5⟩ h2 h3 ad H locs cells slots ls h4 h5 hD)
theorem V_slen (k : Nat) (hk : d.2.2.2.2.2.2[k]? = some (pc, .arraylength, 1)) (kk : V l d B fr lo kc ks (ab_LZ b L xs) (pc + 1) lv (.int (nI L) :: st) σ) : V l d B fr lo kc ks (ab_LZ b L xs) pc lv (.ref 1000000 :: st) σ := by
  intro p e R s m args below meth c0 D cA A n0 ad0 mc ms hC h1 h2 h3 ad H locs cells slots ls h4 h5 hD
  obtain ⟨⟨z1, z2, z3, z4⟩, z5⟩ := h1
  have ha : ad 1000000 = b := (hD.2.2.2.1 1000000 (Or.inr (Nat.le_refl _))).trans z4
  show W p l e R s m args below meth c0 H locs cells slots _ (F0 m pc ls (.ref (ad 1000000) :: st.map (ab_v ad)))
  rw [ha]
  exact va_slen hC.1.1 hC.1.2 z1 z2 (fun h => absurd (z3 b h) (Nat.not_le.mpr z2)) hD.2.2.1 (hC.dec hk) (kk p e R s m args below meth c0 D cA A n0 ad0 mc ms hC ⟨⟨z1, z2, z3, z4⟩, z5⟩ h2 h3 ad H locs cells slots ls h4 h5 hD)
theorem lw_retG {p : Program} {e : Env} {R : Room} {s : State} {m : MethodId} {args : Array Value} {below : List Frame} {meth : Method} {c : Code} {cells slots : Nat} (hx : p.tables.exec = Jvm.exec) (hb : c.code = code) (hr : meth.sig.returnType = ret) (hlocks : meth.locks = false) {H : Heap} {ls : Array Slot} (hdg : decode code pc = .ok (.ireturn, 1)) :
    W p l e R s m args below meth c H [] cells slots (fun t => ∃ o, t.status = .running ∧ Ended t below o ∧ o = .returned (some (.int 1)) ∧ Framed s o t [] cells slots) (F0 m pc ls [.int 1]) := by
  intro T hT X
  obtain ⟨fs, hret, hrun, hended, hW, hframe⟩ := X.leave (v := some (.int 1)) (hlocks := hlocks) (fun h => by rw [hr] at h; cases h)
  have hmeth' : T.vm.method? m = some meth := X.method'
  refine ⟨T.setFrames fs, ?_, .returned (some (.int 1)), hrun, hended, rfl, ⟨_, rfl⟩, hW, hframe⟩
  jvm_step X.here [X.here.top, hx, hb, hdg, hmeth', hr, ret, narrow_b1]
  (try refine ⟨rfl, ?_⟩); (try refine ⟨rfl, ?_⟩)
  first | (intro acts; rw [hret _ acts rfl rfl rfl]) | rw [hret _ _ rfl rfl rfl]
  exact Steps.refl _
theorem V_law1 (k : Nat) (hd : d.2.2.1 = code ∧ d.2.2.2.2.1 = ret) (hk : d.2.2.2.2.2.2[k]? = some (pc, .ireturn, 1)) : V l d B fr lo kc ks (ab_LZ b L xs) pc lv [.int 1] σ := by
  intro p e R s m args below meth c0 D cA A n0 ad0 mc ms hC h1 h2 h3 ad H locs cells slots ls h4 h5 hD
  obtain ⟨⟨z1, z2, z3, z4⟩, z5⟩ := h1
  refine va_forget (fun q hq => z3 _ (hD.2.2.1.2.2 q hq)) ?_
  intro T hT X
  obtain ⟨t, a1, o, b1, b2, b3, b4⟩ := lw_retG (l := l) (pc := pc) (e := e) (ls := ls) hC.1.1 (hC.1.2.trans hd.1) (hC.2.1.2.trans hd.2) hC.2.2.2.1.1 (by rw [← hd.1]; exact hC.dec hk) T hT X
  refine ⟨t, a1, fun g1 g2 => ⟨o, b1, b2, b3, ?_⟩⟩
  obtain ⟨f1, f2, f3⟩ := b4
  exact ⟨f1, f2, f3.mono (by omega) (by omega)⟩
end LAW
