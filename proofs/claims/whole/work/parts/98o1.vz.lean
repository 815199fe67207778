/-! ===== values of attributes that are not there ===== -/
def KZ (Γ : GRT) (T : TST) (kp : Nat → Nat → VL8) : Prop := ∀ k a, ¬ (k < T.N ∧ a < Γ.1.2.2.1 (hdS Γ (T.pr k))) → kp k a = some 0
section EV
variable {Γ : GRT} {T : TST}
theorem kz_stp (hG : GOK Γ) (hT : TOK Γ T) {b : Bool} {S : MST} (h : MOK Γ T b S) (hz : KZ Γ T S.kp) : KZ Γ T (mS1 Γ T b S S.sk).kp := by
  obtain ⟨e, κ, ⟨n, bk, r, h⟩ | h⟩ := h
  · obtain ⟨_, e', κ', _, _, hI⟩ := mi_st4 hG hT h
    have es : mS1 Γ T b S S.sk = mTp Γ T b S n bk r (ins Γ S) := by rw [h.1]; rfl
    rw [es]
    generalize mTp Γ T b S n bk r (ins Γ S) = S' at *
    have h4 := h.2.2.2.1.1
    obtain ⟨hV, hL, hx, _⟩ := id hG
    rcases hI with ⟨x, j, j1, s1, i1, i2, i3, i4, i5⟩ | ⟨x, v, i1, i2, i3, i4, i5⟩ | ⟨o, w, i1, i2, i3, i4, i5⟩ | ⟨i1, i2, i3, i4, i5⟩
    · rw [i4]; exact hz
    · have hp : T.pr n < Γ.2.1 := ((hT.2.2 n h4).1).1
      have hd := (plI_A hL hV hp (svs Γ (hdS Γ (T.pr n)))).1 x i1.2.2.1
      obtain ⟨a1, a2, _⟩ := at_src hV hT h4 hd
      intro k a hn
      have hne : ¬ (k = T.ch n (x / 8) ∧ a = x % 8) := fun q => hn (by rw [q.1, q.2]; exact ⟨a1, a2⟩)
      have eu : uf2 S.kp (T.ch n (x / 8)) (x % 8) v k a = S.kp k a := by
        unfold uf2
        by_cases c1 : k = T.ch n (x / 8)
        · rw [c1, uf_s, uf_o _ _ (fun q => hne ⟨c1, q⟩)]
        · rw [uf_o _ _ c1]
      rw [i3]
      by_cases q : b = false ∧ gK Γ (T.pr n) x + 13 = 16
      · have e2 : mSt T b S n (gK Γ (T.pr n) x + 13, gN Γ (T.pr n) x, x) [v] = (S.pc + 1, S.sk, S.vi, [], S.kp, uf S.va (gN Γ (T.pr n) x) v) := if_pos q
        rw [e2]; exact hz k a hn
      · have e2 : mSt T b S n (gK Γ (T.pr n) x + 13, gN Γ (T.pr n) x, x) [v] = (S.pc + 1, S.sk, S.vi, [], uf2 S.kp (T.ch n (x / 8)) (x % 8) v, S.va) := if_neg q
        rw [e2]
        show uf2 S.kp (T.ch n (x / 8)) (x % 8) v k a = some 0
        rw [eu]; exact hz k a hn
    · rw [i2]; exact hz
    · rw [i2]; exact hz
  · rw [h.1]; exact hz
theorem kz_run (hG : GOK Γ) (hT : TOK Γ T) {b : Bool} : ∀ f S, MOK Γ T b S → KZ Γ T S.kp → KZ Γ T (mRun Γ T b f S).kp
  | 0, _, _, hz => hz
  | f + 1, S, h, hz => kz_run hG hT f _ (h.s hG hT) (kz_stp hG hT h hz)
theorem val_z (hG : GOK Γ) (hT : TOK Γ T) : KZ Γ T (val Γ T) := kz_run hG hT W75 (mSt0 Γ T) (mSt0_ok hG hT) (fun _ _ _ => rfl)
end EV
