/-! ===== the first symbol has nothing that comes down ===== -/
def D0s (G : SYT) : Prop := ∀ a, G.2.2.2.1 0 a = false
theorem D0s_A {G : SYT} {s : Nat} {l : List Nat} {d : Bool} (h : D0s G) (hd : s ≠ 0 ∨ d = false) : D0s (gA G s l d) := by
  intro a
  show uf G.2.2.2.1 s (uf (G.2.2.2.1 s) (G.2.2.1 s) d) 0 a = false
  by_cases e : 0 = s
  · rw [← e, uf_s]
    by_cases e2 : a = G.2.2.1 0
    · rw [e2, uf_s]; rcases hd with hd | hd
      · exact absurd e.symm hd
      · exact hd
    · rw [uf_o _ _ e2]; exact h a
  · rw [uf_o _ _ e]; exact h a
theorem D0s_S {G : SYT} {l : List Nat} (h : D0s G) : D0s (gS G l) := by
  intro a
  show uf G.2.2.2.1 G.1 (fun _ => false) 0 a = false
  by_cases e : 0 = G.1
  · rw [← e, uf_s]
  · rw [uf_o _ _ e]; exact h a
theorem D0s_At {t : Nat → Nat} {n s : Nat} {d : Bool} (hd : s ≠ 0 ∨ d = false) : ∀ f q G, D0s G → D0s (pAt t n s d f q G).2.2
  | 0, _, _, h => h
  | f + 1, q, G, h => by
    rw [pAt]
    split
    · split
      · exact D0s_At hd f _ _ (D0s_A h hd)
      · exact D0s_A h hd
    · exact h
theorem D0s_1 {t : Nat → Nat} {n s q : Nat} {G : SYT} (h : D0s G) : D0s (pS1 t n s q G).2.2 := by
  have h3 : ∀ q G, D0s G → D0s (pS3 t n q G).2.2 := by intro q G h; unfold pS3; split <;> exact h
  have h2 : ∀ q G, D0s G → D0s (pS2 t n s q G).2.2 := by
    intro q G h
    unfold pS2
    split
    · split
      · exact h3 _ _ (D0s_At (Or.inr rfl) _ _ _ h)
      · exact D0s_At (Or.inr rfl) _ _ _ h
    · exact h3 _ _ h
  unfold pS1
  split
  · split
    · exact h
    · rename_i hs
      split
      · exact h2 _ _ (D0s_At (Or.inl hs) _ _ _ h)
      · exact D0s_At (Or.inl hs) _ _ _ h
  · exact h2 _ _ h
theorem D0s_y {t : Nat → Nat} {n q : Nat} {G : SYT} (h : D0s G) : D0s (pSy t n q G).2.2 := by
  unfold pSy
  split
  · split
    · exact D0s_1 (D0s_S h)
    · exact h
  · exact h
theorem D0s_ys {t : Nat → Nat} {n : Nat} : ∀ f q G, D0s G → D0s (pSys t n f q G).2.2
  | 0, _, _, h => h
  | f + 1, q, G, h => by
    rw [pSys]
    split
    · split
      · exact D0s_ys f _ _ (D0s_y h)
      · exact h
    · exact h
theorem pRr_1 {t : Nat → Nat} {n : Nat} : ∀ f q Γ, (pRr t n f q Γ).2.2.1 = Γ.1
  | 0, _, _ => rfl
  | f + 1, q, Γ => by
    rw [pRr]
    split
    · split
      · rfl
      · rw [pRr_1 f]; rfl
    · rfl
theorem pGr_D0 (t : Nat → Nat) (n : Nat) : D0 (pGr t n).2.2 := by
  have h0 : D0s sy0 := fun a => rfl
  have h : D0s (pGr t n).2.2.1 := by
    unfold pGr pG1
    split
    · unfold pG2
      split
      · rw [pRr_1]; exact D0s_ys _ _ _ (D0s_y h0)
      · exact D0s_ys _ _ _ (D0s_y h0)
    · exact h0
  exact fun a _ => h a
