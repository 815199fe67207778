/-! ===== the world behind the two constructors ===== -/
def SH : List (Nat × Nat) := [(11, 0), (8, 0), (23, 2400), (6, 0), (20, 2401), (20, 2401), (21, 2401), (1, 0), (10, 0), (3, 0), (20, 960), (4, 0), (20, 1410), (20, 1410), (20, 1410), (20, 210), (20, 960), (20, 840), (20, 4), (7, 0), (20, 1008), (20, 96), (20, 96), (5, 0), (20, 3000), (20, 3000), (20, 3000), (20, 210), (2, 0), (21, 2000), (21, 96), (21, 40), (20, 250), (20, 250), (20, 250), (2, 0), (21, 2000), (21, 96), (21, 40), (20, 250), (20, 250), (20, 250), (21, 2000), (20, 250), (0, 0), (21, 12), (20, 12), (20, 12), (21, 96), (21, 30), (20, 30), (20, 120), (22, 30), (20, 30), (20, 960), (20, 960), (20, 960), (20, 2400), (20, 2400), (20, 96), (20, 96), (20, 12), (0, 0), (21, 12), (20, 12), (20, 12), (21, 96), (21, 30), (20, 30), (20, 120), (22, 30), (20, 30), (20, 960), (20, 960), (20, 960), (20, 2400), (20, 2400), (20, 96), (20, 96), (20, 12), (9, 0), (20, 250), (20, 250), (20, 250), (20, 250), (20, 1000), (9, 0), (20, 250), (20, 250), (20, 250), (20, 250), (20, 1000), (12, 0), (20, 2400), (21, 7), (20, 2400), (20, 2400), (20, 104), (20, 832), (20, 13), (20, 13), (20, 248), (22, 31), (20, 31), (20, 124), (20, 992), (20, 992), (20, 2500), (20, 2500), (21, 992), (21, 104), (20, 104), (20, 13), (20, 1600), (20, 187), (20, 187), (20, 992), (20, 992), (20, 744), (20, 744), (22, 32), (20, 4), (22, 8112), (20, 104), (20, 40), (22, 40), (20, 40), (20, 80), (20, 251), (20, 251), (20, 251), (20, 251), (20, 753), (20, 251), (20, 251), (20, 251), (20, 251), (20, 251), (20, 251), (20, 2000), (22, 2000), (22, 2000), (20, 2000), (22, 2000), (20, 64), (22, 64), (20, 7000), (20, 7000), (20, 187), (20, 2500), (20, 2500), (20, 2500), (20, 2500), (20, 2500), (20, 251), (20, 251), (20, 251), (20, 3000), (22, 3000), (20, 104), (22, 104), (20, 2008), (22, 2008), (21, 1)]
def WT : List (Nat × Nat × Nat) := [(0, 0, 1), (0, 1, 7), (0, 2, 8), (0, 3, 9), (0, 4, 11), (0, 5, 19), (0, 6, 23), (0, 7, 28), (0, 8, 35), (0, 9, 42), (0, 10, 43), (1, 0, 2), (3, 0, 1), (3, 1, 4), (3, 2, 5), (3, 3, 6), (7, 0, 3), (8, 0, 3), (9, 0, 10), (11, 0, 12), (11, 1, 13), (11, 2, 14), (11, 3, 15), (11, 4, 16), (11, 5, 17), (11, 6, 18), (19, 0, 11), (19, 2, 20), (19, 3, 21), (19, 4, 22), (23, 0, 11), (23, 1, 19), (23, 3, 24), (23, 4, 25), (23, 5, 26), (23, 6, 27), (28, 0, 23), (28, 4, 29), (28, 5, 30), (28, 6, 31), (28, 7, 32), (28, 8, 33), (28, 9, 34), (35, 0, 23), (35, 4, 36), (35, 5, 37), (35, 6, 38), (35, 7, 39), (35, 8, 40), (35, 9, 41), (44, 1, 45), (44, 2, 46), (44, 3, 47), (44, 4, 48), (44, 6, 49), (44, 7, 50), (44, 8, 51), (44, 9, 52), (44, 10, 53), (44, 11, 54), (44, 12, 55), (44, 13, 56), (44, 15, 57), (44, 16, 58), (44, 17, 59), (44, 18, 60), (44, 19, 61), (62, 1, 63), (62, 2, 64), (62, 3, 65), (62, 4, 66), (62, 6, 67), (62, 7, 68), (62, 8, 69), (62, 9, 70), (62, 10, 71), (62, 11, 72), (62, 12, 73), (62, 13, 74), (62, 15, 75), (62, 16, 76), (62, 17, 77), (62, 18, 78), (62, 19, 79), (80, 1, 81), (80, 2, 82), (80, 3, 83), (80, 4, 84), (80, 5, 85), (86, 1, 87), (86, 2, 88), (86, 3, 89), (86, 4, 90), (86, 5, 91), (92, 1, 93), (92, 3, 94), (92, 5, 95), (92, 7, 96), (92, 10, 97), (92, 11, 98), (92, 12, 99), (92, 13, 100), (92, 15, 101), (92, 16, 102), (92, 17, 103), (92, 18, 104), (92, 19, 105), (92, 20, 106), (92, 22, 107), (92, 23, 108), (92, 24, 109), (92, 25, 110), (92, 26, 111), (92, 27, 112), (92, 29, 113), (92, 30, 114), (92, 31, 115), (92, 32, 116), (92, 33, 117), (92, 34, 118), (92, 35, 119), (92, 36, 120), (92, 37, 121), (92, 38, 122), (92, 39, 123), (92, 46, 124), (92, 47, 125), (92, 48, 126), (92, 50, 127), (92, 54, 128), (92, 55, 129), (92, 56, 130), (92, 57, 131), (92, 58, 132), (92, 60, 133), (92, 61, 134), (92, 62, 135), (92, 63, 136), (92, 65, 137), (92, 66, 138), (92, 67, 139), (92, 68, 140), (92, 69, 141), (92, 70, 142), (92, 71, 143), (92, 72, 144), (92, 73, 145), (92, 75, 146), (92, 76, 147), (92, 77, 148), (92, 78, 149), (92, 79, 150), (92, 80, 151), (92, 81, 152), (92, 82, 153), (92, 87, 154), (92, 88, 155), (92, 89, 156), (92, 91, 157), (92, 92, 158), (92, 93, 159), (92, 94, 160), (92, 95, 161), (92, 96, 162)]
def Wire (σ : ab_S) : Prop := σ.1 = SH ∧ ∀ q ∈ WT, σ.2.2.2 q.1 q.2.1 = some q.2.2
theorem wsh {σ : ab_S} (h : Wire σ) {i : Nat} {q : Nat × Nat} (e : SH[i]? = some q) : σ.1[i]? = some q := by rw [h.1]; exact e
theorem wrf {σ : ab_S} (h : Wire σ) (j : Nat) {i k r : Nat} (e : WT[j]? = some (i, k, r)) : σ.2.2.2 i k = some r := h.2 (i, k, r) (List.mem_of_getElem? e)
theorem wire_I {σ σ' : ab_S} {i k : Nat} {x : Int32} (e : σ' = ab_I σ i k x) (h : Wire σ) : Wire σ' := by subst e; exact h
theorem wire_L {σ σ' : ab_S} {i k : Nat} {x : Int64} (e : σ' = ab_L σ i k x) (h : Wire σ) : Wire σ' := by subst e; exact h
theorem wire_R {σ σ' : ab_S} {i k : Nat} {x : Option Nat} (e : σ' = ab_R σ i k x) (hn : WT.all (fun q => !(q.1 == i && q.2.1 == k)) = true) (h : Wire σ) : Wire σ' := by
  subst e
  refine ⟨h.1, fun q hq => ?_⟩
  have h9 := List.all_eq_true.mp hn q hq
  have h8 := h.2 q hq
  by_cases h1 : q.1 = i
  · by_cases h2 : q.2.1 = k
    · simp [h1, h2] at h9
    · simp only [ab_R, h1, h2, if_true, if_false]; rw [← h1]; exact h8
  · simp only [ab_R, h1, if_false]; exact h8
theorem nb1 {v : Int32} (h : v = 0 ∨ v = 1) : narrow .boolean (.int v) = .int v := by rcases h with rfl | rfl <;> rfl
theorem nb2 {v : Int32} (h : v = 0 ∨ v = 1) : fits .boolean (.int v) = true := by rcases h with rfl | rfl <;> rfl
def isG (g : Nat) : Prop := g = 44 ∨ g = 62
theorem wG {σ : ab_S} {g : Nat} (h : Wire σ) (hg : isG g) : σ.1[g]? = some (0, 0) := by rcases hg with rfl | rfl <;> exact wsh h rfl
theorem wG_f1 {σ : ab_S} {g : Nat} (h : Wire σ) (hg : isG g) : σ.2.2.2 g 1 = some (g + 1) := by rcases hg with rfl | rfl <;> first | exact wrf h 50 rfl | exact wrf h 67 rfl
theorem wG_s1 {g : Nat} (hg : isG g) : SH[g + 1]? = some (21, 12) := by rcases hg with rfl | rfl <;> rfl
theorem wG_a1 {σ : ab_S} {g : Nat} (h : Wire σ) (hg : isG g) : σ.1[g + 1]? = some (21, 12) := by rcases hg with rfl | rfl <;> exact wsh h rfl
theorem wG_f2 {σ : ab_S} {g : Nat} (h : Wire σ) (hg : isG g) : σ.2.2.2 g 2 = some (g + 2) := by rcases hg with rfl | rfl <;> first | exact wrf h 51 rfl | exact wrf h 68 rfl
theorem wG_s2 {g : Nat} (hg : isG g) : SH[g + 2]? = some (20, 12) := by rcases hg with rfl | rfl <;> rfl
theorem wG_a2 {σ : ab_S} {g : Nat} (h : Wire σ) (hg : isG g) : σ.1[g + 2]? = some (20, 12) := by rcases hg with rfl | rfl <;> exact wsh h rfl
theorem wG_f3 {σ : ab_S} {g : Nat} (h : Wire σ) (hg : isG g) : σ.2.2.2 g 3 = some (g + 3) := by rcases hg with rfl | rfl <;> first | exact wrf h 52 rfl | exact wrf h 69 rfl
theorem wG_s3 {g : Nat} (hg : isG g) : SH[g + 3]? = some (20, 12) := by rcases hg with rfl | rfl <;> rfl
theorem wG_a3 {σ : ab_S} {g : Nat} (h : Wire σ) (hg : isG g) : σ.1[g + 3]? = some (20, 12) := by rcases hg with rfl | rfl <;> exact wsh h rfl
theorem wG_f4 {σ : ab_S} {g : Nat} (h : Wire σ) (hg : isG g) : σ.2.2.2 g 4 = some (g + 4) := by rcases hg with rfl | rfl <;> first | exact wrf h 53 rfl | exact wrf h 70 rfl
theorem wG_s4 {g : Nat} (hg : isG g) : SH[g + 4]? = some (21, 96) := by rcases hg with rfl | rfl <;> rfl
theorem wG_a4 {σ : ab_S} {g : Nat} (h : Wire σ) (hg : isG g) : σ.1[g + 4]? = some (21, 96) := by rcases hg with rfl | rfl <;> exact wsh h rfl
theorem wG_f6 {σ : ab_S} {g : Nat} (h : Wire σ) (hg : isG g) : σ.2.2.2 g 6 = some (g + 5) := by rcases hg with rfl | rfl <;> first | exact wrf h 54 rfl | exact wrf h 71 rfl
theorem wG_s5 {g : Nat} (hg : isG g) : SH[g + 5]? = some (21, 30) := by rcases hg with rfl | rfl <;> rfl
theorem wG_a5 {σ : ab_S} {g : Nat} (h : Wire σ) (hg : isG g) : σ.1[g + 5]? = some (21, 30) := by rcases hg with rfl | rfl <;> exact wsh h rfl
theorem wG_f7 {σ : ab_S} {g : Nat} (h : Wire σ) (hg : isG g) : σ.2.2.2 g 7 = some (g + 6) := by rcases hg with rfl | rfl <;> first | exact wrf h 55 rfl | exact wrf h 72 rfl
theorem wG_s6 {g : Nat} (hg : isG g) : SH[g + 6]? = some (20, 30) := by rcases hg with rfl | rfl <;> rfl
theorem wG_a6 {σ : ab_S} {g : Nat} (h : Wire σ) (hg : isG g) : σ.1[g + 6]? = some (20, 30) := by rcases hg with rfl | rfl <;> exact wsh h rfl
theorem wG_f8 {σ : ab_S} {g : Nat} (h : Wire σ) (hg : isG g) : σ.2.2.2 g 8 = some (g + 7) := by rcases hg with rfl | rfl <;> first | exact wrf h 56 rfl | exact wrf h 73 rfl
theorem wG_s7 {g : Nat} (hg : isG g) : SH[g + 7]? = some (20, 120) := by rcases hg with rfl | rfl <;> rfl
theorem wG_a7 {σ : ab_S} {g : Nat} (h : Wire σ) (hg : isG g) : σ.1[g + 7]? = some (20, 120) := by rcases hg with rfl | rfl <;> exact wsh h rfl
theorem wG_f9 {σ : ab_S} {g : Nat} (h : Wire σ) (hg : isG g) : σ.2.2.2 g 9 = some (g + 8) := by rcases hg with rfl | rfl <;> first | exact wrf h 57 rfl | exact wrf h 74 rfl
theorem wG_s8 {g : Nat} (hg : isG g) : SH[g + 8]? = some (22, 30) := by rcases hg with rfl | rfl <;> rfl
theorem wG_a8 {σ : ab_S} {g : Nat} (h : Wire σ) (hg : isG g) : σ.1[g + 8]? = some (22, 30) := by rcases hg with rfl | rfl <;> exact wsh h rfl
theorem wG_f10 {σ : ab_S} {g : Nat} (h : Wire σ) (hg : isG g) : σ.2.2.2 g 10 = some (g + 9) := by rcases hg with rfl | rfl <;> first | exact wrf h 58 rfl | exact wrf h 75 rfl
theorem wG_s9 {g : Nat} (hg : isG g) : SH[g + 9]? = some (20, 30) := by rcases hg with rfl | rfl <;> rfl
theorem wG_a9 {σ : ab_S} {g : Nat} (h : Wire σ) (hg : isG g) : σ.1[g + 9]? = some (20, 30) := by rcases hg with rfl | rfl <;> exact wsh h rfl
theorem wG_f11 {σ : ab_S} {g : Nat} (h : Wire σ) (hg : isG g) : σ.2.2.2 g 11 = some (g + 10) := by rcases hg with rfl | rfl <;> first | exact wrf h 59 rfl | exact wrf h 76 rfl
theorem wG_s10 {g : Nat} (hg : isG g) : SH[g + 10]? = some (20, 960) := by rcases hg with rfl | rfl <;> rfl
theorem wG_a10 {σ : ab_S} {g : Nat} (h : Wire σ) (hg : isG g) : σ.1[g + 10]? = some (20, 960) := by rcases hg with rfl | rfl <;> exact wsh h rfl
theorem wG_f12 {σ : ab_S} {g : Nat} (h : Wire σ) (hg : isG g) : σ.2.2.2 g 12 = some (g + 11) := by rcases hg with rfl | rfl <;> first | exact wrf h 60 rfl | exact wrf h 77 rfl
theorem wG_s11 {g : Nat} (hg : isG g) : SH[g + 11]? = some (20, 960) := by rcases hg with rfl | rfl <;> rfl
theorem wG_a11 {σ : ab_S} {g : Nat} (h : Wire σ) (hg : isG g) : σ.1[g + 11]? = some (20, 960) := by rcases hg with rfl | rfl <;> exact wsh h rfl
theorem wG_f13 {σ : ab_S} {g : Nat} (h : Wire σ) (hg : isG g) : σ.2.2.2 g 13 = some (g + 12) := by rcases hg with rfl | rfl <;> first | exact wrf h 61 rfl | exact wrf h 78 rfl
theorem wG_s12 {g : Nat} (hg : isG g) : SH[g + 12]? = some (20, 960) := by rcases hg with rfl | rfl <;> rfl
theorem wG_a12 {σ : ab_S} {g : Nat} (h : Wire σ) (hg : isG g) : σ.1[g + 12]? = some (20, 960) := by rcases hg with rfl | rfl <;> exact wsh h rfl
theorem wG_f15 {σ : ab_S} {g : Nat} (h : Wire σ) (hg : isG g) : σ.2.2.2 g 15 = some (g + 13) := by rcases hg with rfl | rfl <;> first | exact wrf h 62 rfl | exact wrf h 79 rfl
theorem wG_s13 {g : Nat} (hg : isG g) : SH[g + 13]? = some (20, 2400) := by rcases hg with rfl | rfl <;> rfl
theorem wG_a13 {σ : ab_S} {g : Nat} (h : Wire σ) (hg : isG g) : σ.1[g + 13]? = some (20, 2400) := by rcases hg with rfl | rfl <;> exact wsh h rfl
theorem wG_f16 {σ : ab_S} {g : Nat} (h : Wire σ) (hg : isG g) : σ.2.2.2 g 16 = some (g + 14) := by rcases hg with rfl | rfl <;> first | exact wrf h 63 rfl | exact wrf h 80 rfl
theorem wG_s14 {g : Nat} (hg : isG g) : SH[g + 14]? = some (20, 2400) := by rcases hg with rfl | rfl <;> rfl
theorem wG_a14 {σ : ab_S} {g : Nat} (h : Wire σ) (hg : isG g) : σ.1[g + 14]? = some (20, 2400) := by rcases hg with rfl | rfl <;> exact wsh h rfl
theorem wG_f17 {σ : ab_S} {g : Nat} (h : Wire σ) (hg : isG g) : σ.2.2.2 g 17 = some (g + 15) := by rcases hg with rfl | rfl <;> first | exact wrf h 64 rfl | exact wrf h 81 rfl
theorem wG_s15 {g : Nat} (hg : isG g) : SH[g + 15]? = some (20, 96) := by rcases hg with rfl | rfl <;> rfl
theorem wG_a15 {σ : ab_S} {g : Nat} (h : Wire σ) (hg : isG g) : σ.1[g + 15]? = some (20, 96) := by rcases hg with rfl | rfl <;> exact wsh h rfl
theorem wG_f18 {σ : ab_S} {g : Nat} (h : Wire σ) (hg : isG g) : σ.2.2.2 g 18 = some (g + 16) := by rcases hg with rfl | rfl <;> first | exact wrf h 65 rfl | exact wrf h 82 rfl
theorem wG_s16 {g : Nat} (hg : isG g) : SH[g + 16]? = some (20, 96) := by rcases hg with rfl | rfl <;> rfl
theorem wG_a16 {σ : ab_S} {g : Nat} (h : Wire σ) (hg : isG g) : σ.1[g + 16]? = some (20, 96) := by rcases hg with rfl | rfl <;> exact wsh h rfl
theorem wG_f19 {σ : ab_S} {g : Nat} (h : Wire σ) (hg : isG g) : σ.2.2.2 g 19 = some (g + 17) := by rcases hg with rfl | rfl <;> first | exact wrf h 66 rfl | exact wrf h 83 rfl
theorem wG_s17 {g : Nat} (hg : isG g) : SH[g + 17]? = some (20, 12) := by rcases hg with rfl | rfl <;> rfl
theorem wG_a17 {σ : ab_S} {g : Nat} (h : Wire σ) (hg : isG g) : σ.1[g + 17]? = some (20, 12) := by rcases hg with rfl | rfl <;> exact wsh h rfl
def isT (g : Nat) : Prop := g = 80 ∨ g = 86
theorem wT {σ : ab_S} {g : Nat} (h : Wire σ) (hg : isT g) : σ.1[g]? = some (9, 0) := by rcases hg with rfl | rfl <;> exact wsh h rfl
theorem wT_f1 {σ : ab_S} {g : Nat} (h : Wire σ) (hg : isT g) : σ.2.2.2 g 1 = some (g + 1) := by rcases hg with rfl | rfl <;> first | exact wrf h 84 rfl | exact wrf h 89 rfl
theorem wT_s1 {g : Nat} (hg : isT g) : SH[g + 1]? = some (20, 250) := by rcases hg with rfl | rfl <;> rfl
theorem wT_a1 {σ : ab_S} {g : Nat} (h : Wire σ) (hg : isT g) : σ.1[g + 1]? = some (20, 250) := by rcases hg with rfl | rfl <;> exact wsh h rfl
theorem wT_f2 {σ : ab_S} {g : Nat} (h : Wire σ) (hg : isT g) : σ.2.2.2 g 2 = some (g + 2) := by rcases hg with rfl | rfl <;> first | exact wrf h 85 rfl | exact wrf h 90 rfl
theorem wT_s2 {g : Nat} (hg : isT g) : SH[g + 2]? = some (20, 250) := by rcases hg with rfl | rfl <;> rfl
theorem wT_a2 {σ : ab_S} {g : Nat} (h : Wire σ) (hg : isT g) : σ.1[g + 2]? = some (20, 250) := by rcases hg with rfl | rfl <;> exact wsh h rfl
theorem wT_f3 {σ : ab_S} {g : Nat} (h : Wire σ) (hg : isT g) : σ.2.2.2 g 3 = some (g + 3) := by rcases hg with rfl | rfl <;> first | exact wrf h 86 rfl | exact wrf h 91 rfl
theorem wT_s3 {g : Nat} (hg : isT g) : SH[g + 3]? = some (20, 250) := by rcases hg with rfl | rfl <;> rfl
theorem wT_a3 {σ : ab_S} {g : Nat} (h : Wire σ) (hg : isT g) : σ.1[g + 3]? = some (20, 250) := by rcases hg with rfl | rfl <;> exact wsh h rfl
theorem wT_f4 {σ : ab_S} {g : Nat} (h : Wire σ) (hg : isT g) : σ.2.2.2 g 4 = some (g + 4) := by rcases hg with rfl | rfl <;> first | exact wrf h 87 rfl | exact wrf h 92 rfl
theorem wT_s4 {g : Nat} (hg : isT g) : SH[g + 4]? = some (20, 250) := by rcases hg with rfl | rfl <;> rfl
theorem wT_a4 {σ : ab_S} {g : Nat} (h : Wire σ) (hg : isT g) : σ.1[g + 4]? = some (20, 250) := by rcases hg with rfl | rfl <;> exact wsh h rfl
theorem wT_f5 {σ : ab_S} {g : Nat} (h : Wire σ) (hg : isT g) : σ.2.2.2 g 5 = some (g + 5) := by rcases hg with rfl | rfl <;> first | exact wrf h 88 rfl | exact wrf h 93 rfl
theorem wT_s5 {g : Nat} (hg : isT g) : SH[g + 5]? = some (20, 1000) := by rcases hg with rfl | rfl <;> rfl
theorem wT_a5 {σ : ab_S} {g : Nat} (h : Wire σ) (hg : isT g) : σ.1[g + 5]? = some (20, 1000) := by rcases hg with rfl | rfl <;> exact wsh h rfl
def isM (g : Nat) : Prop := g = 28 ∨ g = 35
theorem wM {σ : ab_S} {g : Nat} (h : Wire σ) (hg : isM g) : σ.1[g]? = some (2, 0) := by rcases hg with rfl | rfl <;> exact wsh h rfl
theorem wM_f0 {σ : ab_S} {g : Nat} (h : Wire σ) (hg : isM g) : σ.2.2.2 g 0 = some 23 := by rcases hg with rfl | rfl <;> first | exact wrf h 36 rfl | exact wrf h 43 rfl
theorem wM_f4 {σ : ab_S} {g : Nat} (h : Wire σ) (hg : isM g) : σ.2.2.2 g 4 = some (g + 1) := by rcases hg with rfl | rfl <;> first | exact wrf h 37 rfl | exact wrf h 44 rfl
theorem wM_s1 {g : Nat} (hg : isM g) : SH[g + 1]? = some (21, 2000) := by rcases hg with rfl | rfl <;> rfl
theorem wM_a1 {σ : ab_S} {g : Nat} (h : Wire σ) (hg : isM g) : σ.1[g + 1]? = some (21, 2000) := by rcases hg with rfl | rfl <;> exact wsh h rfl
theorem wM_f5 {σ : ab_S} {g : Nat} (h : Wire σ) (hg : isM g) : σ.2.2.2 g 5 = some (g + 2) := by rcases hg with rfl | rfl <;> first | exact wrf h 38 rfl | exact wrf h 45 rfl
theorem wM_s2 {g : Nat} (hg : isM g) : SH[g + 2]? = some (21, 96) := by rcases hg with rfl | rfl <;> rfl
theorem wM_a2 {σ : ab_S} {g : Nat} (h : Wire σ) (hg : isM g) : σ.1[g + 2]? = some (21, 96) := by rcases hg with rfl | rfl <;> exact wsh h rfl
theorem wM_f6 {σ : ab_S} {g : Nat} (h : Wire σ) (hg : isM g) : σ.2.2.2 g 6 = some (g + 3) := by rcases hg with rfl | rfl <;> first | exact wrf h 39 rfl | exact wrf h 46 rfl
theorem wM_s3 {g : Nat} (hg : isM g) : SH[g + 3]? = some (21, 40) := by rcases hg with rfl | rfl <;> rfl
theorem wM_a3 {σ : ab_S} {g : Nat} (h : Wire σ) (hg : isM g) : σ.1[g + 3]? = some (21, 40) := by rcases hg with rfl | rfl <;> exact wsh h rfl
theorem wM_f7 {σ : ab_S} {g : Nat} (h : Wire σ) (hg : isM g) : σ.2.2.2 g 7 = some (g + 4) := by rcases hg with rfl | rfl <;> first | exact wrf h 40 rfl | exact wrf h 47 rfl
theorem wM_s4 {g : Nat} (hg : isM g) : SH[g + 4]? = some (20, 250) := by rcases hg with rfl | rfl <;> rfl
theorem wM_a4 {σ : ab_S} {g : Nat} (h : Wire σ) (hg : isM g) : σ.1[g + 4]? = some (20, 250) := by rcases hg with rfl | rfl <;> exact wsh h rfl
theorem wM_f8 {σ : ab_S} {g : Nat} (h : Wire σ) (hg : isM g) : σ.2.2.2 g 8 = some (g + 5) := by rcases hg with rfl | rfl <;> first | exact wrf h 41 rfl | exact wrf h 48 rfl
theorem wM_s5 {g : Nat} (hg : isM g) : SH[g + 5]? = some (20, 250) := by rcases hg with rfl | rfl <;> rfl
theorem wM_a5 {σ : ab_S} {g : Nat} (h : Wire σ) (hg : isM g) : σ.1[g + 5]? = some (20, 250) := by rcases hg with rfl | rfl <;> exact wsh h rfl
theorem wM_f9 {σ : ab_S} {g : Nat} (h : Wire σ) (hg : isM g) : σ.2.2.2 g 9 = some (g + 6) := by rcases hg with rfl | rfl <;> first | exact wrf h 42 rfl | exact wrf h 49 rfl
theorem wM_s6 {g : Nat} (hg : isM g) : SH[g + 6]? = some (20, 250) := by rcases hg with rfl | rfl <;> rfl
theorem wM_a6 {σ : ab_S} {g : Nat} (h : Wire σ) (hg : isM g) : σ.1[g + 6]? = some (20, 250) := by rcases hg with rfl | rfl <;> exact wsh h rfl
theorem wM_r2 {σ σ' : ab_S} {g : Nat} {x : Option Nat} (e : σ' = ab_R σ g 2 x) (hg : isM g) (h : Wire σ) : Wire σ' := by rcases hg with rfl | rfl <;> exact wire_R e (by decide +kernel) h
theorem wM_r3 {σ σ' : ab_S} {g : Nat} {x : Option Nat} (e : σ' = ab_R σ g 3 x) (hg : isM g) (h : Wire σ) : Wire σ' := by rcases hg with rfl | rfl <;> exact wire_R e (by decide +kernel) h
section MOREROWS
variable {l : Launch} {d : ab_M} {B fr lo kc ks : Nat} {Z : ab_Zt} {pc : Nat} {lv : List (Nat × Value)} {st : List Value} {σ : ab_S}
theorem V_pc (pc' : Nat) (h : pc = pc') (kk : V l d B fr lo kc ks Z pc' lv st σ) : V l d B fr lo kc ks Z pc lv st σ := h ▸ kk
theorem V_topi {x : Int32} (kk : ∀ y : Int32, y = x → V l d B fr lo kc ks Z pc lv (.int y :: st) σ) : V l d B fr lo kc ks Z pc lv (.int x :: st) σ := kk x rfl
theorem V_topl {x : Int64} (kk : ∀ y : Int64, y = x → V l d B fr lo kc ks Z pc lv (.long y :: st) σ) : V l d B fr lo kc ks Z pc lv (.long x :: st) σ := kk x rfl
theorem V_nm (kk : ∀ τ : ab_S, τ = σ → V l d B fr lo kc ks Z pc lv st τ) : V l d B fr lo kc ks Z pc lv st σ := kk σ rfl
theorem V_less {kc' ks' : Nat} (h1 : kc' ≤ kc) (h2 : ks' ≤ ks) (kk : V l d B fr lo kc' ks' Z pc lv st σ) : V l d B fr lo kc ks Z pc lv st σ := by
  intro p e R s m args below meth c D cA A n0 ad0 mc ms hC h3 h4 h5 ad H locs cells slots ls h6 h7 hD
  exact kk p e R s m args below meth c D cA A n0 ad0 mc ms hC h3 h4 h5 ad H locs cells slots ls (by omega) (by omega) hD
end MOREROWS
theorem in_1 (x : Int32) : x + Int32.ofInt 1 = x + 1 := by rw [lit1]
theorem in_m1 (x : Int32) : x + Int32.ofInt (-1) = x - 1 := by rw [show Int32.ofInt (-1) = -1 from by decide, Int32.sub_eq_add_neg]
theorem in_4 (x : Int32) : x + Int32.ofInt 4 = x + 4 := by rw [show Int32.ofInt 4 = 4 from by decide]
