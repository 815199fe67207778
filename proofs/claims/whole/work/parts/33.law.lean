def mdL_law : ab_M := (RL, "law", cL_law, 7, some .boolean, [], dlL_law)
def wL_law_j1448 (L : Nat) (xs : Nat → Int32) (Bk : Int32 → ab_S → Prop) (x4 : Int32) (σ : ab_S) : Prop := ∀ v1 : Int32, v1 = (x4 + 4) → Bk v1 σ
def wL_law_j193 (L : Nat) (xs : Nat → Int32) (Bk : Int32 → ab_S → Prop) (x4 : Int32) (σ : ab_S) : Prop := wL_law_j1448 L xs Bk x4 σ
def wL_law_j298 (L : Nat) (xs : Nat → Int32) (Bk : Int32 → ab_S → Prop) (x4 : Int32) (σ : ab_S) : Prop := wL_law_j1448 L xs Bk x4 σ
def wL_law_j385 (L : Nat) (xs : Nat → Int32) (Bk : Int32 → ab_S → Prop) (x4 : Int32) (σ : ab_S) : Prop := wL_law_j1448 L xs Bk x4 σ
def wL_law_j379 (L : Nat) (xs : Nat → Int32) (Bk : Int32 → ab_S → Prop) (x4 : Int32) (y0 : Int64) (y1 : Int64) (σ : ab_S) : Prop := (((lg_cmp y1 y0) = 0) → wL_law_j385 L xs Bk x4 σ) ∧ (¬ ((lg_cmp y1 y0) = 0) → False)
def wL_law_j453 (L : Nat) (xs : Nat → Int32) (Bk : Int32 → ab_S → Prop) (x4 : Int32) (σ : ab_S) : Prop := wL_law_j1448 L xs Bk x4 σ
def wL_law_j533 (L : Nat) (xs : Nat → Int32) (Bk : Int32 → ab_S → Prop) (x4 : Int32) (σ : ab_S) : Prop := wL_law_j1448 L xs Bk x4 σ
def wL_law_j601 (L : Nat) (xs : Nat → Int32) (Bk : Int32 → ab_S → Prop) (x4 : Int32) (σ : ab_S) : Prop := wL_law_j1448 L xs Bk x4 σ
def wL_law_j645 (L : Nat) (xs : Nat → Int32) (Bk : Int32 → ab_S → Prop) (x4 : Int32) (σ : ab_S) : Prop := wL_law_j1448 L xs Bk x4 σ
def wL_law_j701 (L : Nat) (xs : Nat → Int32) (Bk : Int32 → ab_S → Prop) (x4 : Int32) (σ : ab_S) : Prop := wL_law_j1448 L xs Bk x4 σ
def wL_law_j769 (L : Nat) (xs : Nat → Int32) (Bk : Int32 → ab_S → Prop) (x4 : Int32) (σ : ab_S) : Prop := wL_law_j1448 L xs Bk x4 σ
def wL_law_j837 (L : Nat) (xs : Nat → Int32) (Bk : Int32 → ab_S → Prop) (x4 : Int32) (σ : ab_S) : Prop := wL_law_j1448 L xs Bk x4 σ
def wL_law_j905 (L : Nat) (xs : Nat → Int32) (Bk : Int32 → ab_S → Prop) (x4 : Int32) (σ : ab_S) : Prop := wL_law_j1448 L xs Bk x4 σ
def wL_law_j973 (L : Nat) (xs : Nat → Int32) (Bk : Int32 → ab_S → Prop) (x4 : Int32) (σ : ab_S) : Prop := wL_law_j1448 L xs Bk x4 σ
def wL_law_j1041 (L : Nat) (xs : Nat → Int32) (Bk : Int32 → ab_S → Prop) (x4 : Int32) (σ : ab_S) : Prop := wL_law_j1448 L xs Bk x4 σ
def wL_law_j1109 (L : Nat) (xs : Nat → Int32) (Bk : Int32 → ab_S → Prop) (x4 : Int32) (σ : ab_S) : Prop := wL_law_j1448 L xs Bk x4 σ
def wL_law_j1153 (L : Nat) (xs : Nat → Int32) (Bk : Int32 → ab_S → Prop) (x4 : Int32) (σ : ab_S) : Prop := wL_law_j1448 L xs Bk x4 σ
def wL_law_j1209 (L : Nat) (xs : Nat → Int32) (Bk : Int32 → ab_S → Prop) (x4 : Int32) (σ : ab_S) : Prop := wL_law_j1448 L xs Bk x4 σ
def wL_law_j1265 (L : Nat) (xs : Nat → Int32) (Bk : Int32 → ab_S → Prop) (x4 : Int32) (σ : ab_S) : Prop := wL_law_j1448 L xs Bk x4 σ
def wL_law_j1321 (L : Nat) (xs : Nat → Int32) (Bk : Int32 → ab_S → Prop) (x4 : Int32) (σ : ab_S) : Prop := wL_law_j1448 L xs Bk x4 σ
def wL_law_j1377 (L : Nat) (xs : Nat → Int32) (Bk : Int32 → ab_S → Prop) (x4 : Int32) (σ : ab_S) : Prop := wL_law_j1448 L xs Bk x4 σ
def wL_law_j1445 (L : Nat) (xs : Nat → Int32) (Bk : Int32 → ab_S → Prop) (x4 : Int32) (σ : ab_S) : Prop := wL_law_j1448 L xs Bk x4 σ
def wL_law_b (L : Nat) (xs : Nat → Int32) (Bk : Int32 → ab_S → Prop) (x4 : Int32) (σ : ab_S) : Prop := ((((nI L) - (4 : Int32)) < x4) → True) ∧ (¬ (((nI L) - (4 : Int32)) < x4) → vp_in x4 L ∧ ((((xs x4.toNatClampNeg) &&& (31 : Int32)) = 0 → vp_in (x4 + (1 : Int32)) L ∧ (wL_put (xs (x4 + (1 : Int32)).toNatClampNeg) (fun u3 σ2 => vp_in (x4 + (1 : Int32)) L ∧ (wX12_put (xs (x4 + (1 : Int32)).toNatClampNeg) (fun u5 σ4 => wX12_thrown (fun u7 σ6 => ((u7 = u3) → ((¬ u3 = 0) → wL_law_j193 L xs Bk x4 σ6) ∧ (¬ (¬ u3 = 0) → vp_in (0 : Int32) 1 ∧ ((((lg_cmp (σ6.2.2.1 163 (0 : Int32).toNatClampNeg) u5.toInt64) = 0) → wL_law_j193 L xs Bk x4 σ6) ∧ (¬ ((lg_cmp (σ6.2.2.1 163 (0 : Int32).toNatClampNeg) u5.toInt64) = 0) → False)))) ∧ (¬ (u7 = u3) → False)) (fun _ _ => False) σ4) (fun _ _ => False) σ2)) (fun _ _ => False) σ)) ∧ (¬ ((xs x4.toNatClampNeg) &&& (31 : Int32)) = 0 → (((xs x4.toNatClampNeg) &&& (31 : Int32)) = 1 → vp_in (x4 + (1 : Int32)) L ∧ (wL_end (xs (x4 + (1 : Int32)).toNatClampNeg) (fun u9 σ8 => vp_in (x4 + (1 : Int32)) L ∧ (wX12_end (xs (x4 + (1 : Int32)).toNatClampNeg) (fun σ10 => wX12_thrown (fun u12 σ11 => ((u12 = u9) → wL_law_j1448 L xs Bk x4 σ11) ∧ (¬ (u12 = u9) → False)) (fun _ _ => False) σ10) (fun _ _ => False) σ8)) (fun _ _ => False) σ)) ∧ (¬ ((xs x4.toNatClampNeg) &&& (31 : Int32)) = 1 → (((xs x4.toNatClampNeg) &&& (31 : Int32)) = 2 → wX11_grammar (fun u14 σ13 => wX12_grammar (fun u16 σ15 => ((u14 = u16) → wL_law_j1448 L xs Bk x4 σ15) ∧ (¬ (u14 = u16) → False)) (fun _ _ => False) σ13) (fun _ _ => False) σ) ∧ (¬ ((xs x4.toNatClampNeg) &&& (31 : Int32)) = 2 → (((xs x4.toNatClampNeg) &&& (31 : Int32)) = 3 → vp_in (x4 + (1 : Int32)) L ∧ (wL_size (xs (x4 + (1 : Int32)).toNatClampNeg) (fun u18 σ17 => vp_in (x4 + (1 : Int32)) L ∧ (wX12_size (xs (x4 + (1 : Int32)).toNatClampNeg) (fun u20 σ19 => wX12_thrown (fun u22 σ21 => ((u22 = u18) → ((¬ u18 = 0) → wL_law_j298 L xs Bk x4 σ21) ∧ (¬ (¬ u18 = 0) → vp_in (0 : Int32) 1 ∧ ((((lg_cmp (σ21.2.2.1 163 (0 : Int32).toNatClampNeg) u20.toInt64) = 0) → wL_law_j298 L xs Bk x4 σ21) ∧ (¬ ((lg_cmp (σ21.2.2.1 163 (0 : Int32).toNatClampNeg) u20.toInt64) = 0) → False)))) ∧ (¬ (u22 = u18) → False)) (fun _ _ => False) σ19) (fun _ _ => False) σ17)) (fun _ _ => False) σ)) ∧ (¬ ((xs x4.toNatClampNeg) &&& (31 : Int32)) = 3 → (((xs x4.toNatClampNeg) &&& (31 : Int32)) = 4 → vp_in (x4 + (1 : Int32)) L ∧ (vp_in (x4 + (2 : Int32)) L ∧ (vp_in (x4 + (3 : Int32)) L ∧ (wL_depends (xs (x4 + (1 : Int32)).toNatClampNeg) (xs (x4 + (2 : Int32)).toNatClampNeg) (xs (x4 + (3 : Int32)).toNatClampNeg) (fun u24 σ23 => vp_in (x4 + (1 : Int32)) L ∧ (vp_in (x4 + (2 : Int32)) L ∧ (vp_in (x4 + (3 : Int32)) L ∧ (wX12_depends (xs (x4 + (1 : Int32)).toNatClampNeg) (xs (x4 + (2 : Int32)).toNatClampNeg) (xs (x4 + (3 : Int32)).toNatClampNeg) (fun u26 σ25 => wX12_thrown (fun u28 σ27 => ((u28 = u24) → ((¬ u24 = 0) → wL_law_j385 L xs Bk x4 σ27) ∧ (¬ (¬ u24 = 0) → vp_in (0 : Int32) 1 ∧ (((u26 = 0) → wL_law_j379 L xs Bk x4 (0 : Int64) (σ27.2.2.1 163 (0 : Int32).toNatClampNeg) σ27) ∧ (¬ (u26 = 0) → wL_law_j379 L xs Bk x4 (1 : Int64) (σ27.2.2.1 163 (0 : Int32).toNatClampNeg) σ27)))) ∧ (¬ (u28 = u24) → False)) (fun _ _ => False) σ25) (fun _ _ => False) σ23)))) (fun _ _ => False) σ)))) ∧ (¬ ((xs x4.toNatClampNeg) &&& (31 : Int32)) = 4 → (((xs x4.toNatClampNeg) &&& (31 : Int32)) = 5 → vp_in (x4 + (1 : Int32)) L ∧ (vp_in (x4 + (2 : Int32)) L ∧ (wL_level (xs (x4 + (1 : Int32)).toNatClampNeg) (xs (x4 + (2 : Int32)).toNatClampNeg) (fun u30 σ29 => vp_in (x4 + (1 : Int32)) L ∧ (vp_in (x4 + (2 : Int32)) L ∧ (wX12_level (xs (x4 + (1 : Int32)).toNatClampNeg) (xs (x4 + (2 : Int32)).toNatClampNeg) (fun u32 σ31 => wX12_thrown (fun u34 σ33 => ((u34 = u30) → ((¬ u30 = 0) → wL_law_j453 L xs Bk x4 σ33) ∧ (¬ (¬ u30 = 0) → vp_in (0 : Int32) 1 ∧ ((((lg_cmp (σ33.2.2.1 163 (0 : Int32).toNatClampNeg) u32.toInt64) = 0) → wL_law_j453 L xs Bk x4 σ33) ∧ (¬ ((lg_cmp (σ33.2.2.1 163 (0 : Int32).toNatClampNeg) u32.toInt64) = 0) → False)))) ∧ (¬ (u34 = u30) → False)) (fun _ _ => False) σ31) (fun _ _ => False) σ29))) (fun _ _ => False) σ))) ∧ (¬ ((xs x4.toNatClampNeg) &&& (31 : Int32)) = 5 → (((xs x4.toNatClampNeg) &&& (31 : Int32)) = 6 → vp_in (x4 + (1 : Int32)) L ∧ (vp_in (x4 + (2 : Int32)) L ∧ (vp_in (x4 + (3 : Int32)) L ∧ (wL_plan (xs (x4 + (1 : Int32)).toNatClampNeg) (xs (x4 + (2 : Int32)).toNatClampNeg) (xs (x4 + (3 : Int32)).toNatClampNeg) (fun u36 σ35 => vp_in (x4 + (1 : Int32)) L ∧ (vp_in (x4 + (2 : Int32)) L ∧ (vp_in (x4 + (3 : Int32)) L ∧ (wX12_plan (xs (x4 + (1 : Int32)).toNatClampNeg) (xs (x4 + (2 : Int32)).toNatClampNeg) (xs (x4 + (3 : Int32)).toNatClampNeg) (fun u38 σ37 => wX12_thrown (fun u40 σ39 => ((u40 = u36) → ((¬ u36 = 0) → wL_law_j533 L xs Bk x4 σ39) ∧ (¬ (¬ u36 = 0) → vp_in (0 : Int32) 1 ∧ ((((lg_cmp (σ39.2.2.1 163 (0 : Int32).toNatClampNeg) u38.toInt64) = 0) → wL_law_j533 L xs Bk x4 σ39) ∧ (¬ ((lg_cmp (σ39.2.2.1 163 (0 : Int32).toNatClampNeg) u38.toInt64) = 0) → False)))) ∧ (¬ (u40 = u36) → False)) (fun _ _ => False) σ37) (fun _ _ => False) σ35)))) (fun _ _ => False) σ)))) ∧ (¬ ((xs x4.toNatClampNeg) &&& (31 : Int32)) = 6 → (((xs x4.toNatClampNeg) &&& (31 : Int32)) = 7 → vp_in (x4 + (1 : Int32)) L ∧ (vp_in (x4 + (2 : Int32)) L ∧ (wL_store (xs (x4 + (1 : Int32)).toNatClampNeg) (xs (x4 + (2 : Int32)).toNatClampNeg) (fun u42 σ41 => vp_in (x4 + (1 : Int32)) L ∧ (vp_in (x4 + (2 : Int32)) L ∧ (wX12_store (xs (x4 + (1 : Int32)).toNatClampNeg) (xs (x4 + (2 : Int32)).toNatClampNeg) (fun u44 σ43 => wX12_thrown (fun u46 σ45 => ((u46 = u42) → ((¬ u42 = 0) → wL_law_j601 L xs Bk x4 σ45) ∧ (¬ (¬ u42 = 0) → vp_in (0 : Int32) 1 ∧ ((((lg_cmp (σ45.2.2.1 163 (0 : Int32).toNatClampNeg) u44.toInt64) = 0) → wL_law_j601 L xs Bk x4 σ45) ∧ (¬ ((lg_cmp (σ45.2.2.1 163 (0 : Int32).toNatClampNeg) u44.toInt64) = 0) → False)))) ∧ (¬ (u46 = u42) → False)) (fun _ _ => False) σ43) (fun _ _ => False) σ41))) (fun _ _ => False) σ))) ∧ (¬ ((xs x4.toNatClampNeg) &&& (31 : Int32)) = 7 → (((xs x4.toNatClampNeg) &&& (31 : Int32)) = 8 → wL_tree (fun u48 σ47 => wX12_tree (fun u50 σ49 => wX12_thrown (fun u52 σ51 => ((u52 = u48) → ((¬ u48 = 0) → wL_law_j645 L xs Bk x4 σ51) ∧ (¬ (¬ u48 = 0) → vp_in (0 : Int32) 1 ∧ ((((lg_cmp (σ51.2.2.1 163 (0 : Int32).toNatClampNeg) u50.toInt64) = 0) → wL_law_j645 L xs Bk x4 σ51) ∧ (¬ ((lg_cmp (σ51.2.2.1 163 (0 : Int32).toNatClampNeg) u50.toInt64) = 0) → False)))) ∧ (¬ (u52 = u48) → False)) (fun _ _ => False) σ49) (fun _ _ => False) σ47) (fun _ _ => False) σ) ∧ (¬ ((xs x4.toNatClampNeg) &&& (31 : Int32)) = 8 → (((xs x4.toNatClampNeg) &&& (31 : Int32)) = 9 → vp_in (x4 + (1 : Int32)) L ∧ (wL_count (xs (x4 + (1 : Int32)).toNatClampNeg) (fun u54 σ53 => vp_in (x4 + (1 : Int32)) L ∧ (wX12_count (xs (x4 + (1 : Int32)).toNatClampNeg) (fun u56 σ55 => wX12_thrown (fun u58 σ57 => ((u58 = u54) → ((¬ u54 = 0) → wL_law_j701 L xs Bk x4 σ57) ∧ (¬ (¬ u54 = 0) → vp_in (0 : Int32) 1 ∧ ((((lg_cmp (σ57.2.2.1 163 (0 : Int32).toNatClampNeg) u56.toInt64) = 0) → wL_law_j701 L xs Bk x4 σ57) ∧ (¬ ((lg_cmp (σ57.2.2.1 163 (0 : Int32).toNatClampNeg) u56.toInt64) = 0) → False)))) ∧ (¬ (u58 = u54) → False)) (fun _ _ => False) σ55) (fun _ _ => False) σ53)) (fun _ _ => False) σ)) ∧ (¬ ((xs x4.toNatClampNeg) &&& (31 : Int32)) = 9 → (((xs x4.toNatClampNeg) &&& (31 : Int32)) = 10 → vp_in (x4 + (1 : Int32)) L ∧ (vp_in (x4 + (2 : Int32)) L ∧ (wL_node (xs (x4 + (1 : Int32)).toNatClampNeg) (xs (x4 + (2 : Int32)).toNatClampNeg) (fun u60 σ59 => vp_in (x4 + (1 : Int32)) L ∧ (vp_in (x4 + (2 : Int32)) L ∧ (wX12_node (xs (x4 + (1 : Int32)).toNatClampNeg) (xs (x4 + (2 : Int32)).toNatClampNeg) (fun u62 σ61 => wX12_thrown (fun u64 σ63 => ((u64 = u60) → ((¬ u60 = 0) → wL_law_j769 L xs Bk x4 σ63) ∧ (¬ (¬ u60 = 0) → vp_in (0 : Int32) 1 ∧ ((((lg_cmp (σ63.2.2.1 163 (0 : Int32).toNatClampNeg) u62.toInt64) = 0) → wL_law_j769 L xs Bk x4 σ63) ∧ (¬ ((lg_cmp (σ63.2.2.1 163 (0 : Int32).toNatClampNeg) u62.toInt64) = 0) → False)))) ∧ (¬ (u64 = u60) → False)) (fun _ _ => False) σ61) (fun _ _ => False) σ59))) (fun _ _ => False) σ))) ∧ (¬ ((xs x4.toNatClampNeg) &&& (31 : Int32)) = 10 → (((xs x4.toNatClampNeg) &&& (31 : Int32)) = 11 → vp_in (x4 + (1 : Int32)) L ∧ (vp_in (x4 + (2 : Int32)) L ∧ (wL_value (xs (x4 + (1 : Int32)).toNatClampNeg) (xs (x4 + (2 : Int32)).toNatClampNeg) (fun u66 σ65 => vp_in (x4 + (1 : Int32)) L ∧ (vp_in (x4 + (2 : Int32)) L ∧ (wX12_value (xs (x4 + (1 : Int32)).toNatClampNeg) (xs (x4 + (2 : Int32)).toNatClampNeg) (fun u68 σ67 => wX12_thrown (fun u70 σ69 => ((u70 = u66) → ((¬ u66 = 0) → wL_law_j837 L xs Bk x4 σ69) ∧ (¬ (¬ u66 = 0) → vp_in (0 : Int32) 1 ∧ ((((lg_cmp (σ69.2.2.1 163 (0 : Int32).toNatClampNeg) u68.toInt64) = 0) → wL_law_j837 L xs Bk x4 σ69) ∧ (¬ ((lg_cmp (σ69.2.2.1 163 (0 : Int32).toNatClampNeg) u68.toInt64) = 0) → False)))) ∧ (¬ (u70 = u66) → False)) (fun _ _ => False) σ67) (fun _ _ => False) σ65))) (fun _ _ => False) σ))) ∧ (¬ ((xs x4.toNatClampNeg) &&& (31 : Int32)) = 11 → (((xs x4.toNatClampNeg) &&& (31 : Int32)) = 12 → vp_in (x4 + (1 : Int32)) L ∧ (vp_in (x4 + (2 : Int32)) L ∧ (wL_change (xs (x4 + (1 : Int32)).toNatClampNeg) (xs (x4 + (2 : Int32)).toNatClampNeg) (fun u72 σ71 => vp_in (x4 + (1 : Int32)) L ∧ (vp_in (x4 + (2 : Int32)) L ∧ (wX12_change (xs (x4 + (1 : Int32)).toNatClampNeg) (xs (x4 + (2 : Int32)).toNatClampNeg) (fun u74 σ73 => wX12_thrown (fun u76 σ75 => ((u76 = u72) → ((¬ u72 = 0) → wL_law_j905 L xs Bk x4 σ75) ∧ (¬ (¬ u72 = 0) → vp_in (0 : Int32) 1 ∧ ((((lg_cmp (σ75.2.2.1 163 (0 : Int32).toNatClampNeg) u74.toInt64) = 0) → wL_law_j905 L xs Bk x4 σ75) ∧ (¬ ((lg_cmp (σ75.2.2.1 163 (0 : Int32).toNatClampNeg) u74.toInt64) = 0) → False)))) ∧ (¬ (u76 = u72) → False)) (fun _ _ => False) σ73) (fun _ _ => False) σ71))) (fun _ _ => False) σ))) ∧ (¬ ((xs x4.toNatClampNeg) &&& (31 : Int32)) = 12 → (((xs x4.toNatClampNeg) &&& (31 : Int32)) = 13 → vp_in (x4 + (1 : Int32)) L ∧ (vp_in (x4 + (2 : Int32)) L ∧ (wL_visit (xs (x4 + (1 : Int32)).toNatClampNeg) (xs (x4 + (2 : Int32)).toNatClampNeg) (fun u78 σ77 => vp_in (x4 + (1 : Int32)) L ∧ (vp_in (x4 + (2 : Int32)) L ∧ (wX12_visit (xs (x4 + (1 : Int32)).toNatClampNeg) (xs (x4 + (2 : Int32)).toNatClampNeg) (fun u80 σ79 => wX12_thrown (fun u82 σ81 => ((u82 = u78) → ((¬ u78 = 0) → wL_law_j973 L xs Bk x4 σ81) ∧ (¬ (¬ u78 = 0) → vp_in (0 : Int32) 1 ∧ ((((lg_cmp (σ81.2.2.1 163 (0 : Int32).toNatClampNeg) u80.toInt64) = 0) → wL_law_j973 L xs Bk x4 σ81) ∧ (¬ ((lg_cmp (σ81.2.2.1 163 (0 : Int32).toNatClampNeg) u80.toInt64) = 0) → False)))) ∧ (¬ (u82 = u78) → False)) (fun _ _ => False) σ79) (fun _ _ => False) σ77))) (fun _ _ => False) σ))) ∧ (¬ ((xs x4.toNatClampNeg) &&& (31 : Int32)) = 13 → (((xs x4.toNatClampNeg) &&& (31 : Int32)) = 14 → vp_in (x4 + (1 : Int32)) L ∧ (vp_in (x4 + (2 : Int32)) L ∧ (wL_code (xs (x4 + (1 : Int32)).toNatClampNeg) (xs (x4 + (2 : Int32)).toNatClampNeg) (fun u84 σ83 => vp_in (x4 + (1 : Int32)) L ∧ (vp_in (x4 + (2 : Int32)) L ∧ (wX12_code (xs (x4 + (1 : Int32)).toNatClampNeg) (xs (x4 + (2 : Int32)).toNatClampNeg) (fun u86 σ85 => wX12_thrown (fun u88 σ87 => ((u88 = u84) → ((¬ u84 = 0) → wL_law_j1041 L xs Bk x4 σ87) ∧ (¬ (¬ u84 = 0) → vp_in (0 : Int32) 1 ∧ ((((lg_cmp (σ87.2.2.1 163 (0 : Int32).toNatClampNeg) u86.toInt64) = 0) → wL_law_j1041 L xs Bk x4 σ87) ∧ (¬ ((lg_cmp (σ87.2.2.1 163 (0 : Int32).toNatClampNeg) u86.toInt64) = 0) → False)))) ∧ (¬ (u88 = u84) → False)) (fun _ _ => False) σ85) (fun _ _ => False) σ83))) (fun _ _ => False) σ))) ∧ (¬ ((xs x4.toNatClampNeg) &&& (31 : Int32)) = 14 → (((xs x4.toNatClampNeg) &&& (31 : Int32)) = 15 → vp_in (x4 + (1 : Int32)) L ∧ (vp_in (x4 + (2 : Int32)) L ∧ (wL_start (xs (x4 + (1 : Int32)).toNatClampNeg) (xs (x4 + (2 : Int32)).toNatClampNeg) (fun u90 σ89 => vp_in (x4 + (1 : Int32)) L ∧ (vp_in (x4 + (2 : Int32)) L ∧ (wX12_start (xs (x4 + (1 : Int32)).toNatClampNeg) (xs (x4 + (2 : Int32)).toNatClampNeg) (fun u92 σ91 => wX12_thrown (fun u94 σ93 => ((u94 = u90) → ((¬ u90 = 0) → wL_law_j1109 L xs Bk x4 σ93) ∧ (¬ (¬ u90 = 0) → vp_in (0 : Int32) 1 ∧ ((((lg_cmp (σ93.2.2.1 163 (0 : Int32).toNatClampNeg) u92.toInt64) = 0) → wL_law_j1109 L xs Bk x4 σ93) ∧ (¬ ((lg_cmp (σ93.2.2.1 163 (0 : Int32).toNatClampNeg) u92.toInt64) = 0) → False)))) ∧ (¬ (u94 = u90) → False)) (fun _ _ => False) σ91) (fun _ _ => False) σ89))) (fun _ _ => False) σ))) ∧ (¬ ((xs x4.toNatClampNeg) &&& (31 : Int32)) = 15 → (((xs x4.toNatClampNeg) &&& (31 : Int32)) = 16 → wL_begin (fun u96 σ95 => wX12_begin (fun u98 σ97 => wX12_thrown (fun u100 σ99 => ((u100 = u96) → ((¬ u96 = 0) → wL_law_j1153 L xs Bk x4 σ99) ∧ (¬ (¬ u96 = 0) → vp_in (0 : Int32) 1 ∧ ((((lg_cmp (σ99.2.2.1 163 (0 : Int32).toNatClampNeg) u98.toInt64) = 0) → wL_law_j1153 L xs Bk x4 σ99) ∧ (¬ ((lg_cmp (σ99.2.2.1 163 (0 : Int32).toNatClampNeg) u98.toInt64) = 0) → False)))) ∧ (¬ (u100 = u96) → False)) (fun _ _ => False) σ97) (fun _ _ => False) σ95) (fun _ _ => False) σ) ∧ (¬ ((xs x4.toNatClampNeg) &&& (31 : Int32)) = 16 → (((xs x4.toNatClampNeg) &&& (31 : Int32)) = 17 → vp_in (x4 + (1 : Int32)) L ∧ (wL_step (xs (x4 + (1 : Int32)).toNatClampNeg) (fun u102 σ101 => vp_in (x4 + (1 : Int32)) L ∧ (wX12_step (xs (x4 + (1 : Int32)).toNatClampNeg) (fun u104 σ103 => wX12_thrown (fun u106 σ105 => ((u106 = u102) → ((¬ u102 = 0) → wL_law_j1209 L xs Bk x4 σ105) ∧ (¬ (¬ u102 = 0) → vp_in (0 : Int32) 1 ∧ ((((lg_cmp (σ105.2.2.1 163 (0 : Int32).toNatClampNeg) u104.toInt64) = 0) → wL_law_j1209 L xs Bk x4 σ105) ∧ (¬ ((lg_cmp (σ105.2.2.1 163 (0 : Int32).toNatClampNeg) u104.toInt64) = 0) → False)))) ∧ (¬ (u106 = u102) → False)) (fun _ _ => False) σ103) (fun _ _ => False) σ101)) (fun _ _ => False) σ)) ∧ (¬ ((xs x4.toNatClampNeg) &&& (31 : Int32)) = 17 → (((xs x4.toNatClampNeg) &&& (31 : Int32)) = 18 → vp_in (x4 + (1 : Int32)) L ∧ (wL_machine (xs (x4 + (1 : Int32)).toNatClampNeg) (fun u108 σ107 => vp_in (x4 + (1 : Int32)) L ∧ (wX12_machine (xs (x4 + (1 : Int32)).toNatClampNeg) (fun u110 σ109 => wX12_thrown (fun u112 σ111 => ((u112 = u108) → ((¬ u108 = 0) → wL_law_j1265 L xs Bk x4 σ111) ∧ (¬ (¬ u108 = 0) → vp_in (0 : Int32) 1 ∧ ((((lg_cmp (σ111.2.2.1 163 (0 : Int32).toNatClampNeg) u110.toInt64) = 0) → wL_law_j1265 L xs Bk x4 σ111) ∧ (¬ ((lg_cmp (σ111.2.2.1 163 (0 : Int32).toNatClampNeg) u110.toInt64) = 0) → False)))) ∧ (¬ (u112 = u108) → False)) (fun _ _ => False) σ109) (fun _ _ => False) σ107)) (fun _ _ => False) σ)) ∧ (¬ ((xs x4.toNatClampNeg) &&& (31 : Int32)) = 18 → (((xs x4.toNatClampNeg) &&& (31 : Int32)) = 19 → vp_in (x4 + (1 : Int32)) L ∧ (wL_alone (xs (x4 + (1 : Int32)).toNatClampNeg) (fun u114 σ113 => vp_in (x4 + (1 : Int32)) L ∧ (wX12_alone (xs (x4 + (1 : Int32)).toNatClampNeg) (fun u116 σ115 => wX12_thrown (fun u118 σ117 => ((u118 = u114) → ((¬ u114 = 0) → wL_law_j1321 L xs Bk x4 σ117) ∧ (¬ (¬ u114 = 0) → vp_in (0 : Int32) 1 ∧ ((((lg_cmp (σ117.2.2.1 163 (0 : Int32).toNatClampNeg) u116.toInt64) = 0) → wL_law_j1321 L xs Bk x4 σ117) ∧ (¬ ((lg_cmp (σ117.2.2.1 163 (0 : Int32).toNatClampNeg) u116.toInt64) = 0) → False)))) ∧ (¬ (u118 = u114) → False)) (fun _ _ => False) σ115) (fun _ _ => False) σ113)) (fun _ _ => False) σ)) ∧ (¬ ((xs x4.toNatClampNeg) &&& (31 : Int32)) = 19 → (((xs x4.toNatClampNeg) &&& (31 : Int32)) = 20 → vp_in (x4 + (1 : Int32)) L ∧ (wL_top (xs (x4 + (1 : Int32)).toNatClampNeg) (fun u120 σ119 => vp_in (x4 + (1 : Int32)) L ∧ (wX12_top (xs (x4 + (1 : Int32)).toNatClampNeg) (fun u122 σ121 => wX12_thrown (fun u124 σ123 => ((u124 = u120) → ((¬ u120 = 0) → wL_law_j1377 L xs Bk x4 σ123) ∧ (¬ (¬ u120 = 0) → vp_in (0 : Int32) 1 ∧ ((((lg_cmp (σ123.2.2.1 163 (0 : Int32).toNatClampNeg) u122.toInt64) = 0) → wL_law_j1377 L xs Bk x4 σ123) ∧ (¬ ((lg_cmp (σ123.2.2.1 163 (0 : Int32).toNatClampNeg) u122.toInt64) = 0) → False)))) ∧ (¬ (u124 = u120) → False)) (fun _ _ => False) σ121) (fun _ _ => False) σ119)) (fun _ _ => False) σ)) ∧ (¬ ((xs x4.toNatClampNeg) &&& (31 : Int32)) = 20 → (((xs x4.toNatClampNeg) &&& (31 : Int32)) = 21 → vp_in (x4 + (1 : Int32)) L ∧ (vp_in (x4 + (2 : Int32)) L ∧ (wL_held (xs (x4 + (1 : Int32)).toNatClampNeg) (xs (x4 + (2 : Int32)).toNatClampNeg) (fun u126 σ125 => vp_in (x4 + (1 : Int32)) L ∧ (vp_in (x4 + (2 : Int32)) L ∧ (wX12_held (xs (x4 + (1 : Int32)).toNatClampNeg) (xs (x4 + (2 : Int32)).toNatClampNeg) (fun u128 σ127 => wX12_thrown (fun u130 σ129 => ((u130 = u126) → ((¬ u126 = 0) → wL_law_j1445 L xs Bk x4 σ129) ∧ (¬ (¬ u126 = 0) → vp_in (0 : Int32) 1 ∧ ((((lg_cmp (σ129.2.2.1 163 (0 : Int32).toNatClampNeg) u128.toInt64) = 0) → wL_law_j1445 L xs Bk x4 σ129) ∧ (¬ ((lg_cmp (σ129.2.2.1 163 (0 : Int32).toNatClampNeg) u128.toInt64) = 0) → False)))) ∧ (¬ (u130 = u126) → False)) (fun _ _ => False) σ127) (fun _ _ => False) σ125))) (fun _ _ => False) σ))) ∧ (¬ ((xs x4.toNatClampNeg) &&& (31 : Int32)) = 21 → wL_law_j1448 L xs Bk x4 σ))))))))))))))))))))))))
def wL_law (L : Nat) (xs : Nat → Int32) : Nat → Int32 → ab_S → Prop
  | 0, _, _ => False
  | n + 1, x4, σ => wL_law_b L xs (wL_law L xs n) x4 σ
set_option maxHeartbeats 8000000 in
set_option maxRecDepth 100000 in
theorem ce_law_step {l : Launch} (hl : l.stackTraces = false) {b L : Nat} {xs : Nat → Int32} (N : Nat) (Bk : Int32 → ab_S → Prop) (k_Bk : ∀ (x4 : Int32) (σ : ab_S), Wire σ → Bk x4 σ → V l mdL_law 0 614 12190 (10 * N) (60 * N) (ab_LZ b L xs) 23 [(0, .ref 1000000), (1, .ref 0), (2, .ref 92), (3, .ref 163), (4, .int x4)] [] σ) : ∀ (x4 : Int32) (σ : ab_S), Wire σ → wL_law_b L xs Bk x4 σ → V l mdL_law 0 614 12190 (10 * N + 10) (60 * N + 60) (ab_LZ b L xs) 23 [(0, .ref 1000000), (1, .ref 0), (2, .ref 92), (3, .ref 163), (4, .int x4)] [] σ := by
  have k_j1448 : ∀ (x4 : Int32)  (σ : ab_S), Wire σ → wL_law_j1448 L xs Bk x4 σ → V l mdL_law 0 614 12190 (10 * N) (60 * N) (ab_LZ b L xs) 1448 [(0, .ref 1000000), (1, .ref 0), (2, .ref 92), (3, .ref 163), (4, .int x4)] [] σ := by
    intro x4  σ hW h
    obtain ⟨v1, ev1⟩ : ∃ z : Int32, z = (x4 + 4) := ⟨_, rfl⟩
    replace h := h v1 ev1
    refine V_iinc 867 4 (v := v1) (lv' := [(4, .int v1), (0, .ref 1000000), (1, .ref 0), (2, .ref 92), (3, .ref 163)]) rfl rfl ((in_4 _).trans ev1.symm) (by decide) rfl ?_
    refine V_goto 868 (tgt := 23) rfl (by decide) ?_
    refine V_sub [1, 2, 3, 4, 0] (lv' := [(0, .ref 1000000), (1, .ref 0), (2, .ref 92), (3, .ref 163), (4, .int v1)]) rfl ?_
    exact k_Bk v1  σ hW h
  have k_j193 : ∀ (x4 : Int32)  (σ : ab_S), Wire σ → wL_law_j193 L xs Bk x4 σ → V l mdL_law 0 614 12190 (10 * N) (60 * N) (ab_LZ b L xs) 193 [(0, .ref 1000000), (1, .ref 0), (2, .ref 92), (3, .ref 163), (4, .int x4)] [] σ := by
    intro x4  σ hW h
    refine V_goto 59 (tgt := 1448) rfl (by decide) ?_
    exact k_j1448 x4 σ hW h
  have k_j298 : ∀ (x4 : Int32)  (σ : ab_S), Wire σ → wL_law_j298 L xs Bk x4 σ → V l mdL_law 0 614 12190 (10 * N) (60 * N) (ab_LZ b L xs) 298 [(0, .ref 1000000), (1, .ref 0), (2, .ref 92), (3, .ref 163), (4, .int x4)] [] σ := by
    intro x4  σ hW h
    refine V_goto 123 (tgt := 1448) rfl (by decide) ?_
    exact k_j1448 x4 σ hW h
  have k_j385 : ∀ (x4 : Int32)  (σ : ab_S), Wire σ → wL_law_j385 L xs Bk x4 σ → V l mdL_law 0 614 12190 (10 * N) (60 * N) (ab_LZ b L xs) 385 [(0, .ref 1000000), (1, .ref 0), (2, .ref 92), (3, .ref 163), (4, .int x4)] [] σ := by
    intro x4  σ hW h
    refine V_goto 181 (tgt := 1448) rfl (by decide) ?_
    exact k_j1448 x4 σ hW h
  have k_j379 : ∀ (x4 : Int32) (y0 : Int64) (y1 : Int64)  (σ : ab_S), Wire σ → wL_law_j379 L xs Bk x4 y0 y1 σ → V l mdL_law 0 614 12190 (10 * N) (60 * N) (ab_LZ b L xs) 379 [(0, .ref 1000000), (1, .ref 0), (2, .ref 92), (3, .ref 163), (4, .int x4)] [.long y0, .long y1] σ := by
    intro x4 y0 y1  σ hW h
    refine V_lcmp 177 rfl ?_
    refine V_if_eq 178 (tgt := 385) rfl (by decide) (fun hc => ?_) (fun hc => ?_)
    · replace h := h.1 hc
      exact k_j385 x4 σ hW h
    · replace h := h.2 hc
      refine V_pc 383 rfl ?_
      refine V_iconst 179 (v := (0 : Int32)) rfl (by decide) ?_
      exact absurd h id
  have k_j453 : ∀ (x4 : Int32)  (σ : ab_S), Wire σ → wL_law_j453 L xs Bk x4 σ → V l mdL_law 0 614 12190 (10 * N) (60 * N) (ab_LZ b L xs) 453 [(0, .ref 1000000), (1, .ref 0), (2, .ref 92), (3, .ref 163), (4, .int x4)] [] σ := by
    intro x4  σ hW h
    refine V_goto 226 (tgt := 1448) rfl (by decide) ?_
    exact k_j1448 x4 σ hW h
  have k_j533 : ∀ (x4 : Int32)  (σ : ab_S), Wire σ → wL_law_j533 L xs Bk x4 σ → V l mdL_law 0 614 12190 (10 * N) (60 * N) (ab_LZ b L xs) 533 [(0, .ref 1000000), (1, .ref 0), (2, .ref 92), (3, .ref 163), (4, .int x4)] [] σ := by
    intro x4  σ hW h
    refine V_goto 281 (tgt := 1448) rfl (by decide) ?_
    exact k_j1448 x4 σ hW h
  have k_j601 : ∀ (x4 : Int32)  (σ : ab_S), Wire σ → wL_law_j601 L xs Bk x4 σ → V l mdL_law 0 614 12190 (10 * N) (60 * N) (ab_LZ b L xs) 601 [(0, .ref 1000000), (1, .ref 0), (2, .ref 92), (3, .ref 163), (4, .int x4)] [] σ := by
    intro x4  σ hW h
    refine V_goto 326 (tgt := 1448) rfl (by decide) ?_
    exact k_j1448 x4 σ hW h
  have k_j645 : ∀ (x4 : Int32)  (σ : ab_S), Wire σ → wL_law_j645 L xs Bk x4 σ → V l mdL_law 0 614 12190 (10 * N) (60 * N) (ab_LZ b L xs) 645 [(0, .ref 1000000), (1, .ref 0), (2, .ref 92), (3, .ref 163), (4, .int x4)] [] σ := by
    intro x4  σ hW h
    refine V_goto 351 (tgt := 1448) rfl (by decide) ?_
    exact k_j1448 x4 σ hW h
  have k_j701 : ∀ (x4 : Int32)  (σ : ab_S), Wire σ → wL_law_j701 L xs Bk x4 σ → V l mdL_law 0 614 12190 (10 * N) (60 * N) (ab_LZ b L xs) 701 [(0, .ref 1000000), (1, .ref 0), (2, .ref 92), (3, .ref 163), (4, .int x4)] [] σ := by
    intro x4  σ hW h
    refine V_goto 386 (tgt := 1448) rfl (by decide) ?_
    exact k_j1448 x4 σ hW h
  have k_j769 : ∀ (x4 : Int32)  (σ : ab_S), Wire σ → wL_law_j769 L xs Bk x4 σ → V l mdL_law 0 614 12190 (10 * N) (60 * N) (ab_LZ b L xs) 769 [(0, .ref 1000000), (1, .ref 0), (2, .ref 92), (3, .ref 163), (4, .int x4)] [] σ := by
    intro x4  σ hW h
    refine V_goto 431 (tgt := 1448) rfl (by decide) ?_
    exact k_j1448 x4 σ hW h
  have k_j837 : ∀ (x4 : Int32)  (σ : ab_S), Wire σ → wL_law_j837 L xs Bk x4 σ → V l mdL_law 0 614 12190 (10 * N) (60 * N) (ab_LZ b L xs) 837 [(0, .ref 1000000), (1, .ref 0), (2, .ref 92), (3, .ref 163), (4, .int x4)] [] σ := by
    intro x4  σ hW h
    refine V_goto 476 (tgt := 1448) rfl (by decide) ?_
    exact k_j1448 x4 σ hW h
  have k_j905 : ∀ (x4 : Int32)  (σ : ab_S), Wire σ → wL_law_j905 L xs Bk x4 σ → V l mdL_law 0 614 12190 (10 * N) (60 * N) (ab_LZ b L xs) 905 [(0, .ref 1000000), (1, .ref 0), (2, .ref 92), (3, .ref 163), (4, .int x4)] [] σ := by
    intro x4  σ hW h
    refine V_goto 521 (tgt := 1448) rfl (by decide) ?_
    exact k_j1448 x4 σ hW h
  have k_j973 : ∀ (x4 : Int32)  (σ : ab_S), Wire σ → wL_law_j973 L xs Bk x4 σ → V l mdL_law 0 614 12190 (10 * N) (60 * N) (ab_LZ b L xs) 973 [(0, .ref 1000000), (1, .ref 0), (2, .ref 92), (3, .ref 163), (4, .int x4)] [] σ := by
    intro x4  σ hW h
    refine V_goto 566 (tgt := 1448) rfl (by decide) ?_
    exact k_j1448 x4 σ hW h
  have k_j1041 : ∀ (x4 : Int32)  (σ : ab_S), Wire σ → wL_law_j1041 L xs Bk x4 σ → V l mdL_law 0 614 12190 (10 * N) (60 * N) (ab_LZ b L xs) 1041 [(0, .ref 1000000), (1, .ref 0), (2, .ref 92), (3, .ref 163), (4, .int x4)] [] σ := by
    intro x4  σ hW h
    refine V_goto 611 (tgt := 1448) rfl (by decide) ?_
    exact k_j1448 x4 σ hW h
  have k_j1109 : ∀ (x4 : Int32)  (σ : ab_S), Wire σ → wL_law_j1109 L xs Bk x4 σ → V l mdL_law 0 614 12190 (10 * N) (60 * N) (ab_LZ b L xs) 1109 [(0, .ref 1000000), (1, .ref 0), (2, .ref 92), (3, .ref 163), (4, .int x4)] [] σ := by
    intro x4  σ hW h
    refine V_goto 656 (tgt := 1448) rfl (by decide) ?_
    exact k_j1448 x4 σ hW h
  have k_j1153 : ∀ (x4 : Int32)  (σ : ab_S), Wire σ → wL_law_j1153 L xs Bk x4 σ → V l mdL_law 0 614 12190 (10 * N) (60 * N) (ab_LZ b L xs) 1153 [(0, .ref 1000000), (1, .ref 0), (2, .ref 92), (3, .ref 163), (4, .int x4)] [] σ := by
    intro x4  σ hW h
    refine V_goto 681 (tgt := 1448) rfl (by decide) ?_
    exact k_j1448 x4 σ hW h
  have k_j1209 : ∀ (x4 : Int32)  (σ : ab_S), Wire σ → wL_law_j1209 L xs Bk x4 σ → V l mdL_law 0 614 12190 (10 * N) (60 * N) (ab_LZ b L xs) 1209 [(0, .ref 1000000), (1, .ref 0), (2, .ref 92), (3, .ref 163), (4, .int x4)] [] σ := by
    intro x4  σ hW h
    refine V_goto 716 (tgt := 1448) rfl (by decide) ?_
    exact k_j1448 x4 σ hW h
  have k_j1265 : ∀ (x4 : Int32)  (σ : ab_S), Wire σ → wL_law_j1265 L xs Bk x4 σ → V l mdL_law 0 614 12190 (10 * N) (60 * N) (ab_LZ b L xs) 1265 [(0, .ref 1000000), (1, .ref 0), (2, .ref 92), (3, .ref 163), (4, .int x4)] [] σ := by
    intro x4  σ hW h
    refine V_goto 751 (tgt := 1448) rfl (by decide) ?_
    exact k_j1448 x4 σ hW h
  have k_j1321 : ∀ (x4 : Int32)  (σ : ab_S), Wire σ → wL_law_j1321 L xs Bk x4 σ → V l mdL_law 0 614 12190 (10 * N) (60 * N) (ab_LZ b L xs) 1321 [(0, .ref 1000000), (1, .ref 0), (2, .ref 92), (3, .ref 163), (4, .int x4)] [] σ := by
    intro x4  σ hW h
    refine V_goto 786 (tgt := 1448) rfl (by decide) ?_
    exact k_j1448 x4 σ hW h
  have k_j1377 : ∀ (x4 : Int32)  (σ : ab_S), Wire σ → wL_law_j1377 L xs Bk x4 σ → V l mdL_law 0 614 12190 (10 * N) (60 * N) (ab_LZ b L xs) 1377 [(0, .ref 1000000), (1, .ref 0), (2, .ref 92), (3, .ref 163), (4, .int x4)] [] σ := by
    intro x4  σ hW h
    refine V_goto 821 (tgt := 1448) rfl (by decide) ?_
    exact k_j1448 x4 σ hW h
  have k_j1445 : ∀ (x4 : Int32)  (σ : ab_S), Wire σ → wL_law_j1445 L xs Bk x4 σ → V l mdL_law 0 614 12190 (10 * N) (60 * N) (ab_LZ b L xs) 1445 [(0, .ref 1000000), (1, .ref 0), (2, .ref 92), (3, .ref 163), (4, .int x4)] [] σ := by
    intro x4  σ hW h
    refine V_goto 866 (tgt := 1448) rfl (by decide) ?_
    exact k_j1448 x4 σ hW h
  intro x4 σ hW h
  refine V_iload 13 4 rfl rfl ?_
  refine V_aload_n 14 0 rfl rfl rfl ?_
  refine V_slen 15 rfl ?_
  refine V_iconst 16 (v := (4 : Int32)) rfl (by decide) ?_
  refine V_isub 17 rfl ?_
  refine V_icmp_gt 18 (tgt := 1454) rfl (by decide) (fun hc => ?_) (fun hc => ?_)
  · replace h := h.1 hc
    refine V_iconst 869 (v := (1 : Int32)) rfl (by decide) ?_
    exact V_law1 870 ⟨rfl, rfl⟩ rfl
  · replace h := h.2 hc
    refine V_pc 32 rfl ?_
    refine V_aload_n 19 0 rfl rfl rfl ?_
    refine V_iload 20 4 rfl rfl ?_
    obtain ⟨hin, h⟩ := h
    refine V_sld 21 rfl hin ?_
    refine V_bipush 22 (v := (31 : Int32)) rfl (by decide) ?_
    refine V_iand 23 rfl ?_
    by_cases hs0 : ((xs x4.toNatClampNeg) &&& (31 : Int32)) = 0
    · replace h := h.1 hs0
      refine V_tab 24 (v := 0) (off := 101) (tgt := 140) rfl (by rw [hs0]; rfl) (by decide) rfl (by decide) ?_
      refine V_aload_n 25 1 rfl rfl rfl ?_
      refine V_aload_n 26 0 rfl rfl rfl ?_
      refine V_iload 27 4 rfl rfl ?_
      refine V_iconst 28 (v := (1 : Int32)) rfl (by decide) ?_
      refine V_iadd 29 rfl ?_
      obtain ⟨hin, h⟩ := h
      refine V_sld 30 rfl hin ?_
      refine V_pc 147 rfl ?_
      refine V_aload_n 31 3 rfl rfl rfl ?_
      refine V_callSX 32 3 (as := [.ref 0, .int (xs (x4 + (1 : Int32)).toNatClampNeg), .ref 163]) (rest := []) rfl mlL_92 yvL_put rfl rfl (by decide) (by decide) (Nat.le_of_ble_eq_true rfl) (by omega) (by omega) (fun B9 => ceL_put hl B9 hW h) (fun X9 τ9 h9 => absurd h9.2 id) ?_
      rintro v9 σ2 ⟨hW, u3, rfl, h⟩
      refine V_istore 33 (lv' := [(5, .int u3), (0, .ref 1000000), (1, .ref 0), (2, .ref 92), (3, .ref 163), (4, .int x4)]) rfl (by decide) rfl ?_
      refine V_aload_n 34 3 rfl rfl rfl ?_
      refine V_aload_n 35 1 rfl rfl rfl ?_
      refine V_iload 36 5 rfl rfl ?_
      refine V_iconst 37 (v := (1 : Int32)) rfl (by decide) ?_
      refine V_pc 158 rfl ?_
      refine V_iadd 38 rfl ?_
      obtain ⟨hin, h⟩ := h
      refine V_sld 39 rfl hin ?_
      refine V_callV 40 1 (as := [.int (xs (x4 + (1 : Int32)).toNatClampNeg)]) (rest := []) rfl mlL_97 yvX12_put rfl rfl clX12 (wsh hW rfl) (by decide) (by decide) (Nat.le_of_ble_eq_true rfl) (by omega) (by omega) (fun B9 => ceX12_put hl B9 hW h) (fun X9 τ9 h9 => absurd h9.2 id) ?_
      rintro v9 σ4 ⟨hW, u5, rfl, h⟩
      refine V_istore 41 (lv' := [(6, .int u5), (5, .int u3), (0, .ref 1000000), (1, .ref 0), (2, .ref 92), (3, .ref 163), (4, .int x4)]) rfl (by decide) rfl ?_
      refine V_aload_n 42 4 rfl rfl rfl ?_
      refine V_callV 43 0 (as := []) (rest := []) rfl mlL_98 yvX12_thrown rfl rfl clX12 (wsh hW rfl) (by decide) (by decide) (Nat.le_of_ble_eq_true rfl) (by omega) (by omega) (fun B9 => ceX12_thrown hl B9 hW h) (fun X9 τ9 h9 => absurd h9.2 id) ?_
      rintro v9 σ6 ⟨hW, u7, rfl, h⟩
      refine V_iload 44 1 rfl rfl ?_
      refine V_icmp_eq 45 (tgt := 176) rfl (by decide) (fun hc => ?_) (fun hc => ?_)
      · replace h := h.1 hc
        refine V_iload 48 1 rfl rfl ?_
        refine V_if_ne 49 (tgt := 193) rfl (by decide) (fun hc => ?_) (fun hc => ?_)
        · replace h := h.1 hc
          refine V_sub [2, 3, 4, 5, 6] (lv' := [(0, .ref 1000000), (1, .ref 0), (2, .ref 92), (3, .ref 163), (4, .int x4)]) rfl ?_
          refine V_less (kc' := (10 * N)) (ks' := (60 * N)) (by omega) (by omega) ?_
          exact k_j193 x4 σ6 hW h
        · replace h := h.2 hc
          refine V_pc 181 rfl ?_
          refine V_aload_n 50 5 rfl rfl rfl ?_
          refine V_iconst 51 (v := (0 : Int32)) rfl (by decide) ?_
          obtain ⟨hin, h⟩ := h
          refine V_lald 52 rfl (wsh hW rfl) hin ?_
          refine V_iload 53 0 rfl rfl ?_
          refine V_i2l 54 rfl ?_
          refine V_lcmp 55 rfl ?_
          refine V_pc 188 rfl ?_
          refine V_if_eq 56 (tgt := 193) rfl (by decide) (fun hc => ?_) (fun hc => ?_)
          · replace h := h.1 hc
            refine V_sub [2, 3, 4, 5, 6] (lv' := [(0, .ref 1000000), (1, .ref 0), (2, .ref 92), (3, .ref 163), (4, .int x4)]) rfl ?_
            refine V_less (kc' := (10 * N)) (ks' := (60 * N)) (by omega) (by omega) ?_
            exact k_j193 x4 σ6 hW h
          · replace h := h.2 hc
            refine V_pc 191 rfl ?_
            refine V_iconst 57 (v := (0 : Int32)) rfl (by decide) ?_
            exact absurd h id
      · replace h := h.2 hc
        refine V_pc 174 rfl ?_
        refine V_iconst 46 (v := (0 : Int32)) rfl (by decide) ?_
        exact absurd h id
    · replace h := h.2 hs0
      by_cases hs1 : ((xs x4.toNatClampNeg) &&& (31 : Int32)) = 1
      · replace h := h.1 hs1
        refine V_tab 24 (v := 1) (off := 157) (tgt := 196) rfl (by rw [hs1]; rfl) (by decide) rfl (by decide) ?_
        refine V_aload_n 60 1 rfl rfl rfl ?_
        refine V_aload_n 61 0 rfl rfl rfl ?_
        refine V_iload 62 4 rfl rfl ?_
        refine V_iconst 63 (v := (1 : Int32)) rfl (by decide) ?_
        refine V_iadd 64 rfl ?_
        obtain ⟨hin, h⟩ := h
        refine V_sld 65 rfl hin ?_
        refine V_pc 203 rfl ?_
        refine V_callSX 66 2 (as := [.ref 0, .int (xs (x4 + (1 : Int32)).toNatClampNeg)]) (rest := []) rfl mlL_101 yvL_end rfl rfl (by decide) (by decide) (Nat.le_of_ble_eq_true rfl) (by omega) (by omega) (fun B9 => ceL_end hl B9 hW h) (fun X9 τ9 h9 => absurd h9.2 id) ?_
        rintro v9 σ8 ⟨hW, u9, rfl, h⟩
        refine V_istore 67 (lv' := [(5, .int u9), (0, .ref 1000000), (1, .ref 0), (2, .ref 92), (3, .ref 163), (4, .int x4)]) rfl (by decide) rfl ?_
        refine V_aload_n 68 3 rfl rfl rfl ?_
        refine V_aload_n 69 1 rfl rfl rfl ?_
        refine V_iload 70 5 rfl rfl ?_
        refine V_iconst 71 (v := (1 : Int32)) rfl (by decide) ?_
        refine V_pc 213 rfl ?_
        refine V_iadd 72 rfl ?_
        obtain ⟨hin, h⟩ := h
        refine V_sld 73 rfl hin ?_
        refine V_callV 74 1 (as := [.int (xs (x4 + (1 : Int32)).toNatClampNeg)]) (rest := []) rfl mlL_104 yvX12_end rfl rfl clX12 (wsh hW rfl) (by decide) (by decide) (Nat.le_of_ble_eq_true rfl) (by omega) (by omega) (fun B9 => ceX12_end hl B9 hW h) (fun X9 τ9 h9 => absurd h9.2 id) ?_
        rintro v9 σ10 ⟨hW, rfl, h⟩
        refine V_aload_n 75 3 rfl rfl rfl ?_
        refine V_callV 76 0 (as := []) (rest := []) rfl mlL_98 yvX12_thrown rfl rfl clX12 (wsh hW rfl) (by decide) (by decide) (Nat.le_of_ble_eq_true rfl) (by omega) (by omega) (fun B9 => ceX12_thrown hl B9 hW h) (fun X9 τ9 h9 => absurd h9.2 id) ?_
        rintro v9 σ11 ⟨hW, u12, rfl, h⟩
        refine V_iload 77 0 rfl rfl ?_
        refine V_icmp_eq 78 (tgt := 229) rfl (by decide) (fun hc => ?_) (fun hc => ?_)
        · replace h := h.1 hc
          refine V_goto 81 (tgt := 1448) rfl (by decide) ?_
          refine V_sub [1, 2, 3, 4, 5] (lv' := [(0, .ref 1000000), (1, .ref 0), (2, .ref 92), (3, .ref 163), (4, .int x4)]) rfl ?_
          refine V_less (kc' := (10 * N)) (ks' := (60 * N)) (by omega) (by omega) ?_
          exact k_j1448 x4 σ11 hW h
        · replace h := h.2 hc
          refine V_pc 227 rfl ?_
          refine V_iconst 79 (v := (0 : Int32)) rfl (by decide) ?_
          exact absurd h id
      · replace h := h.2 hs1
        by_cases hs2 : ((xs x4.toNatClampNeg) &&& (31 : Int32)) = 2
        · replace h := h.1 hs2
          refine V_tab 24 (v := 2) (off := 193) (tgt := 232) rfl (by rw [hs2]; rfl) (by decide) rfl (by decide) ?_
          refine V_aload_n 82 1 rfl rfl rfl ?_
          refine V_callV 83 0 (as := []) (rest := []) rfl mlL_105 yvX11_grammar rfl rfl clX11 (wsh hW rfl) (by decide) (by decide) (Nat.le_of_ble_eq_true rfl) (by omega) (by omega) (fun B9 => ceX11_grammar hl B9 hW h) (fun X9 τ9 h9 => absurd h9.2 id) ?_
          rintro v9 σ13 ⟨hW, u14, rfl, h⟩
          refine V_aload_n 84 2 rfl rfl rfl ?_
          refine V_callV 85 0 (as := []) (rest := [.int u14]) rfl mlL_108 yvX12_grammar rfl rfl clX12 (wsh hW rfl) (by decide) (by decide) (Nat.le_of_ble_eq_true rfl) (by omega) (by omega) (fun B9 => ceX12_grammar hl B9 hW h) (fun X9 τ9 h9 => absurd h9.2 id) ?_
          rintro v9 σ15 ⟨hW, u16, rfl, h⟩
          refine V_icmp_eq 86 (tgt := 1448) rfl (by decide) (fun hc => ?_) (fun hc => ?_)
          · replace h := h.1 hc
            refine V_less (kc' := (10 * N)) (ks' := (60 * N)) (by omega) (by omega) ?_
            exact k_j1448 x4 σ15 hW h
          · replace h := h.2 hc
            refine V_pc 243 rfl ?_
            refine V_iconst 87 (v := (0 : Int32)) rfl (by decide) ?_
            exact absurd h id
        · replace h := h.2 hs2
          by_cases hs3 : ((xs x4.toNatClampNeg) &&& (31 : Int32)) = 3
          · replace h := h.1 hs3
            refine V_tab 24 (v := 3) (off := 206) (tgt := 245) rfl (by rw [hs3]; rfl) (by decide) rfl (by decide) ?_
            refine V_aload_n 89 1 rfl rfl rfl ?_
            refine V_aload_n 90 0 rfl rfl rfl ?_
            refine V_iload 91 4 rfl rfl ?_
            refine V_iconst 92 (v := (1 : Int32)) rfl (by decide) ?_
            refine V_iadd 93 rfl ?_
            obtain ⟨hin, h⟩ := h
            refine V_sld 94 rfl hin ?_
            refine V_pc 252 rfl ?_
            refine V_aload_n 95 3 rfl rfl rfl ?_
            refine V_callSX 96 3 (as := [.ref 0, .int (xs (x4 + (1 : Int32)).toNatClampNeg), .ref 163]) (rest := []) rfl mlL_109 yvL_size rfl rfl (by decide) (by decide) (Nat.le_of_ble_eq_true rfl) (by omega) (by omega) (fun B9 => ceL_size hl B9 hW h) (fun X9 τ9 h9 => absurd h9.2 id) ?_
            rintro v9 σ17 ⟨hW, u18, rfl, h⟩
            refine V_istore 97 (lv' := [(5, .int u18), (0, .ref 1000000), (1, .ref 0), (2, .ref 92), (3, .ref 163), (4, .int x4)]) rfl (by decide) rfl ?_
            refine V_aload_n 98 3 rfl rfl rfl ?_
            refine V_aload_n 99 1 rfl rfl rfl ?_
            refine V_iload 100 5 rfl rfl ?_
            refine V_iconst 101 (v := (1 : Int32)) rfl (by decide) ?_
            refine V_pc 263 rfl ?_
            refine V_iadd 102 rfl ?_
            obtain ⟨hin, h⟩ := h
            refine V_sld 103 rfl hin ?_
            refine V_callV 104 1 (as := [.int (xs (x4 + (1 : Int32)).toNatClampNeg)]) (rest := []) rfl mlL_111 yvX12_size rfl rfl clX12 (wsh hW rfl) (by decide) (by decide) (Nat.le_of_ble_eq_true rfl) (by omega) (by omega) (fun B9 => ceX12_size hl B9 hW h) (fun X9 τ9 h9 => absurd h9.2 id) ?_
            rintro v9 σ19 ⟨hW, u20, rfl, h⟩
            refine V_istore 105 (lv' := [(6, .int u20), (5, .int u18), (0, .ref 1000000), (1, .ref 0), (2, .ref 92), (3, .ref 163), (4, .int x4)]) rfl (by decide) rfl ?_
            refine V_aload_n 106 4 rfl rfl rfl ?_
            refine V_callV 107 0 (as := []) (rest := []) rfl mlL_98 yvX12_thrown rfl rfl clX12 (wsh hW rfl) (by decide) (by decide) (Nat.le_of_ble_eq_true rfl) (by omega) (by omega) (fun B9 => ceX12_thrown hl B9 hW h) (fun X9 τ9 h9 => absurd h9.2 id) ?_
            rintro v9 σ21 ⟨hW, u22, rfl, h⟩
            refine V_iload 108 1 rfl rfl ?_
            refine V_icmp_eq 109 (tgt := 281) rfl (by decide) (fun hc => ?_) (fun hc => ?_)
            · replace h := h.1 hc
              refine V_iload 112 1 rfl rfl ?_
              refine V_if_ne 113 (tgt := 298) rfl (by decide) (fun hc => ?_) (fun hc => ?_)
              · replace h := h.1 hc
                refine V_sub [2, 3, 4, 5, 6] (lv' := [(0, .ref 1000000), (1, .ref 0), (2, .ref 92), (3, .ref 163), (4, .int x4)]) rfl ?_
                refine V_less (kc' := (10 * N)) (ks' := (60 * N)) (by omega) (by omega) ?_
                exact k_j298 x4 σ21 hW h
              · replace h := h.2 hc
                refine V_pc 286 rfl ?_
                refine V_aload_n 114 5 rfl rfl rfl ?_
                refine V_iconst 115 (v := (0 : Int32)) rfl (by decide) ?_
                obtain ⟨hin, h⟩ := h
                refine V_lald 116 rfl (wsh hW rfl) hin ?_
                refine V_iload 117 0 rfl rfl ?_
                refine V_i2l 118 rfl ?_
                refine V_lcmp 119 rfl ?_
                refine V_pc 293 rfl ?_
                refine V_if_eq 120 (tgt := 298) rfl (by decide) (fun hc => ?_) (fun hc => ?_)
                · replace h := h.1 hc
                  refine V_sub [2, 3, 4, 5, 6] (lv' := [(0, .ref 1000000), (1, .ref 0), (2, .ref 92), (3, .ref 163), (4, .int x4)]) rfl ?_
                  refine V_less (kc' := (10 * N)) (ks' := (60 * N)) (by omega) (by omega) ?_
                  exact k_j298 x4 σ21 hW h
                · replace h := h.2 hc
                  refine V_pc 296 rfl ?_
                  refine V_iconst 121 (v := (0 : Int32)) rfl (by decide) ?_
                  exact absurd h id
            · replace h := h.2 hc
              refine V_pc 279 rfl ?_
              refine V_iconst 110 (v := (0 : Int32)) rfl (by decide) ?_
              exact absurd h id
          · replace h := h.2 hs3
            by_cases hs4 : ((xs x4.toNatClampNeg) &&& (31 : Int32)) = 4
            · replace h := h.1 hs4
              refine V_tab 24 (v := 4) (off := 262) (tgt := 301) rfl (by rw [hs4]; rfl) (by decide) rfl (by decide) ?_
              refine V_aload_n 124 1 rfl rfl rfl ?_
              refine V_aload_n 125 0 rfl rfl rfl ?_
              refine V_iload 126 4 rfl rfl ?_
              refine V_iconst 127 (v := (1 : Int32)) rfl (by decide) ?_
              refine V_iadd 128 rfl ?_
              obtain ⟨hin, h⟩ := h
              refine V_sld 129 rfl hin ?_
              refine V_pc 308 rfl ?_
              refine V_aload_n 130 0 rfl rfl rfl ?_
              refine V_iload 131 4 rfl rfl ?_
              refine V_iconst 132 (v := (2 : Int32)) rfl (by decide) ?_
              refine V_iadd 133 rfl ?_
              obtain ⟨hin, h⟩ := h
              refine V_sld 134 rfl hin ?_
              refine V_aload_n 135 0 rfl rfl rfl ?_
              refine V_pc 315 rfl ?_
              refine V_iload 136 4 rfl rfl ?_
              refine V_iconst 137 (v := (3 : Int32)) rfl (by decide) ?_
              refine V_iadd 138 rfl ?_
              obtain ⟨hin, h⟩ := h
              refine V_sld 139 rfl hin ?_
              refine V_aload_n 140 3 rfl rfl rfl ?_
              refine V_callSX 141 5 (as := [.ref 0, .int (xs (x4 + (1 : Int32)).toNatClampNeg), .int (xs (x4 + (2 : Int32)).toNatClampNeg), .int (xs (x4 + (3 : Int32)).toNatClampNeg), .ref 163]) (rest := []) rfl mlL_112 yvL_depends rfl rfl (by decide) (by decide) (Nat.le_of_ble_eq_true rfl) (by omega) (by omega) (fun B9 => ceL_depends hl B9 hW h) (fun X9 τ9 h9 => absurd h9.2 id) ?_
              rintro v9 σ23 ⟨hW, u24, rfl, h⟩
              refine V_istore 142 (lv' := [(5, .int u24), (0, .ref 1000000), (1, .ref 0), (2, .ref 92), (3, .ref 163), (4, .int x4)]) rfl (by decide) rfl ?_
              refine V_aload_n 143 3 rfl rfl rfl ?_
              refine V_aload_n 144 1 rfl rfl rfl ?_
              refine V_iload 145 5 rfl rfl ?_
              refine V_iconst 146 (v := (1 : Int32)) rfl (by decide) ?_
              refine V_pc 331 rfl ?_
              refine V_iadd 147 rfl ?_
              obtain ⟨hin, h⟩ := h
              refine V_sld 148 rfl hin ?_
              refine V_aload_n 149 1 rfl rfl rfl ?_
              refine V_iload 150 5 rfl rfl ?_
              refine V_iconst 151 (v := (2 : Int32)) rfl (by decide) ?_
              refine V_iadd 152 rfl ?_
              refine V_pc 338 rfl ?_
              obtain ⟨hin, h⟩ := h
              refine V_sld 153 rfl hin ?_
              refine V_aload_n 154 1 rfl rfl rfl ?_
              refine V_iload 155 5 rfl rfl ?_
              refine V_iconst 156 (v := (3 : Int32)) rfl (by decide) ?_
              refine V_iadd 157 rfl ?_
              obtain ⟨hin, h⟩ := h
              refine V_sld 158 rfl hin ?_
              refine V_pc 345 rfl ?_
              refine V_callV 159 3 (as := [.int (xs (x4 + (1 : Int32)).toNatClampNeg), .int (xs (x4 + (2 : Int32)).toNatClampNeg), .int (xs (x4 + (3 : Int32)).toNatClampNeg)]) (rest := []) rfl mlL_115 yvX12_depends rfl rfl clX12 (wsh hW rfl) (by decide) (by decide) (Nat.le_of_ble_eq_true rfl) (by omega) (by omega) (fun B9 => ceX12_depends hl B9 hW h) (fun X9 τ9 h9 => absurd h9.2 id) ?_
              rintro v9 σ25 ⟨hW, u26, rfl, h⟩
              refine V_istore 160 (lv' := [(6, .int u26), (5, .int u24), (0, .ref 1000000), (1, .ref 0), (2, .ref 92), (3, .ref 163), (4, .int x4)]) rfl (by decide) rfl ?_
              refine V_aload_n 161 4 rfl rfl rfl ?_
              refine V_callV 162 0 (as := []) (rest := []) rfl mlL_98 yvX12_thrown rfl rfl clX12 (wsh hW rfl) (by decide) (by decide) (Nat.le_of_ble_eq_true rfl) (by omega) (by omega) (fun B9 => ceX12_thrown hl B9 hW h) (fun X9 τ9 h9 => absurd h9.2 id) ?_
              rintro v9 σ27 ⟨hW, u28, rfl, h⟩
              refine V_iload 163 1 rfl rfl ?_
              refine V_icmp_eq 164 (tgt := 361) rfl (by decide) (fun hc => ?_) (fun hc => ?_)
              · replace h := h.1 hc
                refine V_iload 167 1 rfl rfl ?_
                refine V_if_ne 168 (tgt := 385) rfl (by decide) (fun hc => ?_) (fun hc => ?_)
                · replace h := h.1 hc
                  refine V_sub [2, 3, 4, 5, 6] (lv' := [(0, .ref 1000000), (1, .ref 0), (2, .ref 92), (3, .ref 163), (4, .int x4)]) rfl ?_
                  refine V_less (kc' := (10 * N)) (ks' := (60 * N)) (by omega) (by omega) ?_
                  exact k_j385 x4 σ27 hW h
                · replace h := h.2 hc
                  refine V_pc 366 rfl ?_
                  refine V_aload_n 169 5 rfl rfl rfl ?_
                  refine V_iconst 170 (v := (0 : Int32)) rfl (by decide) ?_
                  obtain ⟨hin, h⟩ := h
                  refine V_lald 171 rfl (wsh hW rfl) hin ?_
                  refine V_iload 172 0 rfl rfl ?_
                  refine V_if_eq 173 (tgt := 378) rfl (by decide) (fun hc => ?_) (fun hc => ?_)
                  · replace h := h.1 hc
                    refine V_lconst 176 (v := (0 : Int64)) rfl (by decide) ?_
                    refine V_sub [2, 3, 4, 5, 6] (lv' := [(0, .ref 1000000), (1, .ref 0), (2, .ref 92), (3, .ref 163), (4, .int x4)]) rfl ?_
                    refine V_less (kc' := (10 * N)) (ks' := (60 * N)) (by omega) (by omega) ?_
                    exact k_j379 x4 (0 : Int64) (σ27.2.2.1 163 (0 : Int32).toNatClampNeg) σ27 hW h
                  · replace h := h.2 hc
                    refine V_pc 374 rfl ?_
                    refine V_lconst 174 (v := (1 : Int64)) rfl (by decide) ?_
                    refine V_goto 175 (tgt := 379) rfl (by decide) ?_
                    refine V_sub [2, 3, 4, 5, 6] (lv' := [(0, .ref 1000000), (1, .ref 0), (2, .ref 92), (3, .ref 163), (4, .int x4)]) rfl ?_
                    refine V_less (kc' := (10 * N)) (ks' := (60 * N)) (by omega) (by omega) ?_
                    exact k_j379 x4 (1 : Int64) (σ27.2.2.1 163 (0 : Int32).toNatClampNeg) σ27 hW h
              · replace h := h.2 hc
                refine V_pc 359 rfl ?_
                refine V_iconst 165 (v := (0 : Int32)) rfl (by decide) ?_
                exact absurd h id
            · replace h := h.2 hs4
              by_cases hs5 : ((xs x4.toNatClampNeg) &&& (31 : Int32)) = 5
              · replace h := h.1 hs5
                refine V_tab 24 (v := 5) (off := 349) (tgt := 388) rfl (by rw [hs5]; rfl) (by decide) rfl (by decide) ?_
                refine V_aload_n 182 1 rfl rfl rfl ?_
                refine V_aload_n 183 0 rfl rfl rfl ?_
                refine V_iload 184 4 rfl rfl ?_
                refine V_iconst 185 (v := (1 : Int32)) rfl (by decide) ?_
                refine V_iadd 186 rfl ?_
                obtain ⟨hin, h⟩ := h
                refine V_sld 187 rfl hin ?_
                refine V_pc 395 rfl ?_
                refine V_aload_n 188 0 rfl rfl rfl ?_
                refine V_iload 189 4 rfl rfl ?_
                refine V_iconst 190 (v := (2 : Int32)) rfl (by decide) ?_
                refine V_iadd 191 rfl ?_
                obtain ⟨hin, h⟩ := h
                refine V_sld 192 rfl hin ?_
                refine V_aload_n 193 3 rfl rfl rfl ?_
                refine V_pc 402 rfl ?_
                refine V_callSX 194 4 (as := [.ref 0, .int (xs (x4 + (1 : Int32)).toNatClampNeg), .int (xs (x4 + (2 : Int32)).toNatClampNeg), .ref 163]) (rest := []) rfl mlL_116 yvL_level rfl rfl (by decide) (by decide) (Nat.le_of_ble_eq_true rfl) (by omega) (by omega) (fun B9 => ceL_level hl B9 hW h) (fun X9 τ9 h9 => absurd h9.2 id) ?_
                rintro v9 σ29 ⟨hW, u30, rfl, h⟩
                refine V_istore 195 (lv' := [(5, .int u30), (0, .ref 1000000), (1, .ref 0), (2, .ref 92), (3, .ref 163), (4, .int x4)]) rfl (by decide) rfl ?_
                refine V_aload_n 196 3 rfl rfl rfl ?_
                refine V_aload_n 197 1 rfl rfl rfl ?_
                refine V_iload 198 5 rfl rfl ?_
                refine V_iconst 199 (v := (1 : Int32)) rfl (by decide) ?_
                refine V_pc 412 rfl ?_
                refine V_iadd 200 rfl ?_
                obtain ⟨hin, h⟩ := h
                refine V_sld 201 rfl hin ?_
                refine V_aload_n 202 1 rfl rfl rfl ?_
                refine V_iload 203 5 rfl rfl ?_
                refine V_iconst 204 (v := (2 : Int32)) rfl (by decide) ?_
                refine V_iadd 205 rfl ?_
                refine V_pc 419 rfl ?_
                obtain ⟨hin, h⟩ := h
                refine V_sld 206 rfl hin ?_
                refine V_callV 207 2 (as := [.int (xs (x4 + (1 : Int32)).toNatClampNeg), .int (xs (x4 + (2 : Int32)).toNatClampNeg)]) (rest := []) rfl mlL_119 yvX12_level rfl rfl clX12 (wsh hW rfl) (by decide) (by decide) (Nat.le_of_ble_eq_true rfl) (by omega) (by omega) (fun B9 => ceX12_level hl B9 hW h) (fun X9 τ9 h9 => absurd h9.2 id) ?_
                rintro v9 σ31 ⟨hW, u32, rfl, h⟩
                refine V_istore 208 (lv' := [(6, .int u32), (5, .int u30), (0, .ref 1000000), (1, .ref 0), (2, .ref 92), (3, .ref 163), (4, .int x4)]) rfl (by decide) rfl ?_
                refine V_aload_n 209 4 rfl rfl rfl ?_
                refine V_callV 210 0 (as := []) (rest := []) rfl mlL_98 yvX12_thrown rfl rfl clX12 (wsh hW rfl) (by decide) (by decide) (Nat.le_of_ble_eq_true rfl) (by omega) (by omega) (fun B9 => ceX12_thrown hl B9 hW h) (fun X9 τ9 h9 => absurd h9.2 id) ?_
                rintro v9 σ33 ⟨hW, u34, rfl, h⟩
                refine V_iload 211 1 rfl rfl ?_
                refine V_icmp_eq 212 (tgt := 436) rfl (by decide) (fun hc => ?_) (fun hc => ?_)
                · replace h := h.1 hc
                  refine V_iload 215 1 rfl rfl ?_
                  refine V_if_ne 216 (tgt := 453) rfl (by decide) (fun hc => ?_) (fun hc => ?_)
                  · replace h := h.1 hc
                    refine V_sub [2, 3, 4, 5, 6] (lv' := [(0, .ref 1000000), (1, .ref 0), (2, .ref 92), (3, .ref 163), (4, .int x4)]) rfl ?_
                    refine V_less (kc' := (10 * N)) (ks' := (60 * N)) (by omega) (by omega) ?_
                    exact k_j453 x4 σ33 hW h
                  · replace h := h.2 hc
                    refine V_pc 441 rfl ?_
                    refine V_aload_n 217 5 rfl rfl rfl ?_
                    refine V_iconst 218 (v := (0 : Int32)) rfl (by decide) ?_
                    obtain ⟨hin, h⟩ := h
                    refine V_lald 219 rfl (wsh hW rfl) hin ?_
                    refine V_iload 220 0 rfl rfl ?_
                    refine V_i2l 221 rfl ?_
                    refine V_lcmp 222 rfl ?_
                    refine V_pc 448 rfl ?_
                    refine V_if_eq 223 (tgt := 453) rfl (by decide) (fun hc => ?_) (fun hc => ?_)
                    · replace h := h.1 hc
                      refine V_sub [2, 3, 4, 5, 6] (lv' := [(0, .ref 1000000), (1, .ref 0), (2, .ref 92), (3, .ref 163), (4, .int x4)]) rfl ?_
                      refine V_less (kc' := (10 * N)) (ks' := (60 * N)) (by omega) (by omega) ?_
                      exact k_j453 x4 σ33 hW h
                    · replace h := h.2 hc
                      refine V_pc 451 rfl ?_
                      refine V_iconst 224 (v := (0 : Int32)) rfl (by decide) ?_
                      exact absurd h id
                · replace h := h.2 hc
                  refine V_pc 434 rfl ?_
                  refine V_iconst 213 (v := (0 : Int32)) rfl (by decide) ?_
                  exact absurd h id
              · replace h := h.2 hs5
                by_cases hs6 : ((xs x4.toNatClampNeg) &&& (31 : Int32)) = 6
                · replace h := h.1 hs6
                  refine V_tab 24 (v := 6) (off := 417) (tgt := 456) rfl (by rw [hs6]; rfl) (by decide) rfl (by decide) ?_
                  refine V_aload_n 227 1 rfl rfl rfl ?_
                  refine V_aload_n 228 0 rfl rfl rfl ?_
                  refine V_iload 229 4 rfl rfl ?_
                  refine V_iconst 230 (v := (1 : Int32)) rfl (by decide) ?_
                  refine V_iadd 231 rfl ?_
                  obtain ⟨hin, h⟩ := h
                  refine V_sld 232 rfl hin ?_
                  refine V_pc 463 rfl ?_
                  refine V_aload_n 233 0 rfl rfl rfl ?_
                  refine V_iload 234 4 rfl rfl ?_
                  refine V_iconst 235 (v := (2 : Int32)) rfl (by decide) ?_
                  refine V_iadd 236 rfl ?_
                  obtain ⟨hin, h⟩ := h
                  refine V_sld 237 rfl hin ?_
                  refine V_aload_n 238 0 rfl rfl rfl ?_
                  refine V_pc 470 rfl ?_
                  refine V_iload 239 4 rfl rfl ?_
                  refine V_iconst 240 (v := (3 : Int32)) rfl (by decide) ?_
                  refine V_iadd 241 rfl ?_
                  obtain ⟨hin, h⟩ := h
                  refine V_sld 242 rfl hin ?_
                  refine V_aload_n 243 3 rfl rfl rfl ?_
                  refine V_callSX 244 5 (as := [.ref 0, .int (xs (x4 + (1 : Int32)).toNatClampNeg), .int (xs (x4 + (2 : Int32)).toNatClampNeg), .int (xs (x4 + (3 : Int32)).toNatClampNeg), .ref 163]) (rest := []) rfl mlL_120 yvL_plan rfl rfl (by decide) (by decide) (Nat.le_of_ble_eq_true rfl) (by omega) (by omega) (fun B9 => ceL_plan hl B9 hW h) (fun X9 τ9 h9 => absurd h9.2 id) ?_
                  rintro v9 σ35 ⟨hW, u36, rfl, h⟩
                  refine V_istore 245 (lv' := [(5, .int u36), (0, .ref 1000000), (1, .ref 0), (2, .ref 92), (3, .ref 163), (4, .int x4)]) rfl (by decide) rfl ?_
                  refine V_aload_n 246 3 rfl rfl rfl ?_
                  refine V_aload_n 247 1 rfl rfl rfl ?_
                  refine V_iload 248 5 rfl rfl ?_
                  refine V_iconst 249 (v := (1 : Int32)) rfl (by decide) ?_
                  refine V_pc 486 rfl ?_
                  refine V_iadd 250 rfl ?_
                  obtain ⟨hin, h⟩ := h
                  refine V_sld 251 rfl hin ?_
                  refine V_aload_n 252 1 rfl rfl rfl ?_
                  refine V_iload 253 5 rfl rfl ?_
                  refine V_iconst 254 (v := (2 : Int32)) rfl (by decide) ?_
                  refine V_iadd 255 rfl ?_
                  refine V_pc 493 rfl ?_
                  obtain ⟨hin, h⟩ := h
                  refine V_sld 256 rfl hin ?_
                  refine V_aload_n 257 1 rfl rfl rfl ?_
                  refine V_iload 258 5 rfl rfl ?_
                  refine V_iconst 259 (v := (3 : Int32)) rfl (by decide) ?_
                  refine V_iadd 260 rfl ?_
                  obtain ⟨hin, h⟩ := h
                  refine V_sld 261 rfl hin ?_
                  refine V_pc 500 rfl ?_
                  refine V_callV 262 3 (as := [.int (xs (x4 + (1 : Int32)).toNatClampNeg), .int (xs (x4 + (2 : Int32)).toNatClampNeg), .int (xs (x4 + (3 : Int32)).toNatClampNeg)]) (rest := []) rfl mlL_122 yvX12_plan rfl rfl clX12 (wsh hW rfl) (by decide) (by decide) (Nat.le_of_ble_eq_true rfl) (by omega) (by omega) (fun B9 => ceX12_plan hl B9 hW h) (fun X9 τ9 h9 => absurd h9.2 id) ?_
                  rintro v9 σ37 ⟨hW, u38, rfl, h⟩
                  refine V_istore 263 (lv' := [(6, .int u38), (5, .int u36), (0, .ref 1000000), (1, .ref 0), (2, .ref 92), (3, .ref 163), (4, .int x4)]) rfl (by decide) rfl ?_
                  refine V_aload_n 264 4 rfl rfl rfl ?_
                  refine V_callV 265 0 (as := []) (rest := []) rfl mlL_98 yvX12_thrown rfl rfl clX12 (wsh hW rfl) (by decide) (by decide) (Nat.le_of_ble_eq_true rfl) (by omega) (by omega) (fun B9 => ceX12_thrown hl B9 hW h) (fun X9 τ9 h9 => absurd h9.2 id) ?_
                  rintro v9 σ39 ⟨hW, u40, rfl, h⟩
                  refine V_iload 266 1 rfl rfl ?_
                  refine V_icmp_eq 267 (tgt := 516) rfl (by decide) (fun hc => ?_) (fun hc => ?_)
                  · replace h := h.1 hc
                    refine V_iload 270 1 rfl rfl ?_
                    refine V_if_ne 271 (tgt := 533) rfl (by decide) (fun hc => ?_) (fun hc => ?_)
                    · replace h := h.1 hc
                      refine V_sub [2, 3, 4, 5, 6] (lv' := [(0, .ref 1000000), (1, .ref 0), (2, .ref 92), (3, .ref 163), (4, .int x4)]) rfl ?_
                      refine V_less (kc' := (10 * N)) (ks' := (60 * N)) (by omega) (by omega) ?_
                      exact k_j533 x4 σ39 hW h
                    · replace h := h.2 hc
                      refine V_pc 521 rfl ?_
                      refine V_aload_n 272 5 rfl rfl rfl ?_
                      refine V_iconst 273 (v := (0 : Int32)) rfl (by decide) ?_
                      obtain ⟨hin, h⟩ := h
                      refine V_lald 274 rfl (wsh hW rfl) hin ?_
                      refine V_iload 275 0 rfl rfl ?_
                      refine V_i2l 276 rfl ?_
                      refine V_lcmp 277 rfl ?_
                      refine V_pc 528 rfl ?_
                      refine V_if_eq 278 (tgt := 533) rfl (by decide) (fun hc => ?_) (fun hc => ?_)
                      · replace h := h.1 hc
                        refine V_sub [2, 3, 4, 5, 6] (lv' := [(0, .ref 1000000), (1, .ref 0), (2, .ref 92), (3, .ref 163), (4, .int x4)]) rfl ?_
                        refine V_less (kc' := (10 * N)) (ks' := (60 * N)) (by omega) (by omega) ?_
                        exact k_j533 x4 σ39 hW h
                      · replace h := h.2 hc
                        refine V_pc 531 rfl ?_
                        refine V_iconst 279 (v := (0 : Int32)) rfl (by decide) ?_
                        exact absurd h id
                  · replace h := h.2 hc
                    refine V_pc 514 rfl ?_
                    refine V_iconst 268 (v := (0 : Int32)) rfl (by decide) ?_
                    exact absurd h id
                · replace h := h.2 hs6
                  by_cases hs7 : ((xs x4.toNatClampNeg) &&& (31 : Int32)) = 7
                  · replace h := h.1 hs7
                    refine V_tab 24 (v := 7) (off := 497) (tgt := 536) rfl (by rw [hs7]; rfl) (by decide) rfl (by decide) ?_
                    refine V_aload_n 282 1 rfl rfl rfl ?_
                    refine V_aload_n 283 0 rfl rfl rfl ?_
                    refine V_iload 284 4 rfl rfl ?_
                    refine V_iconst 285 (v := (1 : Int32)) rfl (by decide) ?_
                    refine V_iadd 286 rfl ?_
                    obtain ⟨hin, h⟩ := h
                    refine V_sld 287 rfl hin ?_
                    refine V_pc 543 rfl ?_
                    refine V_aload_n 288 0 rfl rfl rfl ?_
                    refine V_iload 289 4 rfl rfl ?_
                    refine V_iconst 290 (v := (2 : Int32)) rfl (by decide) ?_
                    refine V_iadd 291 rfl ?_
                    obtain ⟨hin, h⟩ := h
                    refine V_sld 292 rfl hin ?_
                    refine V_aload_n 293 3 rfl rfl rfl ?_
                    refine V_pc 550 rfl ?_
                    refine V_callSX 294 4 (as := [.ref 0, .int (xs (x4 + (1 : Int32)).toNatClampNeg), .int (xs (x4 + (2 : Int32)).toNatClampNeg), .ref 163]) (rest := []) rfl mlL_123 yvL_store rfl rfl (by decide) (by decide) (Nat.le_of_ble_eq_true rfl) (by omega) (by omega) (fun B9 => ceL_store hl B9 hW h) (fun X9 τ9 h9 => absurd h9.2 id) ?_
                    rintro v9 σ41 ⟨hW, u42, rfl, h⟩
                    refine V_istore 295 (lv' := [(5, .int u42), (0, .ref 1000000), (1, .ref 0), (2, .ref 92), (3, .ref 163), (4, .int x4)]) rfl (by decide) rfl ?_
                    refine V_aload_n 296 3 rfl rfl rfl ?_
                    refine V_aload_n 297 1 rfl rfl rfl ?_
                    refine V_iload 298 5 rfl rfl ?_
                    refine V_iconst 299 (v := (1 : Int32)) rfl (by decide) ?_
                    refine V_pc 560 rfl ?_
                    refine V_iadd 300 rfl ?_
                    obtain ⟨hin, h⟩ := h
                    refine V_sld 301 rfl hin ?_
                    refine V_aload_n 302 1 rfl rfl rfl ?_
                    refine V_iload 303 5 rfl rfl ?_
                    refine V_iconst 304 (v := (2 : Int32)) rfl (by decide) ?_
                    refine V_iadd 305 rfl ?_
                    refine V_pc 567 rfl ?_
                    obtain ⟨hin, h⟩ := h
                    refine V_sld 306 rfl hin ?_
                    refine V_callV 307 2 (as := [.int (xs (x4 + (1 : Int32)).toNatClampNeg), .int (xs (x4 + (2 : Int32)).toNatClampNeg)]) (rest := []) rfl mlL_125 yvX12_store rfl rfl clX12 (wsh hW rfl) (by decide) (by decide) (Nat.le_of_ble_eq_true rfl) (by omega) (by omega) (fun B9 => ceX12_store hl B9 hW h) (fun X9 τ9 h9 => absurd h9.2 id) ?_
                    rintro v9 σ43 ⟨hW, u44, rfl, h⟩
                    refine V_istore 308 (lv' := [(6, .int u44), (5, .int u42), (0, .ref 1000000), (1, .ref 0), (2, .ref 92), (3, .ref 163), (4, .int x4)]) rfl (by decide) rfl ?_
                    refine V_aload_n 309 4 rfl rfl rfl ?_
                    refine V_callV 310 0 (as := []) (rest := []) rfl mlL_98 yvX12_thrown rfl rfl clX12 (wsh hW rfl) (by decide) (by decide) (Nat.le_of_ble_eq_true rfl) (by omega) (by omega) (fun B9 => ceX12_thrown hl B9 hW h) (fun X9 τ9 h9 => absurd h9.2 id) ?_
                    rintro v9 σ45 ⟨hW, u46, rfl, h⟩
                    refine V_iload 311 1 rfl rfl ?_
                    refine V_icmp_eq 312 (tgt := 584) rfl (by decide) (fun hc => ?_) (fun hc => ?_)
                    · replace h := h.1 hc
                      refine V_iload 315 1 rfl rfl ?_
                      refine V_if_ne 316 (tgt := 601) rfl (by decide) (fun hc => ?_) (fun hc => ?_)
                      · replace h := h.1 hc
                        refine V_sub [2, 3, 4, 5, 6] (lv' := [(0, .ref 1000000), (1, .ref 0), (2, .ref 92), (3, .ref 163), (4, .int x4)]) rfl ?_
                        refine V_less (kc' := (10 * N)) (ks' := (60 * N)) (by omega) (by omega) ?_
                        exact k_j601 x4 σ45 hW h
                      · replace h := h.2 hc
                        refine V_pc 589 rfl ?_
                        refine V_aload_n 317 5 rfl rfl rfl ?_
                        refine V_iconst 318 (v := (0 : Int32)) rfl (by decide) ?_
                        obtain ⟨hin, h⟩ := h
                        refine V_lald 319 rfl (wsh hW rfl) hin ?_
                        refine V_iload 320 0 rfl rfl ?_
                        refine V_i2l 321 rfl ?_
                        refine V_lcmp 322 rfl ?_
                        refine V_pc 596 rfl ?_
                        refine V_if_eq 323 (tgt := 601) rfl (by decide) (fun hc => ?_) (fun hc => ?_)
                        · replace h := h.1 hc
                          refine V_sub [2, 3, 4, 5, 6] (lv' := [(0, .ref 1000000), (1, .ref 0), (2, .ref 92), (3, .ref 163), (4, .int x4)]) rfl ?_
                          refine V_less (kc' := (10 * N)) (ks' := (60 * N)) (by omega) (by omega) ?_
                          exact k_j601 x4 σ45 hW h
                        · replace h := h.2 hc
                          refine V_pc 599 rfl ?_
                          refine V_iconst 324 (v := (0 : Int32)) rfl (by decide) ?_
                          exact absurd h id
                    · replace h := h.2 hc
                      refine V_pc 582 rfl ?_
                      refine V_iconst 313 (v := (0 : Int32)) rfl (by decide) ?_
                      exact absurd h id
                  · replace h := h.2 hs7
                    by_cases hs8 : ((xs x4.toNatClampNeg) &&& (31 : Int32)) = 8
                    · replace h := h.1 hs8
                      refine V_tab 24 (v := 8) (off := 565) (tgt := 604) rfl (by rw [hs8]; rfl) (by decide) rfl (by decide) ?_
                      refine V_aload_n 327 1 rfl rfl rfl ?_
                      refine V_aload_n 328 3 rfl rfl rfl ?_
                      refine V_callSX 329 2 (as := [.ref 0, .ref 163]) (rest := []) rfl mlL_126 yvL_tree rfl rfl (by decide) (by decide) (Nat.le_of_ble_eq_true rfl) (by omega) (by omega) (fun B9 => ceL_tree hl B9 hW h) (fun X9 τ9 h9 => absurd h9.2 id) ?_
                      rintro v9 σ47 ⟨hW, u48, rfl, h⟩
                      refine V_istore 330 (lv' := [(5, .int u48), (0, .ref 1000000), (1, .ref 0), (2, .ref 92), (3, .ref 163), (4, .int x4)]) rfl (by decide) rfl ?_
                      refine V_aload_n 331 3 rfl rfl rfl ?_
                      refine V_callV 332 0 (as := []) (rest := []) rfl mlL_129 yvX12_tree rfl rfl clX12 (wsh hW rfl) (by decide) (by decide) (Nat.le_of_ble_eq_true rfl) (by omega) (by omega) (fun B9 => ceX12_tree hl B9 hW h) (fun X9 τ9 h9 => absurd h9.2 id) ?_
                      rintro v9 σ49 ⟨hW, u50, rfl, h⟩
                      refine V_istore 333 (lv' := [(6, .int u50), (5, .int u48), (0, .ref 1000000), (1, .ref 0), (2, .ref 92), (3, .ref 163), (4, .int x4)]) rfl (by decide) rfl ?_
                      refine V_aload_n 334 4 rfl rfl rfl ?_
                      refine V_callV 335 0 (as := []) (rest := []) rfl mlL_98 yvX12_thrown rfl rfl clX12 (wsh hW rfl) (by decide) (by decide) (Nat.le_of_ble_eq_true rfl) (by omega) (by omega) (fun B9 => ceX12_thrown hl B9 hW h) (fun X9 τ9 h9 => absurd h9.2 id) ?_
                      rintro v9 σ51 ⟨hW, u52, rfl, h⟩
                      refine V_iload 336 1 rfl rfl ?_
                      refine V_icmp_eq 337 (tgt := 628) rfl (by decide) (fun hc => ?_) (fun hc => ?_)
                      · replace h := h.1 hc
                        refine V_iload 340 1 rfl rfl ?_
                        refine V_if_ne 341 (tgt := 645) rfl (by decide) (fun hc => ?_) (fun hc => ?_)
                        · replace h := h.1 hc
                          refine V_sub [2, 3, 4, 5, 6] (lv' := [(0, .ref 1000000), (1, .ref 0), (2, .ref 92), (3, .ref 163), (4, .int x4)]) rfl ?_
                          refine V_less (kc' := (10 * N)) (ks' := (60 * N)) (by omega) (by omega) ?_
                          exact k_j645 x4 σ51 hW h
                        · replace h := h.2 hc
                          refine V_pc 633 rfl ?_
                          refine V_aload_n 342 5 rfl rfl rfl ?_
                          refine V_iconst 343 (v := (0 : Int32)) rfl (by decide) ?_
                          obtain ⟨hin, h⟩ := h
                          refine V_lald 344 rfl (wsh hW rfl) hin ?_
                          refine V_iload 345 0 rfl rfl ?_
                          refine V_i2l 346 rfl ?_
                          refine V_lcmp 347 rfl ?_
                          refine V_pc 640 rfl ?_
                          refine V_if_eq 348 (tgt := 645) rfl (by decide) (fun hc => ?_) (fun hc => ?_)
                          · replace h := h.1 hc
                            refine V_sub [2, 3, 4, 5, 6] (lv' := [(0, .ref 1000000), (1, .ref 0), (2, .ref 92), (3, .ref 163), (4, .int x4)]) rfl ?_
                            refine V_less (kc' := (10 * N)) (ks' := (60 * N)) (by omega) (by omega) ?_
                            exact k_j645 x4 σ51 hW h
                          · replace h := h.2 hc
                            refine V_pc 643 rfl ?_
                            refine V_iconst 349 (v := (0 : Int32)) rfl (by decide) ?_
                            exact absurd h id
                      · replace h := h.2 hc
                        refine V_pc 626 rfl ?_
                        refine V_iconst 338 (v := (0 : Int32)) rfl (by decide) ?_
                        exact absurd h id
                    · replace h := h.2 hs8
                      by_cases hs9 : ((xs x4.toNatClampNeg) &&& (31 : Int32)) = 9
                      · replace h := h.1 hs9
                        refine V_tab 24 (v := 9) (off := 609) (tgt := 648) rfl (by rw [hs9]; rfl) (by decide) rfl (by decide) ?_
                        refine V_aload_n 352 1 rfl rfl rfl ?_
                        refine V_aload_n 353 0 rfl rfl rfl ?_
                        refine V_iload 354 4 rfl rfl ?_
                        refine V_iconst 355 (v := (1 : Int32)) rfl (by decide) ?_
                        refine V_iadd 356 rfl ?_
                        obtain ⟨hin, h⟩ := h
                        refine V_sld 357 rfl hin ?_
                        refine V_pc 655 rfl ?_
                        refine V_aload_n 358 3 rfl rfl rfl ?_
                        refine V_callSX 359 3 (as := [.ref 0, .int (xs (x4 + (1 : Int32)).toNatClampNeg), .ref 163]) (rest := []) rfl mlL_130 yvL_count rfl rfl (by decide) (by decide) (Nat.le_of_ble_eq_true rfl) (by omega) (by omega) (fun B9 => ceL_count hl B9 hW h) (fun X9 τ9 h9 => absurd h9.2 id) ?_
                        rintro v9 σ53 ⟨hW, u54, rfl, h⟩
                        refine V_istore 360 (lv' := [(5, .int u54), (0, .ref 1000000), (1, .ref 0), (2, .ref 92), (3, .ref 163), (4, .int x4)]) rfl (by decide) rfl ?_
                        refine V_aload_n 361 3 rfl rfl rfl ?_
                        refine V_aload_n 362 1 rfl rfl rfl ?_
                        refine V_iload 363 5 rfl rfl ?_
                        refine V_iconst 364 (v := (1 : Int32)) rfl (by decide) ?_
                        refine V_pc 666 rfl ?_
                        refine V_iadd 365 rfl ?_
                        obtain ⟨hin, h⟩ := h
                        refine V_sld 366 rfl hin ?_
                        refine V_callV 367 1 (as := [.int (xs (x4 + (1 : Int32)).toNatClampNeg)]) (rest := []) rfl mlL_132 yvX12_count rfl rfl clX12 (wsh hW rfl) (by decide) (by decide) (Nat.le_of_ble_eq_true rfl) (by omega) (by omega) (fun B9 => ceX12_count hl B9 hW h) (fun X9 τ9 h9 => absurd h9.2 id) ?_
                        rintro v9 σ55 ⟨hW, u56, rfl, h⟩
                        refine V_istore 368 (lv' := [(6, .int u56), (5, .int u54), (0, .ref 1000000), (1, .ref 0), (2, .ref 92), (3, .ref 163), (4, .int x4)]) rfl (by decide) rfl ?_
                        refine V_aload_n 369 4 rfl rfl rfl ?_
                        refine V_callV 370 0 (as := []) (rest := []) rfl mlL_98 yvX12_thrown rfl rfl clX12 (wsh hW rfl) (by decide) (by decide) (Nat.le_of_ble_eq_true rfl) (by omega) (by omega) (fun B9 => ceX12_thrown hl B9 hW h) (fun X9 τ9 h9 => absurd h9.2 id) ?_
                        rintro v9 σ57 ⟨hW, u58, rfl, h⟩
                        refine V_iload 371 1 rfl rfl ?_
                        refine V_icmp_eq 372 (tgt := 684) rfl (by decide) (fun hc => ?_) (fun hc => ?_)
                        · replace h := h.1 hc
                          refine V_iload 375 1 rfl rfl ?_
                          refine V_if_ne 376 (tgt := 701) rfl (by decide) (fun hc => ?_) (fun hc => ?_)
                          · replace h := h.1 hc
                            refine V_sub [2, 3, 4, 5, 6] (lv' := [(0, .ref 1000000), (1, .ref 0), (2, .ref 92), (3, .ref 163), (4, .int x4)]) rfl ?_
                            refine V_less (kc' := (10 * N)) (ks' := (60 * N)) (by omega) (by omega) ?_
                            exact k_j701 x4 σ57 hW h
                          · replace h := h.2 hc
                            refine V_pc 689 rfl ?_
                            refine V_aload_n 377 5 rfl rfl rfl ?_
                            refine V_iconst 378 (v := (0 : Int32)) rfl (by decide) ?_
                            obtain ⟨hin, h⟩ := h
                            refine V_lald 379 rfl (wsh hW rfl) hin ?_
                            refine V_iload 380 0 rfl rfl ?_
                            refine V_i2l 381 rfl ?_
                            refine V_lcmp 382 rfl ?_
                            refine V_pc 696 rfl ?_
                            refine V_if_eq 383 (tgt := 701) rfl (by decide) (fun hc => ?_) (fun hc => ?_)
                            · replace h := h.1 hc
                              refine V_sub [2, 3, 4, 5, 6] (lv' := [(0, .ref 1000000), (1, .ref 0), (2, .ref 92), (3, .ref 163), (4, .int x4)]) rfl ?_
                              refine V_less (kc' := (10 * N)) (ks' := (60 * N)) (by omega) (by omega) ?_
                              exact k_j701 x4 σ57 hW h
                            · replace h := h.2 hc
                              refine V_pc 699 rfl ?_
                              refine V_iconst 384 (v := (0 : Int32)) rfl (by decide) ?_
                              exact absurd h id
                        · replace h := h.2 hc
                          refine V_pc 682 rfl ?_
                          refine V_iconst 373 (v := (0 : Int32)) rfl (by decide) ?_
                          exact absurd h id
                      · replace h := h.2 hs9
                        by_cases hs10 : ((xs x4.toNatClampNeg) &&& (31 : Int32)) = 10
                        · replace h := h.1 hs10
                          refine V_tab 24 (v := 10) (off := 665) (tgt := 704) rfl (by rw [hs10]; rfl) (by decide) rfl (by decide) ?_
                          refine V_aload_n 387 1 rfl rfl rfl ?_
                          refine V_aload_n 388 0 rfl rfl rfl ?_
                          refine V_iload 389 4 rfl rfl ?_
                          refine V_iconst 390 (v := (1 : Int32)) rfl (by decide) ?_
                          refine V_iadd 391 rfl ?_
                          obtain ⟨hin, h⟩ := h
                          refine V_sld 392 rfl hin ?_
                          refine V_pc 711 rfl ?_
                          refine V_aload_n 393 0 rfl rfl rfl ?_
                          refine V_iload 394 4 rfl rfl ?_
                          refine V_iconst 395 (v := (2 : Int32)) rfl (by decide) ?_
                          refine V_iadd 396 rfl ?_
                          obtain ⟨hin, h⟩ := h
                          refine V_sld 397 rfl hin ?_
                          refine V_aload_n 398 3 rfl rfl rfl ?_
                          refine V_pc 718 rfl ?_
                          refine V_callSX 399 4 (as := [.ref 0, .int (xs (x4 + (1 : Int32)).toNatClampNeg), .int (xs (x4 + (2 : Int32)).toNatClampNeg), .ref 163]) (rest := []) rfl mlL_133 yvL_node rfl rfl (by decide) (by decide) (Nat.le_of_ble_eq_true rfl) (by omega) (by omega) (fun B9 => ceL_node hl B9 hW h) (fun X9 τ9 h9 => absurd h9.2 id) ?_
                          rintro v9 σ59 ⟨hW, u60, rfl, h⟩
                          refine V_istore 400 (lv' := [(5, .int u60), (0, .ref 1000000), (1, .ref 0), (2, .ref 92), (3, .ref 163), (4, .int x4)]) rfl (by decide) rfl ?_
                          refine V_aload_n 401 3 rfl rfl rfl ?_
                          refine V_aload_n 402 1 rfl rfl rfl ?_
                          refine V_iload 403 5 rfl rfl ?_
                          refine V_iconst 404 (v := (1 : Int32)) rfl (by decide) ?_
                          refine V_pc 728 rfl ?_
                          refine V_iadd 405 rfl ?_
                          obtain ⟨hin, h⟩ := h
                          refine V_sld 406 rfl hin ?_
                          refine V_aload_n 407 1 rfl rfl rfl ?_
                          refine V_iload 408 5 rfl rfl ?_
                          refine V_iconst 409 (v := (2 : Int32)) rfl (by decide) ?_
                          refine V_iadd 410 rfl ?_
                          refine V_pc 735 rfl ?_
                          obtain ⟨hin, h⟩ := h
                          refine V_sld 411 rfl hin ?_
                          refine V_callV 412 2 (as := [.int (xs (x4 + (1 : Int32)).toNatClampNeg), .int (xs (x4 + (2 : Int32)).toNatClampNeg)]) (rest := []) rfl mlL_135 yvX12_node rfl rfl clX12 (wsh hW rfl) (by decide) (by decide) (Nat.le_of_ble_eq_true rfl) (by omega) (by omega) (fun B9 => ceX12_node hl B9 hW h) (fun X9 τ9 h9 => absurd h9.2 id) ?_
                          rintro v9 σ61 ⟨hW, u62, rfl, h⟩
                          refine V_istore 413 (lv' := [(6, .int u62), (5, .int u60), (0, .ref 1000000), (1, .ref 0), (2, .ref 92), (3, .ref 163), (4, .int x4)]) rfl (by decide) rfl ?_
                          refine V_aload_n 414 4 rfl rfl rfl ?_
                          refine V_callV 415 0 (as := []) (rest := []) rfl mlL_98 yvX12_thrown rfl rfl clX12 (wsh hW rfl) (by decide) (by decide) (Nat.le_of_ble_eq_true rfl) (by omega) (by omega) (fun B9 => ceX12_thrown hl B9 hW h) (fun X9 τ9 h9 => absurd h9.2 id) ?_
                          rintro v9 σ63 ⟨hW, u64, rfl, h⟩
                          refine V_iload 416 1 rfl rfl ?_
                          refine V_icmp_eq 417 (tgt := 752) rfl (by decide) (fun hc => ?_) (fun hc => ?_)
                          · replace h := h.1 hc
                            refine V_iload 420 1 rfl rfl ?_
                            refine V_if_ne 421 (tgt := 769) rfl (by decide) (fun hc => ?_) (fun hc => ?_)
                            · replace h := h.1 hc
                              refine V_sub [2, 3, 4, 5, 6] (lv' := [(0, .ref 1000000), (1, .ref 0), (2, .ref 92), (3, .ref 163), (4, .int x4)]) rfl ?_
                              refine V_less (kc' := (10 * N)) (ks' := (60 * N)) (by omega) (by omega) ?_
                              exact k_j769 x4 σ63 hW h
                            · replace h := h.2 hc
                              refine V_pc 757 rfl ?_
                              refine V_aload_n 422 5 rfl rfl rfl ?_
                              refine V_iconst 423 (v := (0 : Int32)) rfl (by decide) ?_
                              obtain ⟨hin, h⟩ := h
                              refine V_lald 424 rfl (wsh hW rfl) hin ?_
                              refine V_iload 425 0 rfl rfl ?_
                              refine V_i2l 426 rfl ?_
                              refine V_lcmp 427 rfl ?_
                              refine V_pc 764 rfl ?_
                              refine V_if_eq 428 (tgt := 769) rfl (by decide) (fun hc => ?_) (fun hc => ?_)
                              · replace h := h.1 hc
                                refine V_sub [2, 3, 4, 5, 6] (lv' := [(0, .ref 1000000), (1, .ref 0), (2, .ref 92), (3, .ref 163), (4, .int x4)]) rfl ?_
                                refine V_less (kc' := (10 * N)) (ks' := (60 * N)) (by omega) (by omega) ?_
                                exact k_j769 x4 σ63 hW h
                              · replace h := h.2 hc
                                refine V_pc 767 rfl ?_
                                refine V_iconst 429 (v := (0 : Int32)) rfl (by decide) ?_
                                exact absurd h id
                          · replace h := h.2 hc
                            refine V_pc 750 rfl ?_
                            refine V_iconst 418 (v := (0 : Int32)) rfl (by decide) ?_
                            exact absurd h id
                        · replace h := h.2 hs10
                          by_cases hs11 : ((xs x4.toNatClampNeg) &&& (31 : Int32)) = 11
                          · replace h := h.1 hs11
                            refine V_tab 24 (v := 11) (off := 733) (tgt := 772) rfl (by rw [hs11]; rfl) (by decide) rfl (by decide) ?_
                            refine V_aload_n 432 1 rfl rfl rfl ?_
                            refine V_aload_n 433 0 rfl rfl rfl ?_
                            refine V_iload 434 4 rfl rfl ?_
                            refine V_iconst 435 (v := (1 : Int32)) rfl (by decide) ?_
                            refine V_iadd 436 rfl ?_
                            obtain ⟨hin, h⟩ := h
                            refine V_sld 437 rfl hin ?_
                            refine V_pc 779 rfl ?_
                            refine V_aload_n 438 0 rfl rfl rfl ?_
                            refine V_iload 439 4 rfl rfl ?_
                            refine V_iconst 440 (v := (2 : Int32)) rfl (by decide) ?_
                            refine V_iadd 441 rfl ?_
                            obtain ⟨hin, h⟩ := h
                            refine V_sld 442 rfl hin ?_
                            refine V_aload_n 443 3 rfl rfl rfl ?_
                            refine V_pc 786 rfl ?_
                            refine V_callSX 444 4 (as := [.ref 0, .int (xs (x4 + (1 : Int32)).toNatClampNeg), .int (xs (x4 + (2 : Int32)).toNatClampNeg), .ref 163]) (rest := []) rfl mlL_136 yvL_value rfl rfl (by decide) (by decide) (Nat.le_of_ble_eq_true rfl) (by omega) (by omega) (fun B9 => ceL_value hl B9 hW h) (fun X9 τ9 h9 => absurd h9.2 id) ?_
                            rintro v9 σ65 ⟨hW, u66, rfl, h⟩
                            refine V_istore 445 (lv' := [(5, .int u66), (0, .ref 1000000), (1, .ref 0), (2, .ref 92), (3, .ref 163), (4, .int x4)]) rfl (by decide) rfl ?_
                            refine V_aload_n 446 3 rfl rfl rfl ?_
                            refine V_aload_n 447 1 rfl rfl rfl ?_
                            refine V_iload 448 5 rfl rfl ?_
                            refine V_iconst 449 (v := (1 : Int32)) rfl (by decide) ?_
                            refine V_pc 796 rfl ?_
                            refine V_iadd 450 rfl ?_
                            obtain ⟨hin, h⟩ := h
                            refine V_sld 451 rfl hin ?_
                            refine V_aload_n 452 1 rfl rfl rfl ?_
                            refine V_iload 453 5 rfl rfl ?_
                            refine V_iconst 454 (v := (2 : Int32)) rfl (by decide) ?_
                            refine V_iadd 455 rfl ?_
                            refine V_pc 803 rfl ?_
                            obtain ⟨hin, h⟩ := h
                            refine V_sld 456 rfl hin ?_
                            refine V_callV 457 2 (as := [.int (xs (x4 + (1 : Int32)).toNatClampNeg), .int (xs (x4 + (2 : Int32)).toNatClampNeg)]) (rest := []) rfl mlL_138 yvX12_value rfl rfl clX12 (wsh hW rfl) (by decide) (by decide) (Nat.le_of_ble_eq_true rfl) (by omega) (by omega) (fun B9 => ceX12_value hl B9 hW h) (fun X9 τ9 h9 => absurd h9.2 id) ?_
                            rintro v9 σ67 ⟨hW, u68, rfl, h⟩
                            refine V_istore 458 (lv' := [(6, .int u68), (5, .int u66), (0, .ref 1000000), (1, .ref 0), (2, .ref 92), (3, .ref 163), (4, .int x4)]) rfl (by decide) rfl ?_
                            refine V_aload_n 459 4 rfl rfl rfl ?_
                            refine V_callV 460 0 (as := []) (rest := []) rfl mlL_98 yvX12_thrown rfl rfl clX12 (wsh hW rfl) (by decide) (by decide) (Nat.le_of_ble_eq_true rfl) (by omega) (by omega) (fun B9 => ceX12_thrown hl B9 hW h) (fun X9 τ9 h9 => absurd h9.2 id) ?_
                            rintro v9 σ69 ⟨hW, u70, rfl, h⟩
                            refine V_iload 461 1 rfl rfl ?_
                            refine V_icmp_eq 462 (tgt := 820) rfl (by decide) (fun hc => ?_) (fun hc => ?_)
                            · replace h := h.1 hc
                              refine V_iload 465 1 rfl rfl ?_
                              refine V_if_ne 466 (tgt := 837) rfl (by decide) (fun hc => ?_) (fun hc => ?_)
                              · replace h := h.1 hc
                                refine V_sub [2, 3, 4, 5, 6] (lv' := [(0, .ref 1000000), (1, .ref 0), (2, .ref 92), (3, .ref 163), (4, .int x4)]) rfl ?_
                                refine V_less (kc' := (10 * N)) (ks' := (60 * N)) (by omega) (by omega) ?_
                                exact k_j837 x4 σ69 hW h
                              · replace h := h.2 hc
                                refine V_pc 825 rfl ?_
                                refine V_aload_n 467 5 rfl rfl rfl ?_
                                refine V_iconst 468 (v := (0 : Int32)) rfl (by decide) ?_
                                obtain ⟨hin, h⟩ := h
                                refine V_lald 469 rfl (wsh hW rfl) hin ?_
                                refine V_iload 470 0 rfl rfl ?_
                                refine V_i2l 471 rfl ?_
                                refine V_lcmp 472 rfl ?_
                                refine V_pc 832 rfl ?_
                                refine V_if_eq 473 (tgt := 837) rfl (by decide) (fun hc => ?_) (fun hc => ?_)
                                · replace h := h.1 hc
                                  refine V_sub [2, 3, 4, 5, 6] (lv' := [(0, .ref 1000000), (1, .ref 0), (2, .ref 92), (3, .ref 163), (4, .int x4)]) rfl ?_
                                  refine V_less (kc' := (10 * N)) (ks' := (60 * N)) (by omega) (by omega) ?_
                                  exact k_j837 x4 σ69 hW h
                                · replace h := h.2 hc
                                  refine V_pc 835 rfl ?_
                                  refine V_iconst 474 (v := (0 : Int32)) rfl (by decide) ?_
                                  exact absurd h id
                            · replace h := h.2 hc
                              refine V_pc 818 rfl ?_
                              refine V_iconst 463 (v := (0 : Int32)) rfl (by decide) ?_
                              exact absurd h id
                          · replace h := h.2 hs11
                            by_cases hs12 : ((xs x4.toNatClampNeg) &&& (31 : Int32)) = 12
                            · replace h := h.1 hs12
                              refine V_tab 24 (v := 12) (off := 801) (tgt := 840) rfl (by rw [hs12]; rfl) (by decide) rfl (by decide) ?_
                              refine V_aload_n 477 1 rfl rfl rfl ?_
                              refine V_aload_n 478 0 rfl rfl rfl ?_
                              refine V_iload 479 4 rfl rfl ?_
                              refine V_iconst 480 (v := (1 : Int32)) rfl (by decide) ?_
                              refine V_iadd 481 rfl ?_
                              obtain ⟨hin, h⟩ := h
                              refine V_sld 482 rfl hin ?_
                              refine V_pc 847 rfl ?_
                              refine V_aload_n 483 0 rfl rfl rfl ?_
                              refine V_iload 484 4 rfl rfl ?_
                              refine V_iconst 485 (v := (2 : Int32)) rfl (by decide) ?_
                              refine V_iadd 486 rfl ?_
                              obtain ⟨hin, h⟩ := h
                              refine V_sld 487 rfl hin ?_
                              refine V_aload_n 488 3 rfl rfl rfl ?_
                              refine V_pc 854 rfl ?_
                              refine V_callSX 489 4 (as := [.ref 0, .int (xs (x4 + (1 : Int32)).toNatClampNeg), .int (xs (x4 + (2 : Int32)).toNatClampNeg), .ref 163]) (rest := []) rfl mlL_139 yvL_change rfl rfl (by decide) (by decide) (Nat.le_of_ble_eq_true rfl) (by omega) (by omega) (fun B9 => ceL_change hl B9 hW h) (fun X9 τ9 h9 => absurd h9.2 id) ?_
                              rintro v9 σ71 ⟨hW, u72, rfl, h⟩
                              refine V_istore 490 (lv' := [(5, .int u72), (0, .ref 1000000), (1, .ref 0), (2, .ref 92), (3, .ref 163), (4, .int x4)]) rfl (by decide) rfl ?_
                              refine V_aload_n 491 3 rfl rfl rfl ?_
                              refine V_aload_n 492 1 rfl rfl rfl ?_
                              refine V_iload 493 5 rfl rfl ?_
                              refine V_iconst 494 (v := (1 : Int32)) rfl (by decide) ?_
                              refine V_pc 864 rfl ?_
                              refine V_iadd 495 rfl ?_
                              obtain ⟨hin, h⟩ := h
                              refine V_sld 496 rfl hin ?_
                              refine V_aload_n 497 1 rfl rfl rfl ?_
                              refine V_iload 498 5 rfl rfl ?_
                              refine V_iconst 499 (v := (2 : Int32)) rfl (by decide) ?_
                              refine V_iadd 500 rfl ?_
                              refine V_pc 871 rfl ?_
                              obtain ⟨hin, h⟩ := h
                              refine V_sld 501 rfl hin ?_
                              refine V_callV 502 2 (as := [.int (xs (x4 + (1 : Int32)).toNatClampNeg), .int (xs (x4 + (2 : Int32)).toNatClampNeg)]) (rest := []) rfl mlL_141 yvX12_change rfl rfl clX12 (wsh hW rfl) (by decide) (by decide) (Nat.le_of_ble_eq_true rfl) (by omega) (by omega) (fun B9 => ceX12_change hl B9 hW h) (fun X9 τ9 h9 => absurd h9.2 id) ?_
                              rintro v9 σ73 ⟨hW, u74, rfl, h⟩
                              refine V_istore 503 (lv' := [(6, .int u74), (5, .int u72), (0, .ref 1000000), (1, .ref 0), (2, .ref 92), (3, .ref 163), (4, .int x4)]) rfl (by decide) rfl ?_
                              refine V_aload_n 504 4 rfl rfl rfl ?_
                              refine V_callV 505 0 (as := []) (rest := []) rfl mlL_98 yvX12_thrown rfl rfl clX12 (wsh hW rfl) (by decide) (by decide) (Nat.le_of_ble_eq_true rfl) (by omega) (by omega) (fun B9 => ceX12_thrown hl B9 hW h) (fun X9 τ9 h9 => absurd h9.2 id) ?_
                              rintro v9 σ75 ⟨hW, u76, rfl, h⟩
                              refine V_iload 506 1 rfl rfl ?_
                              refine V_icmp_eq 507 (tgt := 888) rfl (by decide) (fun hc => ?_) (fun hc => ?_)
                              · replace h := h.1 hc
                                refine V_iload 510 1 rfl rfl ?_
                                refine V_if_ne 511 (tgt := 905) rfl (by decide) (fun hc => ?_) (fun hc => ?_)
                                · replace h := h.1 hc
                                  refine V_sub [2, 3, 4, 5, 6] (lv' := [(0, .ref 1000000), (1, .ref 0), (2, .ref 92), (3, .ref 163), (4, .int x4)]) rfl ?_
                                  refine V_less (kc' := (10 * N)) (ks' := (60 * N)) (by omega) (by omega) ?_
                                  exact k_j905 x4 σ75 hW h
                                · replace h := h.2 hc
                                  refine V_pc 893 rfl ?_
                                  refine V_aload_n 512 5 rfl rfl rfl ?_
                                  refine V_iconst 513 (v := (0 : Int32)) rfl (by decide) ?_
                                  obtain ⟨hin, h⟩ := h
                                  refine V_lald 514 rfl (wsh hW rfl) hin ?_
                                  refine V_iload 515 0 rfl rfl ?_
                                  refine V_i2l 516 rfl ?_
                                  refine V_lcmp 517 rfl ?_
                                  refine V_pc 900 rfl ?_
                                  refine V_if_eq 518 (tgt := 905) rfl (by decide) (fun hc => ?_) (fun hc => ?_)
                                  · replace h := h.1 hc
                                    refine V_sub [2, 3, 4, 5, 6] (lv' := [(0, .ref 1000000), (1, .ref 0), (2, .ref 92), (3, .ref 163), (4, .int x4)]) rfl ?_
                                    refine V_less (kc' := (10 * N)) (ks' := (60 * N)) (by omega) (by omega) ?_
                                    exact k_j905 x4 σ75 hW h
                                  · replace h := h.2 hc
                                    refine V_pc 903 rfl ?_
                                    refine V_iconst 519 (v := (0 : Int32)) rfl (by decide) ?_
                                    exact absurd h id
                              · replace h := h.2 hc
                                refine V_pc 886 rfl ?_
                                refine V_iconst 508 (v := (0 : Int32)) rfl (by decide) ?_
                                exact absurd h id
                            · replace h := h.2 hs12
                              by_cases hs13 : ((xs x4.toNatClampNeg) &&& (31 : Int32)) = 13
                              · replace h := h.1 hs13
                                refine V_tab 24 (v := 13) (off := 869) (tgt := 908) rfl (by rw [hs13]; rfl) (by decide) rfl (by decide) ?_
                                refine V_aload_n 522 1 rfl rfl rfl ?_
                                refine V_aload_n 523 0 rfl rfl rfl ?_
                                refine V_iload 524 4 rfl rfl ?_
                                refine V_iconst 525 (v := (1 : Int32)) rfl (by decide) ?_
                                refine V_iadd 526 rfl ?_
                                obtain ⟨hin, h⟩ := h
                                refine V_sld 527 rfl hin ?_
                                refine V_pc 915 rfl ?_
                                refine V_aload_n 528 0 rfl rfl rfl ?_
                                refine V_iload 529 4 rfl rfl ?_
                                refine V_iconst 530 (v := (2 : Int32)) rfl (by decide) ?_
                                refine V_iadd 531 rfl ?_
                                obtain ⟨hin, h⟩ := h
                                refine V_sld 532 rfl hin ?_
                                refine V_aload_n 533 3 rfl rfl rfl ?_
                                refine V_pc 922 rfl ?_
                                refine V_callSX 534 4 (as := [.ref 0, .int (xs (x4 + (1 : Int32)).toNatClampNeg), .int (xs (x4 + (2 : Int32)).toNatClampNeg), .ref 163]) (rest := []) rfl mlL_142 yvL_visit rfl rfl (by decide) (by decide) (Nat.le_of_ble_eq_true rfl) (by omega) (by omega) (fun B9 => ceL_visit hl B9 hW h) (fun X9 τ9 h9 => absurd h9.2 id) ?_
                                rintro v9 σ77 ⟨hW, u78, rfl, h⟩
                                refine V_istore 535 (lv' := [(5, .int u78), (0, .ref 1000000), (1, .ref 0), (2, .ref 92), (3, .ref 163), (4, .int x4)]) rfl (by decide) rfl ?_
                                refine V_aload_n 536 3 rfl rfl rfl ?_
                                refine V_aload_n 537 1 rfl rfl rfl ?_
                                refine V_iload 538 5 rfl rfl ?_
                                refine V_iconst 539 (v := (1 : Int32)) rfl (by decide) ?_
                                refine V_pc 932 rfl ?_
                                refine V_iadd 540 rfl ?_
                                obtain ⟨hin, h⟩ := h
                                refine V_sld 541 rfl hin ?_
                                refine V_aload_n 542 1 rfl rfl rfl ?_
                                refine V_iload 543 5 rfl rfl ?_
                                refine V_iconst 544 (v := (2 : Int32)) rfl (by decide) ?_
                                refine V_iadd 545 rfl ?_
                                refine V_pc 939 rfl ?_
                                obtain ⟨hin, h⟩ := h
                                refine V_sld 546 rfl hin ?_
                                refine V_callV 547 2 (as := [.int (xs (x4 + (1 : Int32)).toNatClampNeg), .int (xs (x4 + (2 : Int32)).toNatClampNeg)]) (rest := []) rfl mlL_144 yvX12_visit rfl rfl clX12 (wsh hW rfl) (by decide) (by decide) (Nat.le_of_ble_eq_true rfl) (by omega) (by omega) (fun B9 => ceX12_visit hl B9 hW h) (fun X9 τ9 h9 => absurd h9.2 id) ?_
                                rintro v9 σ79 ⟨hW, u80, rfl, h⟩
                                refine V_istore 548 (lv' := [(6, .int u80), (5, .int u78), (0, .ref 1000000), (1, .ref 0), (2, .ref 92), (3, .ref 163), (4, .int x4)]) rfl (by decide) rfl ?_
                                refine V_aload_n 549 4 rfl rfl rfl ?_
                                refine V_callV 550 0 (as := []) (rest := []) rfl mlL_98 yvX12_thrown rfl rfl clX12 (wsh hW rfl) (by decide) (by decide) (Nat.le_of_ble_eq_true rfl) (by omega) (by omega) (fun B9 => ceX12_thrown hl B9 hW h) (fun X9 τ9 h9 => absurd h9.2 id) ?_
                                rintro v9 σ81 ⟨hW, u82, rfl, h⟩
                                refine V_iload 551 1 rfl rfl ?_
                                refine V_icmp_eq 552 (tgt := 956) rfl (by decide) (fun hc => ?_) (fun hc => ?_)
                                · replace h := h.1 hc
                                  refine V_iload 555 1 rfl rfl ?_
                                  refine V_if_ne 556 (tgt := 973) rfl (by decide) (fun hc => ?_) (fun hc => ?_)
                                  · replace h := h.1 hc
                                    refine V_sub [2, 3, 4, 5, 6] (lv' := [(0, .ref 1000000), (1, .ref 0), (2, .ref 92), (3, .ref 163), (4, .int x4)]) rfl ?_
                                    refine V_less (kc' := (10 * N)) (ks' := (60 * N)) (by omega) (by omega) ?_
                                    exact k_j973 x4 σ81 hW h
                                  · replace h := h.2 hc
                                    refine V_pc 961 rfl ?_
                                    refine V_aload_n 557 5 rfl rfl rfl ?_
                                    refine V_iconst 558 (v := (0 : Int32)) rfl (by decide) ?_
                                    obtain ⟨hin, h⟩ := h
                                    refine V_lald 559 rfl (wsh hW rfl) hin ?_
                                    refine V_iload 560 0 rfl rfl ?_
                                    refine V_i2l 561 rfl ?_
                                    refine V_lcmp 562 rfl ?_
                                    refine V_pc 968 rfl ?_
                                    refine V_if_eq 563 (tgt := 973) rfl (by decide) (fun hc => ?_) (fun hc => ?_)
                                    · replace h := h.1 hc
                                      refine V_sub [2, 3, 4, 5, 6] (lv' := [(0, .ref 1000000), (1, .ref 0), (2, .ref 92), (3, .ref 163), (4, .int x4)]) rfl ?_
                                      refine V_less (kc' := (10 * N)) (ks' := (60 * N)) (by omega) (by omega) ?_
                                      exact k_j973 x4 σ81 hW h
                                    · replace h := h.2 hc
                                      refine V_pc 971 rfl ?_
                                      refine V_iconst 564 (v := (0 : Int32)) rfl (by decide) ?_
                                      exact absurd h id
                                · replace h := h.2 hc
                                  refine V_pc 954 rfl ?_
                                  refine V_iconst 553 (v := (0 : Int32)) rfl (by decide) ?_
                                  exact absurd h id
                              · replace h := h.2 hs13
                                by_cases hs14 : ((xs x4.toNatClampNeg) &&& (31 : Int32)) = 14
                                · replace h := h.1 hs14
                                  refine V_tab 24 (v := 14) (off := 937) (tgt := 976) rfl (by rw [hs14]; rfl) (by decide) rfl (by decide) ?_
                                  refine V_aload_n 567 1 rfl rfl rfl ?_
                                  refine V_aload_n 568 0 rfl rfl rfl ?_
                                  refine V_iload 569 4 rfl rfl ?_
                                  refine V_iconst 570 (v := (1 : Int32)) rfl (by decide) ?_
                                  refine V_iadd 571 rfl ?_
                                  obtain ⟨hin, h⟩ := h
                                  refine V_sld 572 rfl hin ?_
                                  refine V_pc 983 rfl ?_
                                  refine V_aload_n 573 0 rfl rfl rfl ?_
                                  refine V_iload 574 4 rfl rfl ?_
                                  refine V_iconst 575 (v := (2 : Int32)) rfl (by decide) ?_
                                  refine V_iadd 576 rfl ?_
                                  obtain ⟨hin, h⟩ := h
                                  refine V_sld 577 rfl hin ?_
                                  refine V_aload_n 578 3 rfl rfl rfl ?_
                                  refine V_pc 990 rfl ?_
                                  refine V_callSX 579 4 (as := [.ref 0, .int (xs (x4 + (1 : Int32)).toNatClampNeg), .int (xs (x4 + (2 : Int32)).toNatClampNeg), .ref 163]) (rest := []) rfl mlL_145 yvL_code rfl rfl (by decide) (by decide) (Nat.le_of_ble_eq_true rfl) (by omega) (by omega) (fun B9 => ceL_code hl B9 hW h) (fun X9 τ9 h9 => absurd h9.2 id) ?_
                                  rintro v9 σ83 ⟨hW, u84, rfl, h⟩
                                  refine V_istore 580 (lv' := [(5, .int u84), (0, .ref 1000000), (1, .ref 0), (2, .ref 92), (3, .ref 163), (4, .int x4)]) rfl (by decide) rfl ?_
                                  refine V_aload_n 581 3 rfl rfl rfl ?_
                                  refine V_aload_n 582 1 rfl rfl rfl ?_
                                  refine V_iload 583 5 rfl rfl ?_
                                  refine V_iconst 584 (v := (1 : Int32)) rfl (by decide) ?_
                                  refine V_pc 1000 rfl ?_
                                  refine V_iadd 585 rfl ?_
                                  obtain ⟨hin, h⟩ := h
                                  refine V_sld 586 rfl hin ?_
                                  refine V_aload_n 587 1 rfl rfl rfl ?_
                                  refine V_iload 588 5 rfl rfl ?_
                                  refine V_iconst 589 (v := (2 : Int32)) rfl (by decide) ?_
                                  refine V_iadd 590 rfl ?_
                                  refine V_pc 1007 rfl ?_
                                  obtain ⟨hin, h⟩ := h
                                  refine V_sld 591 rfl hin ?_
                                  refine V_callV 592 2 (as := [.int (xs (x4 + (1 : Int32)).toNatClampNeg), .int (xs (x4 + (2 : Int32)).toNatClampNeg)]) (rest := []) rfl mlL_147 yvX12_code rfl rfl clX12 (wsh hW rfl) (by decide) (by decide) (Nat.le_of_ble_eq_true rfl) (by omega) (by omega) (fun B9 => ceX12_code hl B9 hW h) (fun X9 τ9 h9 => absurd h9.2 id) ?_
                                  rintro v9 σ85 ⟨hW, u86, rfl, h⟩
                                  refine V_istore 593 (lv' := [(6, .int u86), (5, .int u84), (0, .ref 1000000), (1, .ref 0), (2, .ref 92), (3, .ref 163), (4, .int x4)]) rfl (by decide) rfl ?_
                                  refine V_aload_n 594 4 rfl rfl rfl ?_
                                  refine V_callV 595 0 (as := []) (rest := []) rfl mlL_98 yvX12_thrown rfl rfl clX12 (wsh hW rfl) (by decide) (by decide) (Nat.le_of_ble_eq_true rfl) (by omega) (by omega) (fun B9 => ceX12_thrown hl B9 hW h) (fun X9 τ9 h9 => absurd h9.2 id) ?_
                                  rintro v9 σ87 ⟨hW, u88, rfl, h⟩
                                  refine V_iload 596 1 rfl rfl ?_
                                  refine V_icmp_eq 597 (tgt := 1024) rfl (by decide) (fun hc => ?_) (fun hc => ?_)
                                  · replace h := h.1 hc
                                    refine V_iload 600 1 rfl rfl ?_
                                    refine V_if_ne 601 (tgt := 1041) rfl (by decide) (fun hc => ?_) (fun hc => ?_)
                                    · replace h := h.1 hc
                                      refine V_sub [2, 3, 4, 5, 6] (lv' := [(0, .ref 1000000), (1, .ref 0), (2, .ref 92), (3, .ref 163), (4, .int x4)]) rfl ?_
                                      refine V_less (kc' := (10 * N)) (ks' := (60 * N)) (by omega) (by omega) ?_
                                      exact k_j1041 x4 σ87 hW h
                                    · replace h := h.2 hc
                                      refine V_pc 1029 rfl ?_
                                      refine V_aload_n 602 5 rfl rfl rfl ?_
                                      refine V_iconst 603 (v := (0 : Int32)) rfl (by decide) ?_
                                      obtain ⟨hin, h⟩ := h
                                      refine V_lald 604 rfl (wsh hW rfl) hin ?_
                                      refine V_iload 605 0 rfl rfl ?_
                                      refine V_i2l 606 rfl ?_
                                      refine V_lcmp 607 rfl ?_
                                      refine V_pc 1036 rfl ?_
                                      refine V_if_eq 608 (tgt := 1041) rfl (by decide) (fun hc => ?_) (fun hc => ?_)
                                      · replace h := h.1 hc
                                        refine V_sub [2, 3, 4, 5, 6] (lv' := [(0, .ref 1000000), (1, .ref 0), (2, .ref 92), (3, .ref 163), (4, .int x4)]) rfl ?_
                                        refine V_less (kc' := (10 * N)) (ks' := (60 * N)) (by omega) (by omega) ?_
                                        exact k_j1041 x4 σ87 hW h
                                      · replace h := h.2 hc
                                        refine V_pc 1039 rfl ?_
                                        refine V_iconst 609 (v := (0 : Int32)) rfl (by decide) ?_
                                        exact absurd h id
                                  · replace h := h.2 hc
                                    refine V_pc 1022 rfl ?_
                                    refine V_iconst 598 (v := (0 : Int32)) rfl (by decide) ?_
                                    exact absurd h id
                                · replace h := h.2 hs14
                                  by_cases hs15 : ((xs x4.toNatClampNeg) &&& (31 : Int32)) = 15
                                  · replace h := h.1 hs15
                                    refine V_tab 24 (v := 15) (off := 1005) (tgt := 1044) rfl (by rw [hs15]; rfl) (by decide) rfl (by decide) ?_
                                    refine V_aload_n 612 1 rfl rfl rfl ?_
                                    refine V_aload_n 613 0 rfl rfl rfl ?_
                                    refine V_iload 614 4 rfl rfl ?_
                                    refine V_iconst 615 (v := (1 : Int32)) rfl (by decide) ?_
                                    refine V_iadd 616 rfl ?_
                                    obtain ⟨hin, h⟩ := h
                                    refine V_sld 617 rfl hin ?_
                                    refine V_pc 1051 rfl ?_
                                    refine V_aload_n 618 0 rfl rfl rfl ?_
                                    refine V_iload 619 4 rfl rfl ?_
                                    refine V_iconst 620 (v := (2 : Int32)) rfl (by decide) ?_
                                    refine V_iadd 621 rfl ?_
                                    obtain ⟨hin, h⟩ := h
                                    refine V_sld 622 rfl hin ?_
                                    refine V_aload_n 623 3 rfl rfl rfl ?_
                                    refine V_pc 1058 rfl ?_
                                    refine V_callSX 624 4 (as := [.ref 0, .int (xs (x4 + (1 : Int32)).toNatClampNeg), .int (xs (x4 + (2 : Int32)).toNatClampNeg), .ref 163]) (rest := []) rfl mlL_148 yvL_start rfl rfl (by decide) (by decide) (Nat.le_of_ble_eq_true rfl) (by omega) (by omega) (fun B9 => ceL_start hl B9 hW h) (fun X9 τ9 h9 => absurd h9.2 id) ?_
                                    rintro v9 σ89 ⟨hW, u90, rfl, h⟩
                                    refine V_istore 625 (lv' := [(5, .int u90), (0, .ref 1000000), (1, .ref 0), (2, .ref 92), (3, .ref 163), (4, .int x4)]) rfl (by decide) rfl ?_
                                    refine V_aload_n 626 3 rfl rfl rfl ?_
                                    refine V_aload_n 627 1 rfl rfl rfl ?_
                                    refine V_iload 628 5 rfl rfl ?_
                                    refine V_iconst 629 (v := (1 : Int32)) rfl (by decide) ?_
                                    refine V_pc 1068 rfl ?_
                                    refine V_iadd 630 rfl ?_
                                    obtain ⟨hin, h⟩ := h
                                    refine V_sld 631 rfl hin ?_
                                    refine V_aload_n 632 1 rfl rfl rfl ?_
                                    refine V_iload 633 5 rfl rfl ?_
                                    refine V_iconst 634 (v := (2 : Int32)) rfl (by decide) ?_
                                    refine V_iadd 635 rfl ?_
                                    refine V_pc 1075 rfl ?_
                                    obtain ⟨hin, h⟩ := h
                                    refine V_sld 636 rfl hin ?_
                                    refine V_callV 637 2 (as := [.int (xs (x4 + (1 : Int32)).toNatClampNeg), .int (xs (x4 + (2 : Int32)).toNatClampNeg)]) (rest := []) rfl mlL_150 yvX12_start rfl rfl clX12 (wsh hW rfl) (by decide) (by decide) (Nat.le_of_ble_eq_true rfl) (by omega) (by omega) (fun B9 => ceX12_start hl B9 hW h) (fun X9 τ9 h9 => absurd h9.2 id) ?_
                                    rintro v9 σ91 ⟨hW, u92, rfl, h⟩
                                    refine V_istore 638 (lv' := [(6, .int u92), (5, .int u90), (0, .ref 1000000), (1, .ref 0), (2, .ref 92), (3, .ref 163), (4, .int x4)]) rfl (by decide) rfl ?_
                                    refine V_aload_n 639 4 rfl rfl rfl ?_
                                    refine V_callV 640 0 (as := []) (rest := []) rfl mlL_98 yvX12_thrown rfl rfl clX12 (wsh hW rfl) (by decide) (by decide) (Nat.le_of_ble_eq_true rfl) (by omega) (by omega) (fun B9 => ceX12_thrown hl B9 hW h) (fun X9 τ9 h9 => absurd h9.2 id) ?_
                                    rintro v9 σ93 ⟨hW, u94, rfl, h⟩
                                    refine V_iload 641 1 rfl rfl ?_
                                    refine V_icmp_eq 642 (tgt := 1092) rfl (by decide) (fun hc => ?_) (fun hc => ?_)
                                    · replace h := h.1 hc
                                      refine V_iload 645 1 rfl rfl ?_
                                      refine V_if_ne 646 (tgt := 1109) rfl (by decide) (fun hc => ?_) (fun hc => ?_)
                                      · replace h := h.1 hc
                                        refine V_sub [2, 3, 4, 5, 6] (lv' := [(0, .ref 1000000), (1, .ref 0), (2, .ref 92), (3, .ref 163), (4, .int x4)]) rfl ?_
                                        refine V_less (kc' := (10 * N)) (ks' := (60 * N)) (by omega) (by omega) ?_
                                        exact k_j1109 x4 σ93 hW h
                                      · replace h := h.2 hc
                                        refine V_pc 1097 rfl ?_
                                        refine V_aload_n 647 5 rfl rfl rfl ?_
                                        refine V_iconst 648 (v := (0 : Int32)) rfl (by decide) ?_
                                        obtain ⟨hin, h⟩ := h
                                        refine V_lald 649 rfl (wsh hW rfl) hin ?_
                                        refine V_iload 650 0 rfl rfl ?_
                                        refine V_i2l 651 rfl ?_
                                        refine V_lcmp 652 rfl ?_
                                        refine V_pc 1104 rfl ?_
                                        refine V_if_eq 653 (tgt := 1109) rfl (by decide) (fun hc => ?_) (fun hc => ?_)
                                        · replace h := h.1 hc
                                          refine V_sub [2, 3, 4, 5, 6] (lv' := [(0, .ref 1000000), (1, .ref 0), (2, .ref 92), (3, .ref 163), (4, .int x4)]) rfl ?_
                                          refine V_less (kc' := (10 * N)) (ks' := (60 * N)) (by omega) (by omega) ?_
                                          exact k_j1109 x4 σ93 hW h
                                        · replace h := h.2 hc
                                          refine V_pc 1107 rfl ?_
                                          refine V_iconst 654 (v := (0 : Int32)) rfl (by decide) ?_
                                          exact absurd h id
                                    · replace h := h.2 hc
                                      refine V_pc 1090 rfl ?_
                                      refine V_iconst 643 (v := (0 : Int32)) rfl (by decide) ?_
                                      exact absurd h id
                                  · replace h := h.2 hs15
                                    by_cases hs16 : ((xs x4.toNatClampNeg) &&& (31 : Int32)) = 16
                                    · replace h := h.1 hs16
                                      refine V_tab 24 (v := 16) (off := 1073) (tgt := 1112) rfl (by rw [hs16]; rfl) (by decide) rfl (by decide) ?_
                                      refine V_aload_n 657 1 rfl rfl rfl ?_
                                      refine V_aload_n 658 3 rfl rfl rfl ?_
                                      refine V_callSX 659 2 (as := [.ref 0, .ref 163]) (rest := []) rfl mlL_151 yvL_begin rfl rfl (by decide) (by decide) (Nat.le_of_ble_eq_true rfl) (by omega) (by omega) (fun B9 => ceL_begin hl B9 hW h) (fun X9 τ9 h9 => absurd h9.2 id) ?_
                                      rintro v9 σ95 ⟨hW, u96, rfl, h⟩
                                      refine V_istore 660 (lv' := [(5, .int u96), (0, .ref 1000000), (1, .ref 0), (2, .ref 92), (3, .ref 163), (4, .int x4)]) rfl (by decide) rfl ?_
                                      refine V_aload_n 661 3 rfl rfl rfl ?_
                                      refine V_callV 662 0 (as := []) (rest := []) rfl mlL_153 yvX12_begin rfl rfl clX12 (wsh hW rfl) (by decide) (by decide) (Nat.le_of_ble_eq_true rfl) (by omega) (by omega) (fun B9 => ceX12_begin hl B9 hW h) (fun X9 τ9 h9 => absurd h9.2 id) ?_
                                      rintro v9 σ97 ⟨hW, u98, rfl, h⟩
                                      refine V_istore 663 (lv' := [(6, .int u98), (5, .int u96), (0, .ref 1000000), (1, .ref 0), (2, .ref 92), (3, .ref 163), (4, .int x4)]) rfl (by decide) rfl ?_
                                      refine V_aload_n 664 4 rfl rfl rfl ?_
                                      refine V_callV 665 0 (as := []) (rest := []) rfl mlL_98 yvX12_thrown rfl rfl clX12 (wsh hW rfl) (by decide) (by decide) (Nat.le_of_ble_eq_true rfl) (by omega) (by omega) (fun B9 => ceX12_thrown hl B9 hW h) (fun X9 τ9 h9 => absurd h9.2 id) ?_
                                      rintro v9 σ99 ⟨hW, u100, rfl, h⟩
                                      refine V_iload 666 1 rfl rfl ?_
                                      refine V_icmp_eq 667 (tgt := 1136) rfl (by decide) (fun hc => ?_) (fun hc => ?_)
                                      · replace h := h.1 hc
                                        refine V_iload 670 1 rfl rfl ?_
                                        refine V_if_ne 671 (tgt := 1153) rfl (by decide) (fun hc => ?_) (fun hc => ?_)
                                        · replace h := h.1 hc
                                          refine V_sub [2, 3, 4, 5, 6] (lv' := [(0, .ref 1000000), (1, .ref 0), (2, .ref 92), (3, .ref 163), (4, .int x4)]) rfl ?_
                                          refine V_less (kc' := (10 * N)) (ks' := (60 * N)) (by omega) (by omega) ?_
                                          exact k_j1153 x4 σ99 hW h
                                        · replace h := h.2 hc
                                          refine V_pc 1141 rfl ?_
                                          refine V_aload_n 672 5 rfl rfl rfl ?_
                                          refine V_iconst 673 (v := (0 : Int32)) rfl (by decide) ?_
                                          obtain ⟨hin, h⟩ := h
                                          refine V_lald 674 rfl (wsh hW rfl) hin ?_
                                          refine V_iload 675 0 rfl rfl ?_
                                          refine V_i2l 676 rfl ?_
                                          refine V_lcmp 677 rfl ?_
                                          refine V_pc 1148 rfl ?_
                                          refine V_if_eq 678 (tgt := 1153) rfl (by decide) (fun hc => ?_) (fun hc => ?_)
                                          · replace h := h.1 hc
                                            refine V_sub [2, 3, 4, 5, 6] (lv' := [(0, .ref 1000000), (1, .ref 0), (2, .ref 92), (3, .ref 163), (4, .int x4)]) rfl ?_
                                            refine V_less (kc' := (10 * N)) (ks' := (60 * N)) (by omega) (by omega) ?_
                                            exact k_j1153 x4 σ99 hW h
                                          · replace h := h.2 hc
                                            refine V_pc 1151 rfl ?_
                                            refine V_iconst 679 (v := (0 : Int32)) rfl (by decide) ?_
                                            exact absurd h id
                                      · replace h := h.2 hc
                                        refine V_pc 1134 rfl ?_
                                        refine V_iconst 668 (v := (0 : Int32)) rfl (by decide) ?_
                                        exact absurd h id
                                    · replace h := h.2 hs16
                                      by_cases hs17 : ((xs x4.toNatClampNeg) &&& (31 : Int32)) = 17
                                      · replace h := h.1 hs17
                                        refine V_tab 24 (v := 17) (off := 1117) (tgt := 1156) rfl (by rw [hs17]; rfl) (by decide) rfl (by decide) ?_
                                        refine V_aload_n 682 1 rfl rfl rfl ?_
                                        refine V_aload_n 683 0 rfl rfl rfl ?_
                                        refine V_iload 684 4 rfl rfl ?_
                                        refine V_iconst 685 (v := (1 : Int32)) rfl (by decide) ?_
                                        refine V_iadd 686 rfl ?_
                                        obtain ⟨hin, h⟩ := h
                                        refine V_sld 687 rfl hin ?_
                                        refine V_pc 1163 rfl ?_
                                        refine V_aload_n 688 3 rfl rfl rfl ?_
                                        refine V_callSX 689 3 (as := [.ref 0, .int (xs (x4 + (1 : Int32)).toNatClampNeg), .ref 163]) (rest := []) rfl mlL_154 yvL_step rfl rfl (by decide) (by decide) (Nat.le_of_ble_eq_true rfl) (by omega) (by omega) (fun B9 => ceL_step hl B9 hW h) (fun X9 τ9 h9 => absurd h9.2 id) ?_
                                        rintro v9 σ101 ⟨hW, u102, rfl, h⟩
                                        refine V_istore 690 (lv' := [(5, .int u102), (0, .ref 1000000), (1, .ref 0), (2, .ref 92), (3, .ref 163), (4, .int x4)]) rfl (by decide) rfl ?_
                                        refine V_aload_n 691 3 rfl rfl rfl ?_
                                        refine V_aload_n 692 1 rfl rfl rfl ?_
                                        refine V_iload 693 5 rfl rfl ?_
                                        refine V_iconst 694 (v := (1 : Int32)) rfl (by decide) ?_
                                        refine V_pc 1174 rfl ?_
                                        refine V_iadd 695 rfl ?_
                                        obtain ⟨hin, h⟩ := h
                                        refine V_sld 696 rfl hin ?_
                                        refine V_callV 697 1 (as := [.int (xs (x4 + (1 : Int32)).toNatClampNeg)]) (rest := []) rfl mlL_156 yvX12_step rfl rfl clX12 (wsh hW rfl) (by decide) (by decide) (Nat.le_of_ble_eq_true rfl) (by omega) (by omega) (fun B9 => ceX12_step hl B9 hW h) (fun X9 τ9 h9 => absurd h9.2 id) ?_
                                        rintro v9 σ103 ⟨hW, u104, rfl, h⟩
                                        refine V_istore 698 (lv' := [(6, .int u104), (5, .int u102), (0, .ref 1000000), (1, .ref 0), (2, .ref 92), (3, .ref 163), (4, .int x4)]) rfl (by decide) rfl ?_
                                        refine V_aload_n 699 4 rfl rfl rfl ?_
                                        refine V_callV 700 0 (as := []) (rest := []) rfl mlL_98 yvX12_thrown rfl rfl clX12 (wsh hW rfl) (by decide) (by decide) (Nat.le_of_ble_eq_true rfl) (by omega) (by omega) (fun B9 => ceX12_thrown hl B9 hW h) (fun X9 τ9 h9 => absurd h9.2 id) ?_
                                        rintro v9 σ105 ⟨hW, u106, rfl, h⟩
                                        refine V_iload 701 1 rfl rfl ?_
                                        refine V_icmp_eq 702 (tgt := 1192) rfl (by decide) (fun hc => ?_) (fun hc => ?_)
                                        · replace h := h.1 hc
                                          refine V_iload 705 1 rfl rfl ?_
                                          refine V_if_ne 706 (tgt := 1209) rfl (by decide) (fun hc => ?_) (fun hc => ?_)
                                          · replace h := h.1 hc
                                            refine V_sub [2, 3, 4, 5, 6] (lv' := [(0, .ref 1000000), (1, .ref 0), (2, .ref 92), (3, .ref 163), (4, .int x4)]) rfl ?_
                                            refine V_less (kc' := (10 * N)) (ks' := (60 * N)) (by omega) (by omega) ?_
                                            exact k_j1209 x4 σ105 hW h
                                          · replace h := h.2 hc
                                            refine V_pc 1197 rfl ?_
                                            refine V_aload_n 707 5 rfl rfl rfl ?_
                                            refine V_iconst 708 (v := (0 : Int32)) rfl (by decide) ?_
                                            obtain ⟨hin, h⟩ := h
                                            refine V_lald 709 rfl (wsh hW rfl) hin ?_
                                            refine V_iload 710 0 rfl rfl ?_
                                            refine V_i2l 711 rfl ?_
                                            refine V_lcmp 712 rfl ?_
                                            refine V_pc 1204 rfl ?_
                                            refine V_if_eq 713 (tgt := 1209) rfl (by decide) (fun hc => ?_) (fun hc => ?_)
                                            · replace h := h.1 hc
                                              refine V_sub [2, 3, 4, 5, 6] (lv' := [(0, .ref 1000000), (1, .ref 0), (2, .ref 92), (3, .ref 163), (4, .int x4)]) rfl ?_
                                              refine V_less (kc' := (10 * N)) (ks' := (60 * N)) (by omega) (by omega) ?_
                                              exact k_j1209 x4 σ105 hW h
                                            · replace h := h.2 hc
                                              refine V_pc 1207 rfl ?_
                                              refine V_iconst 714 (v := (0 : Int32)) rfl (by decide) ?_
                                              exact absurd h id
                                        · replace h := h.2 hc
                                          refine V_pc 1190 rfl ?_
                                          refine V_iconst 703 (v := (0 : Int32)) rfl (by decide) ?_
                                          exact absurd h id
                                      · replace h := h.2 hs17
                                        by_cases hs18 : ((xs x4.toNatClampNeg) &&& (31 : Int32)) = 18
                                        · replace h := h.1 hs18
                                          refine V_tab 24 (v := 18) (off := 1173) (tgt := 1212) rfl (by rw [hs18]; rfl) (by decide) rfl (by decide) ?_
                                          refine V_aload_n 717 1 rfl rfl rfl ?_
                                          refine V_aload_n 718 0 rfl rfl rfl ?_
                                          refine V_iload 719 4 rfl rfl ?_
                                          refine V_iconst 720 (v := (1 : Int32)) rfl (by decide) ?_
                                          refine V_iadd 721 rfl ?_
                                          obtain ⟨hin, h⟩ := h
                                          refine V_sld 722 rfl hin ?_
                                          refine V_pc 1219 rfl ?_
                                          refine V_aload_n 723 3 rfl rfl rfl ?_
                                          refine V_callSX 724 3 (as := [.ref 0, .int (xs (x4 + (1 : Int32)).toNatClampNeg), .ref 163]) (rest := []) rfl mlL_157 yvL_machine rfl rfl (by decide) (by decide) (Nat.le_of_ble_eq_true rfl) (by omega) (by omega) (fun B9 => ceL_machine hl B9 hW h) (fun X9 τ9 h9 => absurd h9.2 id) ?_
                                          rintro v9 σ107 ⟨hW, u108, rfl, h⟩
                                          refine V_istore 725 (lv' := [(5, .int u108), (0, .ref 1000000), (1, .ref 0), (2, .ref 92), (3, .ref 163), (4, .int x4)]) rfl (by decide) rfl ?_
                                          refine V_aload_n 726 3 rfl rfl rfl ?_
                                          refine V_aload_n 727 1 rfl rfl rfl ?_
                                          refine V_iload 728 5 rfl rfl ?_
                                          refine V_iconst 729 (v := (1 : Int32)) rfl (by decide) ?_
                                          refine V_pc 1230 rfl ?_
                                          refine V_iadd 730 rfl ?_
                                          obtain ⟨hin, h⟩ := h
                                          refine V_sld 731 rfl hin ?_
                                          refine V_callV 732 1 (as := [.int (xs (x4 + (1 : Int32)).toNatClampNeg)]) (rest := []) rfl mlL_159 yvX12_machine rfl rfl clX12 (wsh hW rfl) (by decide) (by decide) (Nat.le_of_ble_eq_true rfl) (by omega) (by omega) (fun B9 => ceX12_machine hl B9 hW h) (fun X9 τ9 h9 => absurd h9.2 id) ?_
                                          rintro v9 σ109 ⟨hW, u110, rfl, h⟩
                                          refine V_istore 733 (lv' := [(6, .int u110), (5, .int u108), (0, .ref 1000000), (1, .ref 0), (2, .ref 92), (3, .ref 163), (4, .int x4)]) rfl (by decide) rfl ?_
                                          refine V_aload_n 734 4 rfl rfl rfl ?_
                                          refine V_callV 735 0 (as := []) (rest := []) rfl mlL_98 yvX12_thrown rfl rfl clX12 (wsh hW rfl) (by decide) (by decide) (Nat.le_of_ble_eq_true rfl) (by omega) (by omega) (fun B9 => ceX12_thrown hl B9 hW h) (fun X9 τ9 h9 => absurd h9.2 id) ?_
                                          rintro v9 σ111 ⟨hW, u112, rfl, h⟩
                                          refine V_iload 736 1 rfl rfl ?_
                                          refine V_icmp_eq 737 (tgt := 1248) rfl (by decide) (fun hc => ?_) (fun hc => ?_)
                                          · replace h := h.1 hc
                                            refine V_iload 740 1 rfl rfl ?_
                                            refine V_if_ne 741 (tgt := 1265) rfl (by decide) (fun hc => ?_) (fun hc => ?_)
                                            · replace h := h.1 hc
                                              refine V_sub [2, 3, 4, 5, 6] (lv' := [(0, .ref 1000000), (1, .ref 0), (2, .ref 92), (3, .ref 163), (4, .int x4)]) rfl ?_
                                              refine V_less (kc' := (10 * N)) (ks' := (60 * N)) (by omega) (by omega) ?_
                                              exact k_j1265 x4 σ111 hW h
                                            · replace h := h.2 hc
                                              refine V_pc 1253 rfl ?_
                                              refine V_aload_n 742 5 rfl rfl rfl ?_
                                              refine V_iconst 743 (v := (0 : Int32)) rfl (by decide) ?_
                                              obtain ⟨hin, h⟩ := h
                                              refine V_lald 744 rfl (wsh hW rfl) hin ?_
                                              refine V_iload 745 0 rfl rfl ?_
                                              refine V_i2l 746 rfl ?_
                                              refine V_lcmp 747 rfl ?_
                                              refine V_pc 1260 rfl ?_
                                              refine V_if_eq 748 (tgt := 1265) rfl (by decide) (fun hc => ?_) (fun hc => ?_)
                                              · replace h := h.1 hc
                                                refine V_sub [2, 3, 4, 5, 6] (lv' := [(0, .ref 1000000), (1, .ref 0), (2, .ref 92), (3, .ref 163), (4, .int x4)]) rfl ?_
                                                refine V_less (kc' := (10 * N)) (ks' := (60 * N)) (by omega) (by omega) ?_
                                                exact k_j1265 x4 σ111 hW h
                                              · replace h := h.2 hc
                                                refine V_pc 1263 rfl ?_
                                                refine V_iconst 749 (v := (0 : Int32)) rfl (by decide) ?_
                                                exact absurd h id
                                          · replace h := h.2 hc
                                            refine V_pc 1246 rfl ?_
                                            refine V_iconst 738 (v := (0 : Int32)) rfl (by decide) ?_
                                            exact absurd h id
                                        · replace h := h.2 hs18
                                          by_cases hs19 : ((xs x4.toNatClampNeg) &&& (31 : Int32)) = 19
                                          · replace h := h.1 hs19
                                            refine V_tab 24 (v := 19) (off := 1229) (tgt := 1268) rfl (by rw [hs19]; rfl) (by decide) rfl (by decide) ?_
                                            refine V_aload_n 752 1 rfl rfl rfl ?_
                                            refine V_aload_n 753 0 rfl rfl rfl ?_
                                            refine V_iload 754 4 rfl rfl ?_
                                            refine V_iconst 755 (v := (1 : Int32)) rfl (by decide) ?_
                                            refine V_iadd 756 rfl ?_
                                            obtain ⟨hin, h⟩ := h
                                            refine V_sld 757 rfl hin ?_
                                            refine V_pc 1275 rfl ?_
                                            refine V_aload_n 758 3 rfl rfl rfl ?_
                                            refine V_callSX 759 3 (as := [.ref 0, .int (xs (x4 + (1 : Int32)).toNatClampNeg), .ref 163]) (rest := []) rfl mlL_160 yvL_alone rfl rfl (by decide) (by decide) (Nat.le_of_ble_eq_true rfl) (by omega) (by omega) (fun B9 => ceL_alone hl B9 hW h) (fun X9 τ9 h9 => absurd h9.2 id) ?_
                                            rintro v9 σ113 ⟨hW, u114, rfl, h⟩
                                            refine V_istore 760 (lv' := [(5, .int u114), (0, .ref 1000000), (1, .ref 0), (2, .ref 92), (3, .ref 163), (4, .int x4)]) rfl (by decide) rfl ?_
                                            refine V_aload_n 761 3 rfl rfl rfl ?_
                                            refine V_aload_n 762 1 rfl rfl rfl ?_
                                            refine V_iload 763 5 rfl rfl ?_
                                            refine V_iconst 764 (v := (1 : Int32)) rfl (by decide) ?_
                                            refine V_pc 1286 rfl ?_
                                            refine V_iadd 765 rfl ?_
                                            obtain ⟨hin, h⟩ := h
                                            refine V_sld 766 rfl hin ?_
                                            refine V_callV 767 1 (as := [.int (xs (x4 + (1 : Int32)).toNatClampNeg)]) (rest := []) rfl mlL_162 yvX12_alone rfl rfl clX12 (wsh hW rfl) (by decide) (by decide) (Nat.le_of_ble_eq_true rfl) (by omega) (by omega) (fun B9 => ceX12_alone hl B9 hW h) (fun X9 τ9 h9 => absurd h9.2 id) ?_
                                            rintro v9 σ115 ⟨hW, u116, rfl, h⟩
                                            refine V_istore 768 (lv' := [(6, .int u116), (5, .int u114), (0, .ref 1000000), (1, .ref 0), (2, .ref 92), (3, .ref 163), (4, .int x4)]) rfl (by decide) rfl ?_
                                            refine V_aload_n 769 4 rfl rfl rfl ?_
                                            refine V_callV 770 0 (as := []) (rest := []) rfl mlL_98 yvX12_thrown rfl rfl clX12 (wsh hW rfl) (by decide) (by decide) (Nat.le_of_ble_eq_true rfl) (by omega) (by omega) (fun B9 => ceX12_thrown hl B9 hW h) (fun X9 τ9 h9 => absurd h9.2 id) ?_
                                            rintro v9 σ117 ⟨hW, u118, rfl, h⟩
                                            refine V_iload 771 1 rfl rfl ?_
                                            refine V_icmp_eq 772 (tgt := 1304) rfl (by decide) (fun hc => ?_) (fun hc => ?_)
                                            · replace h := h.1 hc
                                              refine V_iload 775 1 rfl rfl ?_
                                              refine V_if_ne 776 (tgt := 1321) rfl (by decide) (fun hc => ?_) (fun hc => ?_)
                                              · replace h := h.1 hc
                                                refine V_sub [2, 3, 4, 5, 6] (lv' := [(0, .ref 1000000), (1, .ref 0), (2, .ref 92), (3, .ref 163), (4, .int x4)]) rfl ?_
                                                refine V_less (kc' := (10 * N)) (ks' := (60 * N)) (by omega) (by omega) ?_
                                                exact k_j1321 x4 σ117 hW h
                                              · replace h := h.2 hc
                                                refine V_pc 1309 rfl ?_
                                                refine V_aload_n 777 5 rfl rfl rfl ?_
                                                refine V_iconst 778 (v := (0 : Int32)) rfl (by decide) ?_
                                                obtain ⟨hin, h⟩ := h
                                                refine V_lald 779 rfl (wsh hW rfl) hin ?_
                                                refine V_iload 780 0 rfl rfl ?_
                                                refine V_i2l 781 rfl ?_
                                                refine V_lcmp 782 rfl ?_
                                                refine V_pc 1316 rfl ?_
                                                refine V_if_eq 783 (tgt := 1321) rfl (by decide) (fun hc => ?_) (fun hc => ?_)
                                                · replace h := h.1 hc
                                                  refine V_sub [2, 3, 4, 5, 6] (lv' := [(0, .ref 1000000), (1, .ref 0), (2, .ref 92), (3, .ref 163), (4, .int x4)]) rfl ?_
                                                  refine V_less (kc' := (10 * N)) (ks' := (60 * N)) (by omega) (by omega) ?_
                                                  exact k_j1321 x4 σ117 hW h
                                                · replace h := h.2 hc
                                                  refine V_pc 1319 rfl ?_
                                                  refine V_iconst 784 (v := (0 : Int32)) rfl (by decide) ?_
                                                  exact absurd h id
                                            · replace h := h.2 hc
                                              refine V_pc 1302 rfl ?_
                                              refine V_iconst 773 (v := (0 : Int32)) rfl (by decide) ?_
                                              exact absurd h id
                                          · replace h := h.2 hs19
                                            by_cases hs20 : ((xs x4.toNatClampNeg) &&& (31 : Int32)) = 20
                                            · replace h := h.1 hs20
                                              refine V_tab 24 (v := 20) (off := 1285) (tgt := 1324) rfl (by rw [hs20]; rfl) (by decide) rfl (by decide) ?_
                                              refine V_aload_n 787 1 rfl rfl rfl ?_
                                              refine V_aload_n 788 0 rfl rfl rfl ?_
                                              refine V_iload 789 4 rfl rfl ?_
                                              refine V_iconst 790 (v := (1 : Int32)) rfl (by decide) ?_
                                              refine V_iadd 791 rfl ?_
                                              obtain ⟨hin, h⟩ := h
                                              refine V_sld 792 rfl hin ?_
                                              refine V_pc 1331 rfl ?_
                                              refine V_aload_n 793 3 rfl rfl rfl ?_
                                              refine V_callSX 794 3 (as := [.ref 0, .int (xs (x4 + (1 : Int32)).toNatClampNeg), .ref 163]) (rest := []) rfl mlL_163 yvL_top rfl rfl (by decide) (by decide) (Nat.le_of_ble_eq_true rfl) (by omega) (by omega) (fun B9 => ceL_top hl B9 hW h) (fun X9 τ9 h9 => absurd h9.2 id) ?_
                                              rintro v9 σ119 ⟨hW, u120, rfl, h⟩
                                              refine V_istore 795 (lv' := [(5, .int u120), (0, .ref 1000000), (1, .ref 0), (2, .ref 92), (3, .ref 163), (4, .int x4)]) rfl (by decide) rfl ?_
                                              refine V_aload_n 796 3 rfl rfl rfl ?_
                                              refine V_aload_n 797 1 rfl rfl rfl ?_
                                              refine V_iload 798 5 rfl rfl ?_
                                              refine V_iconst 799 (v := (1 : Int32)) rfl (by decide) ?_
                                              refine V_pc 1342 rfl ?_
                                              refine V_iadd 800 rfl ?_
                                              obtain ⟨hin, h⟩ := h
                                              refine V_sld 801 rfl hin ?_
                                              refine V_callV 802 1 (as := [.int (xs (x4 + (1 : Int32)).toNatClampNeg)]) (rest := []) rfl mlL_165 yvX12_top rfl rfl clX12 (wsh hW rfl) (by decide) (by decide) (Nat.le_of_ble_eq_true rfl) (by omega) (by omega) (fun B9 => ceX12_top hl B9 hW h) (fun X9 τ9 h9 => absurd h9.2 id) ?_
                                              rintro v9 σ121 ⟨hW, u122, rfl, h⟩
                                              refine V_istore 803 (lv' := [(6, .int u122), (5, .int u120), (0, .ref 1000000), (1, .ref 0), (2, .ref 92), (3, .ref 163), (4, .int x4)]) rfl (by decide) rfl ?_
                                              refine V_aload_n 804 4 rfl rfl rfl ?_
                                              refine V_callV 805 0 (as := []) (rest := []) rfl mlL_98 yvX12_thrown rfl rfl clX12 (wsh hW rfl) (by decide) (by decide) (Nat.le_of_ble_eq_true rfl) (by omega) (by omega) (fun B9 => ceX12_thrown hl B9 hW h) (fun X9 τ9 h9 => absurd h9.2 id) ?_
                                              rintro v9 σ123 ⟨hW, u124, rfl, h⟩
                                              refine V_iload 806 1 rfl rfl ?_
                                              refine V_icmp_eq 807 (tgt := 1360) rfl (by decide) (fun hc => ?_) (fun hc => ?_)
                                              · replace h := h.1 hc
                                                refine V_iload 810 1 rfl rfl ?_
                                                refine V_if_ne 811 (tgt := 1377) rfl (by decide) (fun hc => ?_) (fun hc => ?_)
                                                · replace h := h.1 hc
                                                  refine V_sub [2, 3, 4, 5, 6] (lv' := [(0, .ref 1000000), (1, .ref 0), (2, .ref 92), (3, .ref 163), (4, .int x4)]) rfl ?_
                                                  refine V_less (kc' := (10 * N)) (ks' := (60 * N)) (by omega) (by omega) ?_
                                                  exact k_j1377 x4 σ123 hW h
                                                · replace h := h.2 hc
                                                  refine V_pc 1365 rfl ?_
                                                  refine V_aload_n 812 5 rfl rfl rfl ?_
                                                  refine V_iconst 813 (v := (0 : Int32)) rfl (by decide) ?_
                                                  obtain ⟨hin, h⟩ := h
                                                  refine V_lald 814 rfl (wsh hW rfl) hin ?_
                                                  refine V_iload 815 0 rfl rfl ?_
                                                  refine V_i2l 816 rfl ?_
                                                  refine V_lcmp 817 rfl ?_
                                                  refine V_pc 1372 rfl ?_
                                                  refine V_if_eq 818 (tgt := 1377) rfl (by decide) (fun hc => ?_) (fun hc => ?_)
                                                  · replace h := h.1 hc
                                                    refine V_sub [2, 3, 4, 5, 6] (lv' := [(0, .ref 1000000), (1, .ref 0), (2, .ref 92), (3, .ref 163), (4, .int x4)]) rfl ?_
                                                    refine V_less (kc' := (10 * N)) (ks' := (60 * N)) (by omega) (by omega) ?_
                                                    exact k_j1377 x4 σ123 hW h
                                                  · replace h := h.2 hc
                                                    refine V_pc 1375 rfl ?_
                                                    refine V_iconst 819 (v := (0 : Int32)) rfl (by decide) ?_
                                                    exact absurd h id
                                              · replace h := h.2 hc
                                                refine V_pc 1358 rfl ?_
                                                refine V_iconst 808 (v := (0 : Int32)) rfl (by decide) ?_
                                                exact absurd h id
                                            · replace h := h.2 hs20
                                              by_cases hs21 : ((xs x4.toNatClampNeg) &&& (31 : Int32)) = 21
                                              · replace h := h.1 hs21
                                                refine V_tab 24 (v := 21) (off := 1341) (tgt := 1380) rfl (by rw [hs21]; rfl) (by decide) rfl (by decide) ?_
                                                refine V_aload_n 822 1 rfl rfl rfl ?_
                                                refine V_aload_n 823 0 rfl rfl rfl ?_
                                                refine V_iload 824 4 rfl rfl ?_
                                                refine V_iconst 825 (v := (1 : Int32)) rfl (by decide) ?_
                                                refine V_iadd 826 rfl ?_
                                                obtain ⟨hin, h⟩ := h
                                                refine V_sld 827 rfl hin ?_
                                                refine V_pc 1387 rfl ?_
                                                refine V_aload_n 828 0 rfl rfl rfl ?_
                                                refine V_iload 829 4 rfl rfl ?_
                                                refine V_iconst 830 (v := (2 : Int32)) rfl (by decide) ?_
                                                refine V_iadd 831 rfl ?_
                                                obtain ⟨hin, h⟩ := h
                                                refine V_sld 832 rfl hin ?_
                                                refine V_aload_n 833 3 rfl rfl rfl ?_
                                                refine V_pc 1394 rfl ?_
                                                refine V_callSX 834 4 (as := [.ref 0, .int (xs (x4 + (1 : Int32)).toNatClampNeg), .int (xs (x4 + (2 : Int32)).toNatClampNeg), .ref 163]) (rest := []) rfl mlL_166 yvL_held rfl rfl (by decide) (by decide) (Nat.le_of_ble_eq_true rfl) (by omega) (by omega) (fun B9 => ceL_held hl B9 hW h) (fun X9 τ9 h9 => absurd h9.2 id) ?_
                                                rintro v9 σ125 ⟨hW, u126, rfl, h⟩
                                                refine V_istore 835 (lv' := [(5, .int u126), (0, .ref 1000000), (1, .ref 0), (2, .ref 92), (3, .ref 163), (4, .int x4)]) rfl (by decide) rfl ?_
                                                refine V_aload_n 836 3 rfl rfl rfl ?_
                                                refine V_aload_n 837 1 rfl rfl rfl ?_
                                                refine V_iload 838 5 rfl rfl ?_
                                                refine V_iconst 839 (v := (1 : Int32)) rfl (by decide) ?_
                                                refine V_pc 1404 rfl ?_
                                                refine V_iadd 840 rfl ?_
                                                obtain ⟨hin, h⟩ := h
                                                refine V_sld 841 rfl hin ?_
                                                refine V_aload_n 842 1 rfl rfl rfl ?_
                                                refine V_iload 843 5 rfl rfl ?_
                                                refine V_iconst 844 (v := (2 : Int32)) rfl (by decide) ?_
                                                refine V_iadd 845 rfl ?_
                                                refine V_pc 1411 rfl ?_
                                                obtain ⟨hin, h⟩ := h
                                                refine V_sld 846 rfl hin ?_
                                                refine V_callV 847 2 (as := [.int (xs (x4 + (1 : Int32)).toNatClampNeg), .int (xs (x4 + (2 : Int32)).toNatClampNeg)]) (rest := []) rfl mlL_168 yvX12_held rfl rfl clX12 (wsh hW rfl) (by decide) (by decide) (Nat.le_of_ble_eq_true rfl) (by omega) (by omega) (fun B9 => ceX12_held hl B9 hW h) (fun X9 τ9 h9 => absurd h9.2 id) ?_
                                                rintro v9 σ127 ⟨hW, u128, rfl, h⟩
                                                refine V_istore 848 (lv' := [(6, .int u128), (5, .int u126), (0, .ref 1000000), (1, .ref 0), (2, .ref 92), (3, .ref 163), (4, .int x4)]) rfl (by decide) rfl ?_
                                                refine V_aload_n 849 4 rfl rfl rfl ?_
                                                refine V_callV 850 0 (as := []) (rest := []) rfl mlL_98 yvX12_thrown rfl rfl clX12 (wsh hW rfl) (by decide) (by decide) (Nat.le_of_ble_eq_true rfl) (by omega) (by omega) (fun B9 => ceX12_thrown hl B9 hW h) (fun X9 τ9 h9 => absurd h9.2 id) ?_
                                                rintro v9 σ129 ⟨hW, u130, rfl, h⟩
                                                refine V_iload 851 1 rfl rfl ?_
                                                refine V_icmp_eq 852 (tgt := 1428) rfl (by decide) (fun hc => ?_) (fun hc => ?_)
                                                · replace h := h.1 hc
                                                  refine V_iload 855 1 rfl rfl ?_
                                                  refine V_if_ne 856 (tgt := 1445) rfl (by decide) (fun hc => ?_) (fun hc => ?_)
                                                  · replace h := h.1 hc
                                                    refine V_sub [2, 3, 4, 5, 6] (lv' := [(0, .ref 1000000), (1, .ref 0), (2, .ref 92), (3, .ref 163), (4, .int x4)]) rfl ?_
                                                    refine V_less (kc' := (10 * N)) (ks' := (60 * N)) (by omega) (by omega) ?_
                                                    exact k_j1445 x4 σ129 hW h
                                                  · replace h := h.2 hc
                                                    refine V_pc 1433 rfl ?_
                                                    refine V_aload_n 857 5 rfl rfl rfl ?_
                                                    refine V_iconst 858 (v := (0 : Int32)) rfl (by decide) ?_
                                                    obtain ⟨hin, h⟩ := h
                                                    refine V_lald 859 rfl (wsh hW rfl) hin ?_
                                                    refine V_iload 860 0 rfl rfl ?_
                                                    refine V_i2l 861 rfl ?_
                                                    refine V_lcmp 862 rfl ?_
                                                    refine V_pc 1440 rfl ?_
                                                    refine V_if_eq 863 (tgt := 1445) rfl (by decide) (fun hc => ?_) (fun hc => ?_)
                                                    · replace h := h.1 hc
                                                      refine V_sub [2, 3, 4, 5, 6] (lv' := [(0, .ref 1000000), (1, .ref 0), (2, .ref 92), (3, .ref 163), (4, .int x4)]) rfl ?_
                                                      refine V_less (kc' := (10 * N)) (ks' := (60 * N)) (by omega) (by omega) ?_
                                                      exact k_j1445 x4 σ129 hW h
                                                    · replace h := h.2 hc
                                                      refine V_pc 1443 rfl ?_
                                                      refine V_iconst 864 (v := (0 : Int32)) rfl (by decide) ?_
                                                      exact absurd h id
                                                · replace h := h.2 hc
                                                  refine V_pc 1426 rfl ?_
                                                  refine V_iconst 853 (v := (0 : Int32)) rfl (by decide) ?_
                                                  exact absurd h id
                                              · replace h := h.2 hs21
                                                refine V_tabOut 24 (tgt := 1448) rfl (by have hq0 := lv_neT hs0 (show Int32.toInt 0 = 0 from by decide); have hq1 := lv_neT hs1 (show Int32.toInt 1 = 1 from by decide); have hq2 := lv_neT hs2 (show Int32.toInt 2 = 2 from by decide); have hq3 := lv_neT hs3 (show Int32.toInt 3 = 3 from by decide); have hq4 := lv_neT hs4 (show Int32.toInt 4 = 4 from by decide); have hq5 := lv_neT hs5 (show Int32.toInt 5 = 5 from by decide); have hq6 := lv_neT hs6 (show Int32.toInt 6 = 6 from by decide); have hq7 := lv_neT hs7 (show Int32.toInt 7 = 7 from by decide); have hq8 := lv_neT hs8 (show Int32.toInt 8 = 8 from by decide); have hq9 := lv_neT hs9 (show Int32.toInt 9 = 9 from by decide); have hq10 := lv_neT hs10 (show Int32.toInt 10 = 10 from by decide); have hq11 := lv_neT hs11 (show Int32.toInt 11 = 11 from by decide); have hq12 := lv_neT hs12 (show Int32.toInt 12 = 12 from by decide); have hq13 := lv_neT hs13 (show Int32.toInt 13 = 13 from by decide); have hq14 := lv_neT hs14 (show Int32.toInt 14 = 14 from by decide); have hq15 := lv_neT hs15 (show Int32.toInt 15 = 15 from by decide); have hq16 := lv_neT hs16 (show Int32.toInt 16 = 16 from by decide); have hq17 := lv_neT hs17 (show Int32.toInt 17 = 17 from by decide); have hq18 := lv_neT hs18 (show Int32.toInt 18 = 18 from by decide); have hq19 := lv_neT hs19 (show Int32.toInt 19 = 19 from by decide); have hq20 := lv_neT hs20 (show Int32.toInt 20 = 20 from by decide); have hq21 := lv_neT hs21 (show Int32.toInt 21 = 21 from by decide); omega) (by decide) ?_
                                                refine V_less (kc' := (10 * N)) (ks' := (60 * N)) (by omega) (by omega) ?_
                                                exact k_j1448 x4 σ hW h
theorem ce_law {l : Launch} (hl : l.stackTraces = false) {b L : Nat} {xs : Nat → Int32} : ∀ (n : Nat) (x4 : Int32) (σ : ab_S), Wire σ → wL_law L xs n x4 σ → V l mdL_law 0 614 12190 (10 * n) (60 * n) (ab_LZ b L xs) 23 [(0, .ref 1000000), (1, .ref 0), (2, .ref 92), (3, .ref 163), (4, .int x4)] [] σ
  | 0 => by intro x4 σ hW h; exact absurd h id
  | n + 1 => ce_law_step hl n _ (ce_law hl n)
