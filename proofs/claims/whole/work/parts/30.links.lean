set_option maxRecDepth 20000 in
theorem gw_t1 {w : Cond} (i : Nat) (h : tables_1_1[i]? = some w) (g : goodWord w = true) : w ∈ gw := gw_of (List.mem_append_right _ (List.mem_append_left _ (List.mem_of_getElem? h))) g
set_option maxRecDepth 20000 in
theorem gw_t2 {w : Cond} (i : Nat) (h : tables_1_2[i]? = some w) (g : goodWord w = true) : w ∈ gw := gw_of (List.mem_append_right _ (List.mem_append_right _ (List.mem_append_left _ (List.mem_of_getElem? h)))) g
set_option maxRecDepth 20000 in
theorem gw_t3 {w : Cond} (i : Nat) (h : tables_1_3[i]? = some w) (g : goodWord w = true) : w ∈ gw := gw_of (List.mem_append_right _ (List.mem_append_right _ (List.mem_append_right _ (List.mem_append_left _ (List.mem_of_getElem? h))))) g
set_option maxRecDepth 20000 in
theorem gw_t4 {w : Cond} (i : Nat) (h : tables_1_4[i]? = some w) (g : goodWord w = true) : w ∈ gw := gw_of (List.mem_append_right _ (List.mem_append_right _ (List.mem_append_right _ (List.mem_append_right _ (List.mem_append_left _ (List.mem_of_getElem? h)))))) g
set_option maxRecDepth 20000 in
theorem gw_t5 {w : Cond} (i : Nat) (h : tables_1_5[i]? = some w) (g : goodWord w = true) : w ∈ gw := gw_of (List.mem_append_right _ (List.mem_append_right _ (List.mem_append_right _ (List.mem_append_right _ (List.mem_append_right _ (List.mem_append_left _ (List.mem_of_getElem? h))))))) g
set_option maxRecDepth 20000 in
theorem gw_t6 {w : Cond} (i : Nat) (h : tables_1_6[i]? = some w) (g : goodWord w = true) : w ∈ gw := gw_of (List.mem_append_right _ (List.mem_append_right _ (List.mem_append_right _ (List.mem_append_right _ (List.mem_append_right _ (List.mem_append_right _ (List.mem_append_left _ (List.mem_of_getElem? h)))))))) g
set_option maxRecDepth 20000 in
theorem gw_t7 {w : Cond} (i : Nat) (h : tables_1_7[i]? = some w) (g : goodWord w = true) : w ∈ gw := gw_of (List.mem_append_right _ (List.mem_append_right _ (List.mem_append_right _ (List.mem_append_right _ (List.mem_append_right _ (List.mem_append_right _ (List.mem_append_right _ (List.mem_append_left _ (List.mem_of_getElem? h))))))))) g
set_option maxRecDepth 20000 in
theorem gw_t8 {w : Cond} (i : Nat) (h : tables_1_8[i]? = some w) (g : goodWord w = true) : w ∈ gw := gw_of (List.mem_append_right _ (List.mem_append_right _ (List.mem_append_right _ (List.mem_append_right _ (List.mem_append_right _ (List.mem_append_right _ (List.mem_append_right _ (List.mem_append_right _ (List.mem_append_left _ (List.mem_of_getElem? h)))))))))) g
set_option maxRecDepth 20000 in
theorem gw_t9 {w : Cond} (i : Nat) (h : tables_1_9[i]? = some w) (g : goodWord w = true) : w ∈ gw := gw_of (List.mem_append_right _ (List.mem_append_right _ (List.mem_append_right _ (List.mem_append_right _ (List.mem_append_right _ (List.mem_append_right _ (List.mem_append_right _ (List.mem_append_right _ (List.mem_append_right _ (List.mem_append_left _ (List.mem_of_getElem? h))))))))))) g
set_option maxRecDepth 20000 in
theorem gw_t10 {w : Cond} (i : Nat) (h : tables_1_10[i]? = some w) (g : goodWord w = true) : w ∈ gw := gw_of (List.mem_append_right _ (List.mem_append_right _ (List.mem_append_right _ (List.mem_append_right _ (List.mem_append_right _ (List.mem_append_right _ (List.mem_append_right _ (List.mem_append_right _ (List.mem_append_right _ (List.mem_append_right _ (List.mem_append_left _ (List.mem_of_getElem? h)))))))))))) g
set_option maxRecDepth 20000 in
theorem gw_t11 {w : Cond} (i : Nat) (h : tables_1_11[i]? = some w) (g : goodWord w = true) : w ∈ gw := gw_of (List.mem_append_right _ (List.mem_append_right _ (List.mem_append_right _ (List.mem_append_right _ (List.mem_append_right _ (List.mem_append_right _ (List.mem_append_right _ (List.mem_append_right _ (List.mem_append_right _ (List.mem_append_right _ (List.mem_append_right _ (List.mem_of_getElem? h)))))))))))) g
set_option maxRecDepth 20000 in
theorem ugX0 : (u_ws RX0 TX0 20).all goodWord = true := by decide +kernel
set_option maxRecDepth 20000 in
theorem clX0 : ab_cl 0 RX0 TX0 20 := ⟨rfl, by decide, rfl, fun w h => gw_of (inX0 w h) (List.all_eq_true.mp ugX0 w h), tyX0_ok, nmX0⟩
set_option maxRecDepth 20000 in
theorem nfX0 : ∀ j, j < 20 → ab_ty 0 j ≠ .float ∧ ab_ty 0 j ≠ .double := by decide
set_option maxRecDepth 20000 in
theorem ugX1 : (u_ws RX1 TX1 4).all goodWord = true := by decide +kernel
set_option maxRecDepth 20000 in
theorem clX1 : ab_cl 1 RX1 TX1 4 := ⟨rfl, by decide, rfl, fun w h => gw_of (inX1 w h) (List.all_eq_true.mp ugX1 w h), tyX1_ok, nmX1⟩
set_option maxRecDepth 20000 in
theorem nfX1 : ∀ j, j < 4 → ab_ty 1 j ≠ .float ∧ ab_ty 1 j ≠ .double := by decide
set_option maxRecDepth 20000 in
theorem ugX2 : (u_ws RX2 TX2 14).all goodWord = true := by decide +kernel
set_option maxRecDepth 20000 in
theorem clX2 : ab_cl 2 RX2 TX2 14 := ⟨rfl, by decide, rfl, fun w h => gw_of (inX2 w h) (List.all_eq_true.mp ugX2 w h), tyX2_ok, nmX2⟩
set_option maxRecDepth 20000 in
theorem nfX2 : ∀ j, j < 14 → ab_ty 2 j ≠ .float ∧ ab_ty 2 j ≠ .double := by decide
set_option maxRecDepth 20000 in
theorem ugX3 : (u_ws RX3 TX3 1).all goodWord = true := by decide +kernel
set_option maxRecDepth 20000 in
theorem clX3 : ab_cl 3 RX3 TX3 1 := ⟨rfl, by decide, rfl, fun w h => gw_of (inX3 w h) (List.all_eq_true.mp ugX3 w h), tyX3_ok, nmX3⟩
set_option maxRecDepth 20000 in
theorem nfX3 : ∀ j, j < 1 → ab_ty 3 j ≠ .float ∧ ab_ty 3 j ≠ .double := by decide
set_option maxRecDepth 20000 in
theorem ugX4 : (u_ws RX4 TX4 11).all goodWord = true := by decide +kernel
set_option maxRecDepth 20000 in
theorem clX4 : ab_cl 4 RX4 TX4 11 := ⟨rfl, by decide, rfl, fun w h => gw_of (inX4 w h) (List.all_eq_true.mp ugX4 w h), tyX4_ok, nmX4⟩
set_option maxRecDepth 20000 in
theorem nfX4 : ∀ j, j < 11 → ab_ty 4 j ≠ .float ∧ ab_ty 4 j ≠ .double := by decide
set_option maxRecDepth 20000 in
theorem ugX5 : (u_ws RX5 TX5 8).all goodWord = true := by decide +kernel
set_option maxRecDepth 20000 in
theorem clX5 : ab_cl 5 RX5 TX5 8 := ⟨rfl, by decide, rfl, fun w h => gw_of (inX5 w h) (List.all_eq_true.mp ugX5 w h), tyX5_ok, nmX5⟩
set_option maxRecDepth 20000 in
theorem nfX5 : ∀ j, j < 8 → ab_ty 5 j ≠ .float ∧ ab_ty 5 j ≠ .double := by decide
set_option maxRecDepth 20000 in
theorem ugX6 : (u_ws RX6 TX6 10).all goodWord = true := by decide +kernel
set_option maxRecDepth 20000 in
theorem clX6 : ab_cl 6 RX6 TX6 10 := ⟨rfl, by decide, rfl, fun w h => gw_of (inX6 w h) (List.all_eq_true.mp ugX6 w h), tyX6_ok, nmX6⟩
set_option maxRecDepth 20000 in
theorem nfX6 : ∀ j, j < 10 → ab_ty 6 j ≠ .float ∧ ab_ty 6 j ≠ .double := by decide
set_option maxRecDepth 20000 in
theorem ugX7 : (u_ws RX7 TX7 6).all goodWord = true := by decide +kernel
set_option maxRecDepth 20000 in
theorem clX7 : ab_cl 7 RX7 TX7 6 := ⟨rfl, by decide, rfl, fun w h => gw_of (inX7 w h) (List.all_eq_true.mp ugX7 w h), tyX7_ok, nmX7⟩
set_option maxRecDepth 20000 in
theorem nfX7 : ∀ j, j < 6 → ab_ty 7 j ≠ .float ∧ ab_ty 7 j ≠ .double := by decide
set_option maxRecDepth 20000 in
theorem ugX8 : (u_ws RX8 TX8 2).all goodWord = true := by decide +kernel
set_option maxRecDepth 20000 in
theorem clX8 : ab_cl 8 RX8 TX8 2 := ⟨rfl, by decide, rfl, fun w h => gw_of (inX8 w h) (List.all_eq_true.mp ugX8 w h), tyX8_ok, nmX8⟩
set_option maxRecDepth 20000 in
theorem nfX8 : ∀ j, j < 2 → ab_ty 8 j ≠ .float ∧ ab_ty 8 j ≠ .double := by decide
set_option maxRecDepth 20000 in
theorem ugX9 : (u_ws RX9 TX9 6).all goodWord = true := by decide +kernel
set_option maxRecDepth 20000 in
theorem clX9 : ab_cl 9 RX9 TX9 6 := ⟨rfl, by decide, rfl, fun w h => gw_of (inX9 w h) (List.all_eq_true.mp ugX9 w h), tyX9_ok, nmX9⟩
set_option maxRecDepth 20000 in
theorem nfX9 : ∀ j, j < 6 → ab_ty 9 j ≠ .float ∧ ab_ty 9 j ≠ .double := by decide
set_option maxRecDepth 20000 in
theorem ugX10 : (u_ws RX10 TX10 4).all goodWord = true := by decide +kernel
set_option maxRecDepth 20000 in
theorem clX10 : ab_cl 10 RX10 TX10 4 := ⟨rfl, by decide, rfl, fun w h => gw_of (inX10 w h) (List.all_eq_true.mp ugX10 w h), tyX10_ok, nmX10⟩
set_option maxRecDepth 20000 in
theorem nfX10 : ∀ j, j < 4 → ab_ty 10 j ≠ .float ∧ ab_ty 10 j ≠ .double := by decide
set_option maxRecDepth 20000 in
theorem ugX11 : (u_ws RX11 TX11 18).all goodWord = true := by decide +kernel
set_option maxRecDepth 20000 in
theorem clX11 : ab_cl 11 RX11 TX11 18 := ⟨rfl, by decide, rfl, fun w h => gw_of (inX11 w h) (List.all_eq_true.mp ugX11 w h), tyX11_ok, nmX11⟩
set_option maxRecDepth 20000 in
theorem nfX11 : ∀ j, j < 18 → ab_ty 11 j ≠ .float ∧ ab_ty 11 j ≠ .double := by decide
set_option maxRecDepth 20000 in
theorem ugX12 : (u_ws RX12 TX12 97).all goodWord = true := by decide +kernel
set_option maxRecDepth 20000 in
theorem clX12 : ab_cl 12 RX12 TX12 97 := ⟨rfl, by decide, rfl, fun w h => gw_of (inX12 w h) (List.all_eq_true.mp ugX12 w h), tyX12_ok, nmX12⟩
set_option maxRecDepth 20000 in
theorem nfX12 : ∀ j, j < 97 → ab_ty 12 j ≠ .float ∧ ab_ty 12 j ≠ .double := by decide
set_option maxRecDepth 20000 in
theorem flX11_14 : Cond.fieldLink RX11 14 "AttributeHouse" "text" "LAttributeHouse$Text;" ∈ gw := gw_t2 232 rfl rfl
set_option maxRecDepth 20000 in
theorem flX11_28 : Cond.fieldLink RX11 28 "AttributeHouse" "grammarReader" "LAttributeHouse$GrammarReader;" ∈ gw := gw_t2 233 rfl rfl
set_option maxRecDepth 20000 in
theorem flX11_35 : Cond.fieldLink RX11 35 "AttributeHouse" "treeReader" "LAttributeHouse$TreeReader;" ∈ gw := gw_t2 234 rfl rfl
set_option maxRecDepth 20000 in
theorem flX11_42 : Cond.fieldLink RX11 42 "AttributeHouse" "order" "LAttributeHouse$Order;" ∈ gw := gw_t2 235 rfl rfl
set_option maxRecDepth 20000 in
theorem flX11_49 : Cond.fieldLink RX11 49 "AttributeHouse" "plans" "LAttributeHouse$Plans;" ∈ gw := gw_t2 236 rfl rfl
set_option maxRecDepth 20000 in
theorem flX11_58 : Cond.fieldLink RX11 58 "AttributeHouse" "stores" "LAttributeHouse$Stores;" ∈ gw := gw_t2 237 rfl rfl
set_option maxRecDepth 20000 in
theorem flX11_67 : Cond.fieldLink RX11 67 "AttributeHouse" "program" "LAttributeHouse$Program;" ∈ gw := gw_t2 238 rfl rfl
set_option maxRecDepth 20000 in
theorem flX11_76 : Cond.fieldLink RX11 76 "AttributeHouse" "values" "LAttributeHouse$Machine;" ∈ gw := gw_t2 239 rfl rfl
set_option maxRecDepth 20000 in
theorem flX11_80 : Cond.fieldLink RX11 80 "AttributeHouse" "runner" "LAttributeHouse$Machine;" ∈ gw := gw_t3 0 rfl rfl
set_option maxRecDepth 20000 in
theorem flX11_83 : Cond.fieldLink RX11 83 "AttributeHouse" "valuesBefore" "[J" ∈ gw := gw_t3 1 rfl rfl
set_option maxRecDepth 20000 in
theorem flX11_87 : Cond.fieldLink RX11 87 "AttributeHouse" "framesAbove" "[I" ∈ gw := gw_t3 2 rfl rfl
set_option maxRecDepth 20000 in
theorem flX11_94 : Cond.fieldLink RX11 94 "AttributeHouse" "grammar" "LAttributeHouse$Grammar;" ∈ gw := gw_t3 3 rfl rfl
set_option maxRecDepth 20000 in
theorem flX11_98 : Cond.fieldLink RX11 98 "AttributeHouse" "spareGrammar" "LAttributeHouse$Grammar;" ∈ gw := gw_t3 4 rfl rfl
set_option maxRecDepth 20000 in
theorem flX11_104 : Cond.fieldLink RX11 104 "AttributeHouse" "tree" "LAttributeHouse$Tree;" ∈ gw := gw_t3 5 rfl rfl
set_option maxRecDepth 20000 in
theorem flX11_108 : Cond.fieldLink RX11 108 "AttributeHouse" "spareTree" "LAttributeHouse$Tree;" ∈ gw := gw_t3 6 rfl rfl
set_option maxRecDepth 20000 in
theorem flX11_118 : Cond.fieldLink RX11 118 "AttributeHouse$Text" "length" "I" ∈ gw := gw_t1 51 rfl rfl
set_option maxRecDepth 20000 in
theorem flX11_149 : Cond.fieldLink RX11 149 "AttributeHouse" "hasGrammar" "Z" ∈ gw := gw_t3 7 rfl rfl
set_option maxRecDepth 20000 in
theorem flX11_153 : Cond.fieldLink RX11 153 "AttributeHouse" "hasTree" "Z" ∈ gw := gw_t3 8 rfl rfl
set_option maxRecDepth 20000 in
theorem flX11_156 : Cond.fieldLink RX11 156 "AttributeHouse" "hasBegun" "Z" ∈ gw := gw_t3 9 rfl rfl
set_option maxRecDepth 20000 in
theorem flX11_171 : Cond.fieldLink RX11 171 "AttributeHouse$Grammar" "symbols" "I" ∈ gw := gw_t2 90 rfl rfl
set_option maxRecDepth 20000 in
theorem flX11_174 : Cond.fieldLink RX11 174 "AttributeHouse$Grammar" "productions" "I" ∈ gw := gw_t2 106 rfl rfl
set_option maxRecDepth 20000 in
theorem flX11_181 : Cond.fieldLink RX11 181 "AttributeHouse$Grammar" "induced" "[I" ∈ gw := gw_t2 143 rfl rfl
set_option maxRecDepth 20000 in
theorem flX11_187 : Cond.fieldLink RX11 187 "AttributeHouse$Grammar" "visits" "[I" ∈ gw := gw_t2 152 rfl rfl
set_option maxRecDepth 20000 in
theorem flX11_190 : Cond.fieldLink RX11 190 "AttributeHouse$Grammar" "levels" "[I" ∈ gw := gw_t2 146 rfl rfl
set_option maxRecDepth 20000 in
theorem flX11_200 : Cond.fieldLink RX11 200 "AttributeHouse$Plans" "entries" "[I" ∈ gw := gw_t1 162 rfl rfl
set_option maxRecDepth 20000 in
theorem flX11_203 : Cond.fieldLink RX11 203 "AttributeHouse$Stores" "kinds" "[I" ∈ gw := gw_t1 209 rfl rfl
set_option maxRecDepth 20000 in
theorem flX11_215 : Cond.fieldLink RX11 215 "AttributeHouse$Tree" "nodes" "I" ∈ gw := gw_t2 204 rfl rfl
set_option maxRecDepth 20000 in
theorem flX11_234 : Cond.fieldLink RX11 234 "AttributeHouse$Stores" "variables" "I" ∈ gw := gw_t1 213 rfl rfl
set_option maxRecDepth 20000 in
theorem flX11_240 : Cond.fieldLink RX11 240 "AttributeHouse$Tree" "production" "[I" ∈ gw := gw_t2 208 rfl rfl
set_option maxRecDepth 20000 in
theorem flX11_243 : Cond.fieldLink RX11 243 "AttributeHouse$Tree" "parent" "[I" ∈ gw := gw_t2 211 rfl rfl
set_option maxRecDepth 20000 in
theorem flX11_246 : Cond.fieldLink RX11 246 "AttributeHouse$Tree" "literal" "[I" ∈ gw := gw_t2 215 rfl rfl
set_option maxRecDepth 20000 in
theorem flX11_256 : Cond.fieldLink RX11 256 "AttributeHouse$Machine" "kept" "[J" ∈ gw := gw_t2 35 rfl rfl
set_option maxRecDepth 20000 in
theorem flX11_263 : Cond.fieldLink RX11 263 "AttributeHouse$Grammar" "literal" "[Z" ∈ gw := gw_t2 119 rfl rfl
set_option maxRecDepth 20000 in
theorem flX11_284 : Cond.fieldLink RX11 284 "AttributeHouse$Program" "length" "I" ∈ gw := gw_t2 6 rfl rfl
set_option maxRecDepth 20000 in
theorem flX11_288 : Cond.fieldLink RX11 288 "AttributeHouse$Program" "kinds" "[I" ∈ gw := gw_t1 238 rfl rfl
set_option maxRecDepth 20000 in
theorem flX11_289 : Cond.fieldLink RX11 289 "AttributeHouse$Program" "numbers" "[I" ∈ gw := gw_t2 1 rfl rfl
set_option maxRecDepth 20000 in
theorem flX11_297 : Cond.fieldLink RX11 297 "AttributeHouse$Machine" "place" "I" ∈ gw := gw_t2 44 rfl rfl
set_option maxRecDepth 20000 in
theorem flX11_307 : Cond.fieldLink RX11 307 "AttributeHouse$Machine" "depth" "I" ∈ gw := gw_t2 46 rfl rfl
set_option maxRecDepth 20000 in
theorem flX11_310 : Cond.fieldLink RX11 310 "AttributeHouse$Machine" "height" "I" ∈ gw := gw_t2 48 rfl rfl
set_option maxRecDepth 20000 in
theorem flX11_313 : Cond.fieldLink RX11 313 "AttributeHouse$Machine" "done" "I" ∈ gw := gw_t2 50 rfl rfl
set_option maxRecDepth 20000 in
theorem flX11_319 : Cond.fieldLink RX11 319 "AttributeHouse$Machine" "variables" "[J" ∈ gw := gw_t2 37 rfl rfl
set_option maxRecDepth 20000 in
theorem flX11_321 : Cond.fieldLink RX11 321 "AttributeHouse$Machine" "stack" "[J" ∈ gw := gw_t2 39 rfl rfl
set_option maxRecDepth 20000 in
theorem flX11_328 : Cond.fieldLink RX11 328 "AttributeHouse$Grammar" "attributes" "[I" ∈ gw := gw_t2 96 rfl rfl
set_option maxRecDepth 20000 in
theorem flX0_9 : Cond.fieldLink RX0 9 "AttributeHouse$Grammar" "symbolNames" "[J" ∈ gw := gw_t2 91 rfl rfl
set_option maxRecDepth 20000 in
theorem flX0_15 : Cond.fieldLink RX0 15 "AttributeHouse$Grammar" "attributes" "[I" ∈ gw := gw_t2 92 rfl rfl
set_option maxRecDepth 20000 in
theorem flX0_19 : Cond.fieldLink RX0 19 "AttributeHouse$Grammar" "down" "[I" ∈ gw := gw_t2 97 rfl rfl
set_option maxRecDepth 20000 in
theorem flX0_22 : Cond.fieldLink RX0 22 "AttributeHouse$Grammar" "attributeNames" "[J" ∈ gw := gw_t2 99 rfl rfl
set_option maxRecDepth 20000 in
theorem flX0_25 : Cond.fieldLink RX0 25 "AttributeHouse$Grammar" "productionNames" "[J" ∈ gw := gw_t2 107 rfl rfl
set_option maxRecDepth 20000 in
theorem flX0_28 : Cond.fieldLink RX0 28 "AttributeHouse$Grammar" "right" "[I" ∈ gw := gw_t2 108 rfl rfl
set_option maxRecDepth 20000 in
theorem flX0_31 : Cond.fieldLink RX0 31 "AttributeHouse$Grammar" "occurrences" "[I" ∈ gw := gw_t2 114 rfl rfl
set_option maxRecDepth 20000 in
theorem flX0_34 : Cond.fieldLink RX0 34 "AttributeHouse$Grammar" "literal" "[Z" ∈ gw := gw_t2 116 rfl rfl
set_option maxRecDepth 20000 in
theorem flX0_38 : Cond.fieldLink RX0 38 "AttributeHouse$Grammar" "defined" "[I" ∈ gw := gw_t2 120 rfl rfl
set_option maxRecDepth 20000 in
theorem flX0_41 : Cond.fieldLink RX0 41 "AttributeHouse$Grammar" "named" "[I" ∈ gw := gw_t2 123 rfl rfl
set_option maxRecDepth 20000 in
theorem flX0_44 : Cond.fieldLink RX0 44 "AttributeHouse$Grammar" "ruleFrom" "[I" ∈ gw := gw_t2 128 rfl rfl
set_option maxRecDepth 20000 in
theorem flX0_47 : Cond.fieldLink RX0 47 "AttributeHouse$Grammar" "ruleTo" "[I" ∈ gw := gw_t2 131 rfl rfl
set_option maxRecDepth 20000 in
theorem flX0_50 : Cond.fieldLink RX0 50 "AttributeHouse$Grammar" "kinds" "[I" ∈ gw := gw_t2 136 rfl rfl
set_option maxRecDepth 20000 in
theorem flX0_53 : Cond.fieldLink RX0 53 "AttributeHouse$Grammar" "numbers" "[I" ∈ gw := gw_t2 138 rfl rfl
set_option maxRecDepth 20000 in
theorem flX0_56 : Cond.fieldLink RX0 56 "AttributeHouse$Grammar" "induced" "[I" ∈ gw := gw_t2 141 rfl rfl
set_option maxRecDepth 20000 in
theorem flX0_59 : Cond.fieldLink RX0 59 "AttributeHouse$Grammar" "levels" "[I" ∈ gw := gw_t2 144 rfl rfl
set_option maxRecDepth 20000 in
theorem flX0_62 : Cond.fieldLink RX0 62 "AttributeHouse$Grammar" "visits" "[I" ∈ gw := gw_t2 147 rfl rfl
set_option maxRecDepth 20000 in
theorem flX0_65 : Cond.fieldLink RX0 65 "AttributeHouse$Grammar" "symbols" "I" ∈ gw := gw_t2 86 rfl rfl
set_option maxRecDepth 20000 in
theorem flX0_69 : Cond.fieldLink RX0 69 "AttributeHouse$Grammar" "productions" "I" ∈ gw := gw_t2 100 rfl rfl
set_option maxRecDepth 20000 in
theorem flX0_72 : Cond.fieldLink RX0 72 "AttributeHouse$Grammar" "length" "I" ∈ gw := gw_t2 134 rfl rfl
set_option maxRecDepth 20000 in
theorem flX1_9 : Cond.fieldLink RX1 9 "AttributeHouse$GrammarReader" "scanner" "LAttributeHouse$Scanner;" ∈ gw := gw_t1 113 rfl rfl
set_option maxRecDepth 20000 in
theorem flX1_15 : Cond.fieldLink RX1 15 "AttributeHouse$GrammarReader" "grammar" "LAttributeHouse$Grammar;" ∈ gw := gw_t1 114 rfl rfl
set_option maxRecDepth 20000 in
theorem flX1_33 : Cond.fieldLink RX1 33 "AttributeHouse$Scanner" "kind" "I" ∈ gw := gw_t1 72 rfl rfl
set_option maxRecDepth 20000 in
theorem flX1_40 : Cond.fieldLink RX1 40 "AttributeHouse$Scanner" "place" "I" ∈ gw := gw_t1 76 rfl rfl
set_option maxRecDepth 20000 in
theorem flX1_47 : Cond.fieldLink RX1 47 "AttributeHouse$Scanner" "name" "J" ∈ gw := gw_t1 81 rfl rfl
set_option maxRecDepth 20000 in
theorem flX1_55 : Cond.fieldLink RX1 55 "AttributeHouse$Grammar" "symbols" "I" ∈ gw := gw_t2 88 rfl rfl
set_option maxRecDepth 20000 in
theorem flX1_69 : Cond.fieldLink RX1 69 "AttributeHouse$Grammar" "attributes" "[I" ∈ gw := gw_t2 94 rfl rfl
set_option maxRecDepth 20000 in
theorem flX1_84 : Cond.fieldLink RX1 84 "AttributeHouse$Grammar" "productions" "I" ∈ gw := gw_t2 104 rfl rfl
set_option maxRecDepth 20000 in
theorem flX1_87 : Cond.fieldLink RX1 87 "AttributeHouse$GrammarReader" "production" "I" ∈ gw := gw_t1 115 rfl rfl
set_option maxRecDepth 20000 in
theorem flX1_102 : Cond.fieldLink RX1 102 "AttributeHouse$Grammar" "defined" "[I" ∈ gw := gw_t2 121 rfl rfl
set_option maxRecDepth 20000 in
theorem flX1_109 : Cond.fieldLink RX1 109 "AttributeHouse$Grammar" "occurrences" "[I" ∈ gw := gw_t2 115 rfl rfl
set_option maxRecDepth 20000 in
theorem flX1_112 : Cond.fieldLink RX1 112 "AttributeHouse$Grammar" "literal" "[Z" ∈ gw := gw_t2 118 rfl rfl
set_option maxRecDepth 20000 in
theorem flX1_116 : Cond.fieldLink RX1 116 "AttributeHouse$Grammar" "right" "[I" ∈ gw := gw_t2 112 rfl rfl
set_option maxRecDepth 20000 in
theorem flX1_123 : Cond.fieldLink RX1 123 "AttributeHouse$Grammar" "ruleFrom" "[I" ∈ gw := gw_t2 130 rfl rfl
set_option maxRecDepth 20000 in
theorem flX1_126 : Cond.fieldLink RX1 126 "AttributeHouse$Grammar" "length" "I" ∈ gw := gw_t2 135 rfl rfl
set_option maxRecDepth 20000 in
theorem flX1_129 : Cond.fieldLink RX1 129 "AttributeHouse$GrammarReader" "names" "I" ∈ gw := gw_t1 116 rfl rfl
set_option maxRecDepth 20000 in
theorem flX1_135 : Cond.fieldLink RX1 135 "AttributeHouse$Grammar" "ruleTo" "[I" ∈ gw := gw_t2 133 rfl rfl
set_option maxRecDepth 20000 in
theorem flX1_138 : Cond.fieldLink RX1 138 "AttributeHouse$Grammar" "named" "[I" ∈ gw := gw_t2 125 rfl rfl
set_option maxRecDepth 20000 in
theorem flX1_141 : Cond.fieldLink RX1 141 "AttributeHouse$Scanner" "number" "I" ∈ gw := gw_t1 80 rfl rfl
set_option maxRecDepth 20000 in
theorem flX1_161 : Cond.fieldLink RX1 161 "AttributeHouse$Grammar" "numbers" "[I" ∈ gw := gw_t2 140 rfl rfl
set_option maxRecDepth 20000 in
theorem flX2_9 : Cond.fieldLink RX2 9 "AttributeHouse$Machine" "kept" "[J" ∈ gw := gw_t2 34 rfl rfl
set_option maxRecDepth 20000 in
theorem flX2_15 : Cond.fieldLink RX2 15 "AttributeHouse$Machine" "variables" "[J" ∈ gw := gw_t2 36 rfl rfl
set_option maxRecDepth 20000 in
theorem flX2_18 : Cond.fieldLink RX2 18 "AttributeHouse$Machine" "stack" "[J" ∈ gw := gw_t2 38 rfl rfl
set_option maxRecDepth 20000 in
theorem flX2_21 : Cond.fieldLink RX2 21 "AttributeHouse$Machine" "visited" "[I" ∈ gw := gw_t2 40 rfl rfl
set_option maxRecDepth 20000 in
theorem flX2_25 : Cond.fieldLink RX2 25 "AttributeHouse$Machine" "underWay" "[I" ∈ gw := gw_t2 41 rfl rfl
set_option maxRecDepth 20000 in
theorem flX2_28 : Cond.fieldLink RX2 28 "AttributeHouse$Machine" "backTo" "[I" ∈ gw := gw_t2 42 rfl rfl
set_option maxRecDepth 20000 in
theorem flX2_31 : Cond.fieldLink RX2 31 "AttributeHouse$Machine" "program" "LAttributeHouse$Program;" ∈ gw := gw_t2 30 rfl rfl
set_option maxRecDepth 20000 in
theorem flX2_35 : Cond.fieldLink RX2 35 "AttributeHouse$Machine" "keepsAll" "Z" ∈ gw := gw_t2 31 rfl rfl
set_option maxRecDepth 20000 in
theorem flX2_39 : Cond.fieldLink RX2 39 "AttributeHouse$Machine" "grammar" "LAttributeHouse$Grammar;" ∈ gw := gw_t2 32 rfl rfl
set_option maxRecDepth 20000 in
theorem flX2_43 : Cond.fieldLink RX2 43 "AttributeHouse$Machine" "tree" "LAttributeHouse$Tree;" ∈ gw := gw_t2 33 rfl rfl
set_option maxRecDepth 20000 in
theorem flX2_56 : Cond.fieldLink RX2 56 "AttributeHouse$Machine" "depth" "I" ∈ gw := gw_t2 45 rfl rfl
set_option maxRecDepth 20000 in
theorem flX2_60 : Cond.fieldLink RX2 60 "AttributeHouse$Machine" "height" "I" ∈ gw := gw_t2 47 rfl rfl
set_option maxRecDepth 20000 in
theorem flX2_63 : Cond.fieldLink RX2 63 "AttributeHouse$Machine" "done" "I" ∈ gw := gw_t2 49 rfl rfl
set_option maxRecDepth 20000 in
theorem flX2_70 : Cond.fieldLink RX2 70 "AttributeHouse$Machine" "place" "I" ∈ gw := gw_t2 43 rfl rfl
set_option maxRecDepth 20000 in
theorem flX2_77 : Cond.fieldLink RX2 77 "AttributeHouse$Tree" "production" "[I" ∈ gw := gw_t2 207 rfl rfl
set_option maxRecDepth 20000 in
theorem flX2_88 : Cond.fieldLink RX2 88 "AttributeHouse$Grammar" "visits" "[I" ∈ gw := gw_t2 150 rfl rfl
set_option maxRecDepth 20000 in
theorem flX2_96 : Cond.fieldLink RX2 96 "AttributeHouse$Program" "kinds" "[I" ∈ gw := gw_t1 237 rfl rfl
set_option maxRecDepth 20000 in
theorem flX2_99 : Cond.fieldLink RX2 99 "AttributeHouse$Program" "numbers" "[I" ∈ gw := gw_t2 0 rfl rfl
set_option maxRecDepth 20000 in
theorem flX2_106 : Cond.fieldLink RX2 106 "AttributeHouse$Tree" "literal" "[I" ∈ gw := gw_t2 214 rfl rfl
set_option maxRecDepth 20000 in
theorem flX2_113 : Cond.fieldLink RX2 113 "AttributeHouse$Program" "slots" "[I" ∈ gw := gw_t2 3 rfl rfl
set_option maxRecDepth 20000 in
theorem flX3_9 : Cond.fieldLink RX3 9 "AttributeHouse$Order" "rows" "[I" ∈ gw := gw_t1 151 rfl rfl
set_option maxRecDepth 20000 in
theorem flX3_15 : Cond.fieldLink RX3 15 "AttributeHouse$Grammar" "named" "[I" ∈ gw := gw_t2 124 rfl rfl
set_option maxRecDepth 20000 in
theorem flX3_20 : Cond.fieldLink RX3 20 "AttributeHouse$Grammar" "productions" "I" ∈ gw := gw_t2 101 rfl rfl
set_option maxRecDepth 20000 in
theorem flX3_30 : Cond.fieldLink RX3 30 "AttributeHouse$Grammar" "induced" "[I" ∈ gw := gw_t2 142 rfl rfl
set_option maxRecDepth 20000 in
theorem flX3_57 : Cond.fieldLink RX3 57 "AttributeHouse$Grammar" "symbols" "I" ∈ gw := gw_t2 89 rfl rfl
set_option maxRecDepth 20000 in
theorem flX3_64 : Cond.fieldLink RX3 64 "AttributeHouse$Grammar" "down" "[I" ∈ gw := gw_t2 98 rfl rfl
set_option maxRecDepth 20000 in
theorem flX3_71 : Cond.fieldLink RX3 71 "AttributeHouse$Grammar" "attributes" "[I" ∈ gw := gw_t2 95 rfl rfl
set_option maxRecDepth 20000 in
theorem flX3_74 : Cond.fieldLink RX3 74 "AttributeHouse$Grammar" "levels" "[I" ∈ gw := gw_t2 145 rfl rfl
set_option maxRecDepth 20000 in
theorem flX3_77 : Cond.fieldLink RX3 77 "AttributeHouse$Grammar" "visits" "[I" ∈ gw := gw_t2 149 rfl rfl
set_option maxRecDepth 20000 in
theorem flX3_80 : Cond.fieldLink RX3 80 "AttributeHouse$Grammar" "right" "[I" ∈ gw := gw_t2 111 rfl rfl
set_option maxRecDepth 20000 in
theorem flX4_9 : Cond.fieldLink RX4 9 "AttributeHouse$Plans" "entries" "[I" ∈ gw := gw_t1 161 rfl rfl
set_option maxRecDepth 20000 in
theorem flX4_15 : Cond.fieldLink RX4 15 "AttributeHouse$Plans" "headVisit" "[I" ∈ gw := gw_t1 163 rfl rfl
set_option maxRecDepth 20000 in
theorem flX4_18 : Cond.fieldLink RX4 18 "AttributeHouse$Plans" "madeVisit" "[I" ∈ gw := gw_t1 165 rfl rfl
set_option maxRecDepth 20000 in
theorem flX4_21 : Cond.fieldLink RX4 21 "AttributeHouse$Plans" "firsts" "[I" ∈ gw := gw_t1 167 rfl rfl
set_option maxRecDepth 20000 in
theorem flX4_24 : Cond.fieldLink RX4 24 "AttributeHouse$Plans" "evaluatedAt" "[I" ∈ gw := gw_t1 168 rfl rfl
set_option maxRecDepth 20000 in
theorem flX4_27 : Cond.fieldLink RX4 27 "AttributeHouse$Plans" "visitedAt" "[I" ∈ gw := gw_t1 169 rfl rfl
set_option maxRecDepth 20000 in
theorem flX4_30 : Cond.fieldLink RX4 30 "AttributeHouse$Plans" "visited" "[I" ∈ gw := gw_t1 170 rfl rfl
set_option maxRecDepth 20000 in
theorem flX4_33 : Cond.fieldLink RX4 33 "AttributeHouse$Plans" "grammar" "LAttributeHouse$Grammar;" ∈ gw := gw_t1 171 rfl rfl
set_option maxRecDepth 20000 in
theorem flX4_37 : Cond.fieldLink RX4 37 "AttributeHouse$Plans" "length" "I" ∈ gw := gw_t1 172 rfl rfl
set_option maxRecDepth 20000 in
theorem flX4_41 : Cond.fieldLink RX4 41 "AttributeHouse$Grammar" "productions" "I" ∈ gw := gw_t2 102 rfl rfl
set_option maxRecDepth 20000 in
theorem flX4_58 : Cond.fieldLink RX4 58 "AttributeHouse$Plans" "there" "I" ∈ gw := gw_t1 173 rfl rfl
set_option maxRecDepth 20000 in
theorem flX4_61 : Cond.fieldLink RX4 61 "AttributeHouse$Plans" "evaluated" "I" ∈ gw := gw_t1 174 rfl rfl
set_option maxRecDepth 20000 in
theorem flX4_70 : Cond.fieldLink RX4 70 "AttributeHouse$Grammar" "visits" "[I" ∈ gw := gw_t2 153 rfl rfl
set_option maxRecDepth 20000 in
theorem flX4_83 : Cond.fieldLink RX4 83 "AttributeHouse$Grammar" "defined" "[I" ∈ gw := gw_t2 122 rfl rfl
set_option maxRecDepth 20000 in
theorem flX4_86 : Cond.fieldLink RX4 86 "AttributeHouse$Grammar" "named" "[I" ∈ gw := gw_t2 126 rfl rfl
set_option maxRecDepth 20000 in
theorem flX4_93 : Cond.fieldLink RX4 93 "AttributeHouse$Grammar" "right" "[I" ∈ gw := gw_t2 113 rfl rfl
set_option maxRecDepth 20000 in
theorem flX5_9 : Cond.fieldLink RX5 9 "AttributeHouse$Program" "kinds" "[I" ∈ gw := gw_t1 236 rfl rfl
set_option maxRecDepth 20000 in
theorem flX5_15 : Cond.fieldLink RX5 15 "AttributeHouse$Program" "numbers" "[I" ∈ gw := gw_t1 239 rfl rfl
set_option maxRecDepth 20000 in
theorem flX5_18 : Cond.fieldLink RX5 18 "AttributeHouse$Program" "slots" "[I" ∈ gw := gw_t2 2 rfl rfl
set_option maxRecDepth 20000 in
theorem flX5_21 : Cond.fieldLink RX5 21 "AttributeHouse$Program" "firsts" "[I" ∈ gw := gw_t2 4 rfl rfl
set_option maxRecDepth 20000 in
theorem flX5_24 : Cond.fieldLink RX5 24 "AttributeHouse$Program" "plans" "LAttributeHouse$Plans;" ∈ gw := gw_t1 233 rfl rfl
set_option maxRecDepth 20000 in
theorem flX5_28 : Cond.fieldLink RX5 28 "AttributeHouse$Program" "stores" "LAttributeHouse$Stores;" ∈ gw := gw_t1 234 rfl rfl
set_option maxRecDepth 20000 in
theorem flX5_32 : Cond.fieldLink RX5 32 "AttributeHouse$Program" "grammar" "LAttributeHouse$Grammar;" ∈ gw := gw_t1 235 rfl rfl
set_option maxRecDepth 20000 in
theorem flX5_36 : Cond.fieldLink RX5 36 "AttributeHouse$Program" "length" "I" ∈ gw := gw_t2 5 rfl rfl
set_option maxRecDepth 20000 in
theorem flX5_40 : Cond.fieldLink RX5 40 "AttributeHouse$Grammar" "productions" "I" ∈ gw := gw_t2 103 rfl rfl
set_option maxRecDepth 20000 in
theorem flX5_45 : Cond.fieldLink RX5 45 "AttributeHouse$Grammar" "visits" "[I" ∈ gw := gw_t2 148 rfl rfl
set_option maxRecDepth 20000 in
theorem flX5_85 : Cond.fieldLink RX5 85 "AttributeHouse$Grammar" "ruleFrom" "[I" ∈ gw := gw_t2 129 rfl rfl
set_option maxRecDepth 20000 in
theorem flX5_88 : Cond.fieldLink RX5 88 "AttributeHouse$Grammar" "ruleTo" "[I" ∈ gw := gw_t2 132 rfl rfl
set_option maxRecDepth 20000 in
theorem flX5_91 : Cond.fieldLink RX5 91 "AttributeHouse$Grammar" "kinds" "[I" ∈ gw := gw_t2 137 rfl rfl
set_option maxRecDepth 20000 in
theorem flX5_92 : Cond.fieldLink RX5 92 "AttributeHouse$Grammar" "numbers" "[I" ∈ gw := gw_t2 139 rfl rfl
set_option maxRecDepth 20000 in
theorem flX5_93 : Cond.fieldLink RX5 93 "AttributeHouse$Stores" "kinds" "[I" ∈ gw := gw_t1 208 rfl rfl
set_option maxRecDepth 20000 in
theorem flX5_99 : Cond.fieldLink RX5 99 "AttributeHouse$Stores" "variableOf" "[I" ∈ gw := gw_t1 211 rfl rfl
set_option maxRecDepth 20000 in
theorem flX6_9 : Cond.fieldLink RX6 9 "AttributeHouse$Scanner" "kinds" "[I" ∈ gw := gw_t1 67 rfl rfl
set_option maxRecDepth 20000 in
theorem flX6_15 : Cond.fieldLink RX6 15 "AttributeHouse$Scanner" "places" "[I" ∈ gw := gw_t1 68 rfl rfl
set_option maxRecDepth 20000 in
theorem flX6_18 : Cond.fieldLink RX6 18 "AttributeHouse$Scanner" "contents" "[J" ∈ gw := gw_t1 69 rfl rfl
set_option maxRecDepth 20000 in
theorem flX6_22 : Cond.fieldLink RX6 22 "AttributeHouse$Scanner" "text" "LAttributeHouse$Text;" ∈ gw := gw_t1 66 rfl rfl
set_option maxRecDepth 20000 in
theorem flX6_26 : Cond.fieldLink RX6 26 "AttributeHouse$Scanner" "tokens" "I" ∈ gw := gw_t1 70 rfl rfl
set_option maxRecDepth 20000 in
theorem flX6_37 : Cond.fieldLink RX6 37 "AttributeHouse$Scanner" "at" "I" ∈ gw := gw_t1 71 rfl rfl
set_option maxRecDepth 20000 in
theorem flX6_43 : Cond.fieldLink RX6 43 "AttributeHouse$Scanner" "kind" "I" ∈ gw := gw_t1 73 rfl rfl
set_option maxRecDepth 20000 in
theorem flX6_46 : Cond.fieldLink RX6 46 "AttributeHouse$Scanner" "place" "I" ∈ gw := gw_t1 77 rfl rfl
set_option maxRecDepth 20000 in
theorem flX6_49 : Cond.fieldLink RX6 49 "AttributeHouse$Scanner" "number" "I" ∈ gw := gw_t1 78 rfl rfl
set_option maxRecDepth 20000 in
theorem flX6_52 : Cond.fieldLink RX6 52 "AttributeHouse$Scanner" "name" "J" ∈ gw := gw_t1 82 rfl rfl
set_option maxRecDepth 20000 in
theorem flX6_56 : Cond.fieldLink RX6 56 "AttributeHouse$Text" "length" "I" ∈ gw := gw_t1 53 rfl rfl
set_option maxRecDepth 20000 in
theorem flX6_61 : Cond.fieldLink RX6 61 "AttributeHouse$Text" "signs" "[C" ∈ gw := gw_t1 50 rfl rfl
set_option maxRecDepth 20000 in
theorem flX7_9 : Cond.fieldLink RX7 9 "AttributeHouse$Stores" "defines" "[I" ∈ gw := gw_t1 206 rfl rfl
set_option maxRecDepth 20000 in
theorem flX7_15 : Cond.fieldLink RX7 15 "AttributeHouse$Stores" "kinds" "[I" ∈ gw := gw_t1 207 rfl rfl
set_option maxRecDepth 20000 in
theorem flX7_18 : Cond.fieldLink RX7 18 "AttributeHouse$Stores" "variableOf" "[I" ∈ gw := gw_t1 210 rfl rfl
set_option maxRecDepth 20000 in
theorem flX7_21 : Cond.fieldLink RX7 21 "AttributeHouse$Stores" "plans" "LAttributeHouse$Plans;" ∈ gw := gw_t1 204 rfl rfl
set_option maxRecDepth 20000 in
theorem flX7_25 : Cond.fieldLink RX7 25 "AttributeHouse$Stores" "grammar" "LAttributeHouse$Grammar;" ∈ gw := gw_t1 205 rfl rfl
set_option maxRecDepth 20000 in
theorem flX7_29 : Cond.fieldLink RX7 29 "AttributeHouse$Stores" "variables" "I" ∈ gw := gw_t1 212 rfl rfl
set_option maxRecDepth 20000 in
theorem flX7_36 : Cond.fieldLink RX7 36 "AttributeHouse$Grammar" "symbols" "I" ∈ gw := gw_t2 87 rfl rfl
set_option maxRecDepth 20000 in
theorem flX7_41 : Cond.fieldLink RX7 41 "AttributeHouse$Grammar" "attributes" "[I" ∈ gw := gw_t2 93 rfl rfl
set_option maxRecDepth 20000 in
theorem flX7_48 : Cond.fieldLink RX7 48 "AttributeHouse$Grammar" "right" "[I" ∈ gw := gw_t2 110 rfl rfl
set_option maxRecDepth 20000 in
theorem flX7_67 : Cond.fieldLink RX7 67 "AttributeHouse$Grammar" "productions" "I" ∈ gw := gw_t2 105 rfl rfl
set_option maxRecDepth 20000 in
theorem flX7_74 : Cond.fieldLink RX7 74 "AttributeHouse$Grammar" "visits" "[I" ∈ gw := gw_t2 151 rfl rfl
set_option maxRecDepth 20000 in
theorem flX7_82 : Cond.fieldLink RX7 82 "AttributeHouse$Plans" "headVisit" "[I" ∈ gw := gw_t1 164 rfl rfl
set_option maxRecDepth 20000 in
theorem flX7_95 : Cond.fieldLink RX7 95 "AttributeHouse$Plans" "madeVisit" "[I" ∈ gw := gw_t1 166 rfl rfl
set_option maxRecDepth 20000 in
theorem flX7_142 : Cond.fieldLink RX7 142 "AttributeHouse$Grammar" "named" "[I" ∈ gw := gw_t2 127 rfl rfl
set_option maxRecDepth 20000 in
theorem flX8_9 : Cond.fieldLink RX8 9 "AttributeHouse$Text" "signs" "[C" ∈ gw := gw_t1 49 rfl rfl
set_option maxRecDepth 20000 in
theorem flX8_15 : Cond.fieldLink RX8 15 "AttributeHouse$Text" "length" "I" ∈ gw := gw_t1 52 rfl rfl
set_option maxRecDepth 20000 in
theorem flX9_9 : Cond.fieldLink RX9 9 "AttributeHouse$Tree" "production" "[I" ∈ gw := gw_t2 205 rfl rfl
set_option maxRecDepth 20000 in
theorem flX9_15 : Cond.fieldLink RX9 15 "AttributeHouse$Tree" "parent" "[I" ∈ gw := gw_t2 209 rfl rfl
set_option maxRecDepth 20000 in
theorem flX9_18 : Cond.fieldLink RX9 18 "AttributeHouse$Tree" "literal" "[I" ∈ gw := gw_t2 212 rfl rfl
set_option maxRecDepth 20000 in
theorem flX9_21 : Cond.fieldLink RX9 21 "AttributeHouse$Tree" "children" "[I" ∈ gw := gw_t2 216 rfl rfl
set_option maxRecDepth 20000 in
theorem flX9_24 : Cond.fieldLink RX9 24 "AttributeHouse$Tree" "child" "[I" ∈ gw := gw_t2 218 rfl rfl
set_option maxRecDepth 20000 in
theorem flX9_27 : Cond.fieldLink RX9 27 "AttributeHouse$Tree" "nodes" "I" ∈ gw := gw_t2 202 rfl rfl
set_option maxRecDepth 20000 in
theorem flX10_9 : Cond.fieldLink RX10 9 "AttributeHouse$TreeReader" "scanner" "LAttributeHouse$Scanner;" ∈ gw := gw_t1 132 rfl rfl
set_option maxRecDepth 20000 in
theorem flX10_15 : Cond.fieldLink RX10 15 "AttributeHouse$TreeReader" "grammar" "LAttributeHouse$Grammar;" ∈ gw := gw_t1 133 rfl rfl
set_option maxRecDepth 20000 in
theorem flX10_19 : Cond.fieldLink RX10 19 "AttributeHouse$TreeReader" "tree" "LAttributeHouse$Tree;" ∈ gw := gw_t1 134 rfl rfl
set_option maxRecDepth 20000 in
theorem flX10_23 : Cond.fieldLink RX10 23 "AttributeHouse$Tree" "nodes" "I" ∈ gw := gw_t2 203 rfl rfl
set_option maxRecDepth 20000 in
theorem flX10_38 : Cond.fieldLink RX10 38 "AttributeHouse$Scanner" "place" "I" ∈ gw := gw_t1 75 rfl rfl
set_option maxRecDepth 20000 in
theorem flX10_41 : Cond.fieldLink RX10 41 "AttributeHouse$TreeReader" "above" "I" ∈ gw := gw_t1 135 rfl rfl
set_option maxRecDepth 20000 in
theorem flX10_47 : Cond.fieldLink RX10 47 "AttributeHouse$Grammar" "right" "[I" ∈ gw := gw_t2 109 rfl rfl
set_option maxRecDepth 20000 in
theorem flX10_53 : Cond.fieldLink RX10 53 "AttributeHouse$Tree" "production" "[I" ∈ gw := gw_t2 206 rfl rfl
set_option maxRecDepth 20000 in
theorem flX10_63 : Cond.fieldLink RX10 63 "AttributeHouse$Scanner" "kind" "I" ∈ gw := gw_t1 74 rfl rfl
set_option maxRecDepth 20000 in
theorem flX10_66 : Cond.fieldLink RX10 66 "AttributeHouse$Tree" "children" "[I" ∈ gw := gw_t2 217 rfl rfl
set_option maxRecDepth 20000 in
theorem flX10_73 : Cond.fieldLink RX10 73 "AttributeHouse$Scanner" "name" "J" ∈ gw := gw_t1 83 rfl rfl
set_option maxRecDepth 20000 in
theorem flX10_88 : Cond.fieldLink RX10 88 "AttributeHouse$Grammar" "literal" "[Z" ∈ gw := gw_t2 117 rfl rfl
set_option maxRecDepth 20000 in
theorem flX10_95 : Cond.fieldLink RX10 95 "AttributeHouse$Tree" "literal" "[I" ∈ gw := gw_t2 213 rfl rfl
set_option maxRecDepth 20000 in
theorem flX10_97 : Cond.fieldLink RX10 97 "AttributeHouse$Scanner" "number" "I" ∈ gw := gw_t1 79 rfl rfl
set_option maxRecDepth 20000 in
theorem flX10_100 : Cond.fieldLink RX10 100 "AttributeHouse$Tree" "parent" "[I" ∈ gw := gw_t2 210 rfl rfl
set_option maxRecDepth 20000 in
theorem flX12_7 : Cond.fieldLink RX12 7 "AttributeHouseModel" "signs" "[I" ∈ gw := gw_t8 65 rfl rfl
set_option maxRecDepth 20000 in
theorem flX12_13 : Cond.fieldLink RX12 13 "AttributeHouseModel" "words" "[J" ∈ gw := gw_t8 67 rfl rfl
set_option maxRecDepth 20000 in
theorem flX12_17 : Cond.fieldLink RX12 17 "AttributeHouseModel" "kept" "[I" ∈ gw := gw_t8 69 rfl rfl
set_option maxRecDepth 20000 in
theorem flX12_20 : Cond.fieldLink RX12 20 "AttributeHouseModel" "text" "[I" ∈ gw := gw_t8 71 rfl rfl
set_option maxRecDepth 20000 in
theorem flX12_23 : Cond.fieldLink RX12 23 "AttributeHouseModel" "symbolNames" "[I" ∈ gw := gw_t8 74 rfl rfl
set_option maxRecDepth 20000 in
theorem flX12_26 : Cond.fieldLink RX12 26 "AttributeHouseModel" "attributeNames" "[I" ∈ gw := gw_t8 75 rfl rfl
set_option maxRecDepth 20000 in
theorem flX12_29 : Cond.fieldLink RX12 29 "AttributeHouseModel" "counts" "[I" ∈ gw := gw_t8 76 rfl rfl
set_option maxRecDepth 20000 in
theorem flX12_32 : Cond.fieldLink RX12 32 "AttributeHouseModel" "downs" "[I" ∈ gw := gw_t8 77 rfl rfl
set_option maxRecDepth 20000 in
theorem flX12_35 : Cond.fieldLink RX12 35 "AttributeHouseModel" "productionNames" "[I" ∈ gw := gw_t8 79 rfl rfl
set_option maxRecDepth 20000 in
theorem flX12_38 : Cond.fieldLink RX12 38 "AttributeHouseModel" "literals" "[Z" ∈ gw := gw_t8 80 rfl rfl
set_option maxRecDepth 20000 in
theorem flX12_42 : Cond.fieldLink RX12 42 "AttributeHouseModel" "lengths" "[I" ∈ gw := gw_t8 81 rfl rfl
set_option maxRecDepth 20000 in
theorem flX12_45 : Cond.fieldLink RX12 45 "AttributeHouseModel" "occurrences" "[I" ∈ gw := gw_t8 82 rfl rfl
set_option maxRecDepth 20000 in
theorem flX12_48 : Cond.fieldLink RX12 48 "AttributeHouseModel" "ruleFrom" "[I" ∈ gw := gw_t8 83 rfl rfl
set_option maxRecDepth 20000 in
theorem flX12_51 : Cond.fieldLink RX12 51 "AttributeHouseModel" "ruleTo" "[I" ∈ gw := gw_t8 84 rfl rfl
set_option maxRecDepth 20000 in
theorem flX12_54 : Cond.fieldLink RX12 54 "AttributeHouseModel" "code" "[I" ∈ gw := gw_t8 86 rfl rfl
set_option maxRecDepth 20000 in
theorem flX12_57 : Cond.fieldLink RX12 57 "AttributeHouseModel" "codeValue" "[I" ∈ gw := gw_t8 87 rfl rfl
set_option maxRecDepth 20000 in
theorem flX12_60 : Cond.fieldLink RX12 60 "AttributeHouseModel" "idp" "[J" ∈ gw := gw_t8 88 rfl rfl
set_option maxRecDepth 20000 in
theorem flX12_63 : Cond.fieldLink RX12 63 "AttributeHouseModel" "ids" "[J" ∈ gw := gw_t8 89 rfl rfl
set_option maxRecDepth 20000 in
theorem flX12_66 : Cond.fieldLink RX12 66 "AttributeHouseModel" "levels" "[I" ∈ gw := gw_t8 90 rfl rfl
set_option maxRecDepth 20000 in
theorem flX12_69 : Cond.fieldLink RX12 69 "AttributeHouseModel" "visits" "[I" ∈ gw := gw_t8 91 rfl rfl
set_option maxRecDepth 20000 in
theorem flX12_72 : Cond.fieldLink RX12 72 "AttributeHouseModel" "entry" "[I" ∈ gw := gw_t8 93 rfl rfl
set_option maxRecDepth 20000 in
theorem flX12_75 : Cond.fieldLink RX12 75 "AttributeHouseModel" "planFrom" "[I" ∈ gw := gw_t8 94 rfl rfl
set_option maxRecDepth 20000 in
theorem flX12_78 : Cond.fieldLink RX12 78 "AttributeHouseModel" "planTo" "[I" ∈ gw := gw_t8 95 rfl rfl
set_option maxRecDepth 20000 in
theorem flX12_81 : Cond.fieldLink RX12 81 "AttributeHouseModel" "ruleVisit" "[I" ∈ gw := gw_t8 96 rfl rfl
set_option maxRecDepth 20000 in
theorem flX12_84 : Cond.fieldLink RX12 84 "AttributeHouseModel" "ruleEntry" "[I" ∈ gw := gw_t8 97 rfl rfl
set_option maxRecDepth 20000 in
theorem flX12_87 : Cond.fieldLink RX12 87 "AttributeHouseModel" "callVisit" "[I" ∈ gw := gw_t8 98 rfl rfl
set_option maxRecDepth 20000 in
theorem flX12_90 : Cond.fieldLink RX12 90 "AttributeHouseModel" "callEntry" "[I" ∈ gw := gw_t8 99 rfl rfl
set_option maxRecDepth 20000 in
theorem flX12_93 : Cond.fieldLink RX12 93 "AttributeHouseModel" "come" "[Z" ∈ gw := gw_t8 100 rfl rfl
set_option maxRecDepth 20000 in
theorem flX12_96 : Cond.fieldLink RX12 96 "AttributeHouseModel" "visited" "[I" ∈ gw := gw_t8 101 rfl rfl
set_option maxRecDepth 20000 in
theorem flX12_99 : Cond.fieldLink RX12 99 "AttributeHouseModel" "defines" "[Z" ∈ gw := gw_t8 102 rfl rfl
set_option maxRecDepth 20000 in
theorem flX12_102 : Cond.fieldLink RX12 102 "AttributeHouseModel" "stores" "[I" ∈ gw := gw_t8 103 rfl rfl
set_option maxRecDepth 20000 in
theorem flX12_105 : Cond.fieldLink RX12 105 "AttributeHouseModel" "frameKinds" "[I" ∈ gw := gw_t8 110 rfl rfl
set_option maxRecDepth 20000 in
theorem flX12_108 : Cond.fieldLink RX12 108 "AttributeHouseModel" "compared" "[Z" ∈ gw := gw_t8 111 rfl rfl
set_option maxRecDepth 20000 in
theorem flX12_111 : Cond.fieldLink RX12 111 "AttributeHouseModel" "frameBase" "[I" ∈ gw := gw_t8 112 rfl rfl
set_option maxRecDepth 20000 in
theorem flX12_114 : Cond.fieldLink RX12 114 "AttributeHouseModel" "waits" "[I" ∈ gw := gw_t8 114 rfl rfl
set_option maxRecDepth 20000 in
theorem flX12_117 : Cond.fieldLink RX12 117 "AttributeHouseModel" "rules" "[I" ∈ gw := gw_t8 118 rfl rfl
set_option maxRecDepth 20000 in
theorem flX12_120 : Cond.fieldLink RX12 120 "AttributeHouseModel" "parents" "[I" ∈ gw := gw_t8 119 rfl rfl
set_option maxRecDepth 20000 in
theorem flX12_123 : Cond.fieldLink RX12 123 "AttributeHouseModel" "places" "[I" ∈ gw := gw_t8 120 rfl rfl
set_option maxRecDepth 20000 in
theorem flX12_126 : Cond.fieldLink RX12 126 "AttributeHouseModel" "numbers" "[I" ∈ gw := gw_t8 121 rfl rfl
set_option maxRecDepth 20000 in
theorem flX12_129 : Cond.fieldLink RX12 129 "AttributeHouseModel" "children" "[I" ∈ gw := gw_t8 122 rfl rfl
set_option maxRecDepth 20000 in
theorem flX12_132 : Cond.fieldLink RX12 132 "AttributeHouseModel" "newRules" "[I" ∈ gw := gw_t8 124 rfl rfl
set_option maxRecDepth 20000 in
theorem flX12_135 : Cond.fieldLink RX12 135 "AttributeHouseModel" "newParents" "[I" ∈ gw := gw_t8 125 rfl rfl
set_option maxRecDepth 20000 in
theorem flX12_138 : Cond.fieldLink RX12 138 "AttributeHouseModel" "newPlaces" "[I" ∈ gw := gw_t8 126 rfl rfl
set_option maxRecDepth 20000 in
theorem flX12_141 : Cond.fieldLink RX12 141 "AttributeHouseModel" "newNumbers" "[I" ∈ gw := gw_t8 127 rfl rfl
set_option maxRecDepth 20000 in
theorem flX12_144 : Cond.fieldLink RX12 144 "AttributeHouseModel" "openNodes" "[I" ∈ gw := gw_t8 129 rfl rfl
set_option maxRecDepth 20000 in
theorem flX12_147 : Cond.fieldLink RX12 147 "AttributeHouseModel" "openCounts" "[I" ∈ gw := gw_t8 130 rfl rfl
set_option maxRecDepth 20000 in
theorem flX12_150 : Cond.fieldLink RX12 150 "AttributeHouseModel" "values" "[I" ∈ gw := gw_t8 131 rfl rfl
set_option maxRecDepth 20000 in
theorem flX12_153 : Cond.fieldLink RX12 153 "AttributeHouseModel" "known" "[Z" ∈ gw := gw_t8 132 rfl rfl
set_option maxRecDepth 20000 in
theorem flX12_156 : Cond.fieldLink RX12 156 "AttributeHouseModel" "wrong" "[Z" ∈ gw := gw_t8 133 rfl rfl
set_option maxRecDepth 20000 in
theorem flX12_159 : Cond.fieldLink RX12 159 "AttributeHouseModel" "oldValues" "[I" ∈ gw := gw_t8 134 rfl rfl
set_option maxRecDepth 20000 in
theorem flX12_162 : Cond.fieldLink RX12 162 "AttributeHouseModel" "oldWrong" "[Z" ∈ gw := gw_t8 135 rfl rfl
set_option maxRecDepth 20000 in
theorem flX12_165 : Cond.fieldLink RX12 165 "AttributeHouseModel" "stack" "[I" ∈ gw := gw_t8 136 rfl rfl
set_option maxRecDepth 20000 in
theorem flX12_168 : Cond.fieldLink RX12 168 "AttributeHouseModel" "bad" "[Z" ∈ gw := gw_t8 137 rfl rfl
set_option maxRecDepth 20000 in
theorem flX12_171 : Cond.fieldLink RX12 171 "AttributeHouseModel" "kinds" "[I" ∈ gw := gw_t8 139 rfl rfl
set_option maxRecDepth 20000 in
theorem flX12_174 : Cond.fieldLink RX12 174 "AttributeHouseModel" "operands" "[I" ∈ gw := gw_t8 140 rfl rfl
set_option maxRecDepth 20000 in
theorem flX12_177 : Cond.fieldLink RX12 177 "AttributeHouseModel" "starts" "[I" ∈ gw := gw_t8 141 rfl rfl
set_option maxRecDepth 20000 in
theorem flX12_180 : Cond.fieldLink RX12 180 "AttributeHouseModel" "begins" "[I" ∈ gw := gw_t8 142 rfl rfl
set_option maxRecDepth 20000 in
theorem flX12_183 : Cond.fieldLink RX12 183 "AttributeHouseModel" "middle" "[I" ∈ gw := gw_t8 143 rfl rfl
set_option maxRecDepth 20000 in
theorem flX12_186 : Cond.fieldLink RX12 186 "AttributeHouseModel" "last" "[I" ∈ gw := gw_t8 144 rfl rfl
set_option maxRecDepth 20000 in
theorem flX12_189 : Cond.fieldLink RX12 189 "AttributeHouseModel" "tests" "[I" ∈ gw := gw_t8 145 rfl rfl
set_option maxRecDepth 20000 in
theorem flX12_192 : Cond.fieldLink RX12 192 "AttributeHouseModel" "jumps" "[I" ∈ gw := gw_t8 146 rfl rfl
set_option maxRecDepth 20000 in
theorem flX12_195 : Cond.fieldLink RX12 195 "AttributeHouseModel" "underWay" "[I" ∈ gw := gw_t8 151 rfl rfl
set_option maxRecDepth 20000 in
theorem flX12_198 : Cond.fieldLink RX12 198 "AttributeHouseModel" "backTo" "[I" ∈ gw := gw_t8 152 rfl rfl
set_option maxRecDepth 20000 in
theorem flX12_201 : Cond.fieldLink RX12 201 "AttributeHouseModel" "visitsOf" "[I" ∈ gw := gw_t8 153 rfl rfl
set_option maxRecDepth 20000 in
theorem flX12_204 : Cond.fieldLink RX12 204 "AttributeHouseModel" "pile" "[I" ∈ gw := gw_t8 155 rfl rfl
set_option maxRecDepth 20000 in
theorem flX12_207 : Cond.fieldLink RX12 207 "AttributeHouseModel" "pileBad" "[Z" ∈ gw := gw_t8 156 rfl rfl
set_option maxRecDepth 20000 in
theorem flX12_210 : Cond.fieldLink RX12 210 "AttributeHouseModel" "alone" "[I" ∈ gw := gw_t8 157 rfl rfl
set_option maxRecDepth 20000 in
theorem flX12_213 : Cond.fieldLink RX12 213 "AttributeHouseModel" "aloneBad" "[Z" ∈ gw := gw_t8 158 rfl rfl
set_option maxRecDepth 20000 in
theorem flX12_216 : Cond.fieldLink RX12 216 "AttributeHouseModel" "held" "[I" ∈ gw := gw_t8 159 rfl rfl
set_option maxRecDepth 20000 in
theorem flX12_219 : Cond.fieldLink RX12 219 "AttributeHouseModel" "heldBad" "[Z" ∈ gw := gw_t8 160 rfl rfl
set_option maxRecDepth 20000 in
theorem flX12_234 : Cond.fieldLink RX12 234 "AttributeHouseModel" "thrown" "I" ∈ gw := gw_t8 64 rfl rfl
set_option maxRecDepth 20000 in
theorem flX12_242 : Cond.fieldLink RX12 242 "AttributeHouseModel" "size" "I" ∈ gw := gw_t8 66 rfl rfl
set_option maxRecDepth 20000 in
theorem flX12_249 : Cond.fieldLink RX12 249 "AttributeHouseModel" "textSize" "I" ∈ gw := gw_t8 72 rfl rfl
set_option maxRecDepth 20000 in
theorem flX12_252 : Cond.fieldLink RX12 252 "AttributeHouseModel" "tokenAt" "I" ∈ gw := gw_t8 105 rfl rfl
set_option maxRecDepth 20000 in
theorem flX12_255 : Cond.fieldLink RX12 255 "AttributeHouseModel" "tokenEnd" "I" ∈ gw := gw_t8 106 rfl rfl
set_option maxRecDepth 20000 in
theorem flX12_264 : Cond.fieldLink RX12 264 "AttributeHouseModel" "tokenWord" "I" ∈ gw := gw_t8 107 rfl rfl
set_option maxRecDepth 20000 in
theorem flX12_267 : Cond.fieldLink RX12 267 "AttributeHouseModel" "token" "I" ∈ gw := gw_t8 104 rfl rfl
set_option maxRecDepth 20000 in
theorem flX12_284 : Cond.fieldLink RX12 284 "AttributeHouseModel" "fault" "I" ∈ gw := gw_t8 108 rfl rfl
set_option maxRecDepth 20000 in
theorem flX12_306 : Cond.fieldLink RX12 306 "AttributeHouseModel" "symbols" "I" ∈ gw := gw_t8 73 rfl rfl
set_option maxRecDepth 20000 in
theorem flX12_316 : Cond.fieldLink RX12 316 "AttributeHouseModel" "productions" "I" ∈ gw := gw_t8 78 rfl rfl
set_option maxRecDepth 20000 in
theorem flX12_338 : Cond.fieldLink RX12 338 "AttributeHouseModel" "codes" "I" ∈ gw := gw_t8 85 rfl rfl
set_option maxRecDepth 20000 in
theorem flX12_344 : Cond.fieldLink RX12 344 "AttributeHouseModel" "frames" "I" ∈ gw := gw_t8 109 rfl rfl
set_option maxRecDepth 20000 in
theorem flX12_347 : Cond.fieldLink RX12 347 "AttributeHouseModel" "waiting" "I" ∈ gw := gw_t8 113 rfl rfl
set_option maxRecDepth 20000 in
theorem flX12_357 : Cond.fieldLink RX12 357 "AttributeHouseModel" "deep" "I" ∈ gw := gw_t8 115 rfl rfl
set_option maxRecDepth 20000 in
theorem flX12_439 : Cond.fieldLink RX12 439 "AttributeHouseModel" "entries" "I" ∈ gw := gw_t8 92 rfl rfl
set_option maxRecDepth 20000 in
theorem flX12_452 : Cond.fieldLink RX12 452 "AttributeHouseModel" "hasGrammar" "Z" ∈ gw := gw_t8 68 rfl rfl
set_option maxRecDepth 20000 in
theorem flX12_489 : Cond.fieldLink RX12 489 "AttributeHouseModel" "keptSize" "I" ∈ gw := gw_t8 70 rfl rfl
set_option maxRecDepth 20000 in
theorem flX12_502 : Cond.fieldLink RX12 502 "AttributeHouseModel" "hasTree" "Z" ∈ gw := gw_t8 116 rfl rfl
set_option maxRecDepth 20000 in
theorem flX12_505 : Cond.fieldLink RX12 505 "AttributeHouseModel" "begun" "Z" ∈ gw := gw_t8 147 rfl rfl
set_option maxRecDepth 20000 in
theorem flX12_508 : Cond.fieldLink RX12 508 "AttributeHouseModel" "newNodes" "I" ∈ gw := gw_t8 123 rfl rfl
set_option maxRecDepth 20000 in
theorem flX12_511 : Cond.fieldLink RX12 511 "AttributeHouseModel" "open" "I" ∈ gw := gw_t8 128 rfl rfl
set_option maxRecDepth 20000 in
theorem flX12_521 : Cond.fieldLink RX12 521 "AttributeHouseModel" "nodes" "I" ∈ gw := gw_t8 117 rfl rfl
set_option maxRecDepth 20000 in
theorem flX12_551 : Cond.fieldLink RX12 551 "AttributeHouseModel" "instructions" "I" ∈ gw := gw_t8 138 rfl rfl
set_option maxRecDepth 20000 in
theorem flX12_575 : Cond.fieldLink RX12 575 "AttributeHouseModel" "at" "I" ∈ gw := gw_t8 148 rfl rfl
set_option maxRecDepth 20000 in
theorem flX12_578 : Cond.fieldLink RX12 578 "AttributeHouseModel" "did" "I" ∈ gw := gw_t8 149 rfl rfl
set_option maxRecDepth 20000 in
theorem flX12_581 : Cond.fieldLink RX12 581 "AttributeHouseModel" "piled" "I" ∈ gw := gw_t8 154 rfl rfl
set_option maxRecDepth 20000 in
theorem flX12_584 : Cond.fieldLink RX12 584 "AttributeHouseModel" "under" "I" ∈ gw := gw_t8 150 rfl rfl
set_option maxRecDepth 20000 in
theorem flJ0_9 : Cond.fieldLink RJ0 9 "java/lang/String" "value" "[B" ∈ gw := gw_t5 43 rfl rfl
set_option maxRecDepth 20000 in
theorem flJ0_15 : Cond.fieldLink RJ0 15 "java/lang/String" "coder" "B" ∈ gw := gw_t5 44 rfl rfl
set_option maxRecDepth 20000 in
theorem flJ0_38 : Cond.fieldLink RJ0 38 "java/lang/String" "COMPACT_STRINGS" "Z" ∈ gw := gw_t3 95 rfl rfl
set_option maxRecDepth 20000 in
theorem flJ0_1048 : Cond.fieldLink RJ0 1048 "java/lang/AbstractStringBuilder" "maybeLatin1" "Z" ∈ gw := gw_t4 83 rfl rfl
set_option maxRecDepth 20000 in
theorem flJ0_1053 : Cond.fieldLink RJ0 1053 "jdk/internal/util/Preconditions" "SIOOBE_FORMATTER" "Ljava/util/function/BiFunction;" ∈ gw := gw_t3 111 rfl rfl
set_option maxRecDepth 20000 in
theorem mlX11_5 : Cond.methodLink RX11 5 ⟨"java/lang/Object", "<init>", "()V"⟩ ∈ gw := gw_t1 40 rfl rfl
set_option maxRecDepth 20000 in
theorem mlX11_20 : Cond.methodLink RX11 20 yX6_init ∈ gw := gw_t1 62 rfl rfl
set_option maxRecDepth 20000 in
theorem mlX11_25 : Cond.methodLink RX11 25 yX1_init ∈ gw := gw_t1 109 rfl rfl
set_option maxRecDepth 20000 in
theorem mlX11_34 : Cond.methodLink RX11 34 yX10_init ∈ gw := gw_t1 128 rfl rfl
set_option maxRecDepth 20000 in
theorem mlX11_55 : Cond.methodLink RX11 55 yX7_init ∈ gw := gw_t1 200 rfl rfl
set_option maxRecDepth 20000 in
theorem mlX11_64 : Cond.methodLink RX11 64 yX5_init ∈ gw := gw_t1 229 rfl rfl
set_option maxRecDepth 20000 in
theorem mlX11_73 : Cond.methodLink RX11 73 yX2_init ∈ gw := gw_t2 26 rfl rfl
set_option maxRecDepth 20000 in
theorem mlX11_111 : Cond.methodLink RX11 111 yX8_allows ∈ gw := gw_t6 127 rfl rfl
set_option maxRecDepth 20000 in
theorem mlX11_117 : Cond.methodLink RX11 117 ⟨"java/lang/IllegalArgumentException", "<init>", "()V"⟩ ∈ gw := gw_t6 131 rfl rfl
set_option maxRecDepth 20000 in
theorem mlX11_124 : Cond.methodLink RX11 124 ⟨"java/lang/UnsupportedOperationException", "<init>", "()V"⟩ ∈ gw := gw_t6 150 rfl rfl
set_option maxRecDepth 20000 in
theorem mlX11_125 : Cond.methodLink RX11 125 yX8_append ∈ gw := gw_t6 156 rfl rfl
set_option maxRecDepth 20000 in
theorem mlX11_129 : Cond.methodLink RX11 129 yX1_read ∈ gw := gw_t3 51 rfl rfl
set_option maxRecDepth 20000 in
theorem mlX11_133 : Cond.methodLink RX11 133 yX3_induce ∈ gw := gw_t5 149 rfl rfl
set_option maxRecDepth 20000 in
theorem mlX11_137 : Cond.methodLink RX11 137 yX3_firstCircular ∈ gw := gw_t5 170 rfl rfl
set_option maxRecDepth 20000 in
theorem mlX11_140 : Cond.methodLink RX11 140 yX3_setLevels ∈ gw := gw_t5 178 rfl rfl
set_option maxRecDepth 20000 in
theorem mlX11_143 : Cond.methodLink RX11 143 yX3_firstCrossed ∈ gw := gw_t5 186 rfl rfl
set_option maxRecDepth 20000 in
theorem mlX11_146 : Cond.methodLink RX11 146 yX11_takeGrammar ∈ gw := gw_t5 197 rfl rfl
set_option maxRecDepth 20000 in
theorem mlX11_159 : Cond.methodLink RX11 159 yX4_make ∈ gw := gw_t5 201 rfl rfl
set_option maxRecDepth 20000 in
theorem mlX11_162 : Cond.methodLink RX11 162 yX7_find ∈ gw := gw_t5 239 rfl rfl
set_option maxRecDepth 20000 in
theorem mlX11_165 : Cond.methodLink RX11 165 yX5_assemble ∈ gw := gw_t6 76 rfl rfl
set_option maxRecDepth 20000 in
theorem mlX11_168 : Cond.methodLink RX11 168 yX11_needGrammar ∈ gw := gw_t6 175 rfl rfl
set_option maxRecDepth 20000 in
theorem mlX11_177 : Cond.methodLink RX11 177 yX11_needAttribute ∈ gw := gw_t6 201 rfl rfl
set_option maxRecDepth 20000 in
theorem mlX11_184 : Cond.methodLink RX11 184 yX11_needSymbol ∈ gw := gw_t6 205 rfl rfl
set_option maxRecDepth 20000 in
theorem mlX11_193 : Cond.methodLink RX11 193 yX11_needPlan ∈ gw := gw_t6 223 rfl rfl
set_option maxRecDepth 20000 in
theorem mlX11_196 : Cond.methodLink RX11 196 yX4_first ∈ gw := gw_t6 232 rfl rfl
set_option maxRecDepth 20000 in
theorem mlX11_206 : Cond.methodLink RX11 206 yX10_read ∈ gw := gw_t7 7 rfl rfl
set_option maxRecDepth 20000 in
theorem mlX11_209 : Cond.methodLink RX11 209 yX11_evaluate ∈ gw := gw_t7 36 rfl rfl
set_option maxRecDepth 20000 in
theorem mlX11_212 : Cond.methodLink RX11 212 yX11_needTree ∈ gw := gw_t7 109 rfl rfl
set_option maxRecDepth 20000 in
theorem mlX11_218 : Cond.methodLink RX11 218 yX11_countAttributes ∈ gw := gw_t7 113 rfl rfl
set_option maxRecDepth 20000 in
theorem mlX11_222 : Cond.methodLink RX11 222 yX11_countVisits ∈ gw := gw_t7 121 rfl rfl
set_option maxRecDepth 20000 in
theorem mlX11_225 : Cond.methodLink RX11 225 yX11_countErrors ∈ gw := gw_t7 125 rfl rfl
set_option maxRecDepth 20000 in
theorem mlX11_228 : Cond.methodLink RX11 228 yX11_countKept ∈ gw := gw_t7 130 rfl rfl
set_option maxRecDepth 20000 in
theorem mlX11_231 : Cond.methodLink RX11 231 yX11_highestFrames ∈ gw := gw_t7 135 rfl rfl
set_option maxRecDepth 20000 in
theorem mlX11_237 : Cond.methodLink RX11 237 yX11_needNode ∈ gw := gw_t7 153 rfl rfl
set_option maxRecDepth 20000 in
theorem mlX11_249 : Cond.methodLink RX11 249 yX11_symbolOf ∈ gw := gw_t7 117 rfl rfl
set_option maxRecDepth 20000 in
theorem mlX11_253 : Cond.methodLink RX11 253 yX11_needNodeAttribute ∈ gw := gw_t7 183 rfl rfl
set_option maxRecDepth 20000 in
theorem mlX11_259 : Cond.methodLink RX11 259 yX11_number ∈ gw := gw_t7 187 rfl rfl
set_option maxRecDepth 20000 in
theorem mlX11_266 : Cond.methodLink RX11 266 ⟨"java/lang/System", "arraycopy", "(Ljava/lang/Object;ILjava/lang/Object;II)V"⟩ ∈ gw := gw_t7 212 rfl rfl
set_option maxRecDepth 20000 in
theorem mlX11_272 : Cond.methodLink RX11 272 yX11_countChanged ∈ gw := gw_t7 213 rfl rfl
set_option maxRecDepth 20000 in
theorem mlX11_275 : Cond.methodLink RX11 275 yX11_needVisit ∈ gw := gw_t6 228 rfl rfl
set_option maxRecDepth 20000 in
theorem mlX11_278 : Cond.methodLink RX11 278 yX0_downs ∈ gw := gw_t7 224 rfl rfl
set_option maxRecDepth 20000 in
theorem mlX11_281 : Cond.methodLink RX11 281 yX0_ups ∈ gw := gw_t7 225 rfl rfl
set_option maxRecDepth 20000 in
theorem mlX11_285 : Cond.methodLink RX11 285 yX11_needIndex ∈ gw := gw_t7 157 rfl rfl
set_option maxRecDepth 20000 in
theorem mlX11_292 : Cond.methodLink RX11 292 yX5_first ∈ gw := gw_t8 0 rfl rfl
set_option maxRecDepth 20000 in
theorem mlX11_293 : Cond.methodLink RX11 293 yX2_restart ∈ gw := gw_t7 40 rfl rfl
set_option maxRecDepth 20000 in
theorem mlX11_300 : Cond.methodLink RX11 300 yX11_needMachine ∈ gw := gw_t8 15 rfl rfl
set_option maxRecDepth 20000 in
theorem mlX11_304 : Cond.methodLink RX11 304 yX2_run ∈ gw := gw_t7 57 rfl rfl
set_option maxRecDepth 20000 in
theorem mlX11_316 : Cond.methodLink RX11 316 yX2_lastNode ∈ gw := gw_t8 27 rfl rfl
set_option maxRecDepth 20000 in
theorem mlX11_325 : Cond.methodLink RX11 325 yX0_symbolAt ∈ gw := gw_t6 227 rfl rfl
set_option maxRecDepth 20000 in
theorem mlX11_333 : Cond.methodLink RX11 333 yX7_countAhead ∈ gw := gw_t7 134 rfl rfl
set_option maxRecDepth 20000 in
theorem mlX11_337 : Cond.methodLink RX11 337 yX7_frame ∈ gw := gw_t7 139 rfl rfl
set_option maxRecDepth 20000 in
theorem mlX11_340 : Cond.methodLink RX11 340 yJ9_max_7cf53 ∈ gw := gw_t7 144 rfl rfl
set_option maxRecDepth 20000 in
theorem mlX11_347 : Cond.methodLink RX11 347 ⟨"java/lang/ArithmeticException", "<init>", "()V"⟩ ∈ gw := gw_t7 199 rfl rfl
set_option maxRecDepth 20000 in
theorem mlX11_350 : Cond.methodLink RX11 350 ⟨"java/lang/IllegalStateException", "<init>", "()V"⟩ ∈ gw := gw_t6 188 rfl rfl
set_option maxRecDepth 20000 in
theorem mlX11_353 : Cond.methodLink RX11 353 ⟨"java/lang/IndexOutOfBoundsException", "<init>", "()V"⟩ ∈ gw := gw_t7 169 rfl rfl
set_option maxRecDepth 20000 in
theorem mlX0_3 : Cond.methodLink RX0 3 ⟨"java/lang/Object", "<init>", "()V"⟩ ∈ gw := gw_t2 85 rfl rfl
set_option maxRecDepth 20000 in
theorem mlX0_75 : Cond.methodLink RX0 75 yJ7_fill_fda19 ∈ gw := gw_t4 14 rfl rfl
set_option maxRecDepth 20000 in
theorem mlX0_81 : Cond.methodLink RX0 81 yX0_symbolAt ∈ gw := gw_t5 144 rfl rfl
set_option maxRecDepth 20000 in
theorem mlX0_85 : Cond.methodLink RX0 85 yX0_allOf ∈ gw := gw_t5 145 rfl rfl
set_option maxRecDepth 20000 in
theorem mlX0_89 : Cond.methodLink RX0 89 yX0_inVisit ∈ gw := gw_t5 215 rfl rfl
set_option maxRecDepth 20000 in
theorem mlX0_92 : Cond.methodLink RX0 92 yX0_visitOf ∈ gw := gw_t5 219 rfl rfl
set_option maxRecDepth 20000 in
theorem mlX1_3 : Cond.methodLink RX1 3 ⟨"java/lang/Object", "<init>", "()V"⟩ ∈ gw := gw_t1 112 rfl rfl
set_option maxRecDepth 20000 in
theorem mlX1_19 : Cond.methodLink RX1 19 yX0_clear ∈ gw := gw_t3 55 rfl rfl
set_option maxRecDepth 20000 in
theorem mlX1_24 : Cond.methodLink RX1 24 yX6_open ∈ gw := gw_t3 59 rfl rfl
set_option maxRecDepth 20000 in
theorem mlX1_29 : Cond.methodLink RX1 29 yX1_readSymbol ∈ gw := gw_t3 213 rfl rfl
set_option maxRecDepth 20000 in
theorem mlX1_37 : Cond.methodLink RX1 37 yX1_readProduction ∈ gw := gw_t4 2 rfl rfl
set_option maxRecDepth 20000 in
theorem mlX1_43 : Cond.methodLink RX1 43 yX6_take ∈ gw := gw_t3 217 rfl rfl
set_option maxRecDepth 20000 in
theorem mlX1_51 : Cond.methodLink RX1 51 yX0_findSymbol ∈ gw := gw_t3 221 rfl rfl
set_option maxRecDepth 20000 in
theorem mlX1_58 : Cond.methodLink RX1 58 yX0_addSymbol ∈ gw := gw_t3 225 rfl rfl
set_option maxRecDepth 20000 in
theorem mlX1_62 : Cond.methodLink RX1 62 yX6_advance ∈ gw := gw_t3 229 rfl rfl
set_option maxRecDepth 20000 in
theorem mlX1_65 : Cond.methodLink RX1 65 yX1_readAttributes ∈ gw := gw_t3 230 rfl rfl
set_option maxRecDepth 20000 in
theorem mlX1_73 : Cond.methodLink RX1 73 yX0_findAttribute ∈ gw := gw_t3 234 rfl rfl
set_option maxRecDepth 20000 in
theorem mlX1_77 : Cond.methodLink RX1 77 yX0_addAttribute ∈ gw := gw_t3 238 rfl rfl
set_option maxRecDepth 20000 in
theorem mlX1_81 : Cond.methodLink RX1 81 yX0_findProduction ∈ gw := gw_t4 6 rfl rfl
set_option maxRecDepth 20000 in
theorem mlX1_90 : Cond.methodLink RX1 90 yX0_addProduction ∈ gw := gw_t4 10 rfl rfl
set_option maxRecDepth 20000 in
theorem mlX1_93 : Cond.methodLink RX1 93 yX1_readOccurrence ∈ gw := gw_t5 76 rfl rfl
set_option maxRecDepth 20000 in
theorem mlX1_96 : Cond.methodLink RX1 96 yX1_readRight ∈ gw := gw_t5 80 rfl rfl
set_option maxRecDepth 20000 in
theorem mlX1_99 : Cond.methodLink RX1 99 yX1_readRule ∈ gw := gw_t5 84 rfl rfl
set_option maxRecDepth 20000 in
theorem mlX1_105 : Cond.methodLink RX1 105 yX0_definable ∈ gw := gw_t5 140 rfl rfl
set_option maxRecDepth 20000 in
theorem mlX1_119 : Cond.methodLink RX1 119 yX1_readSlot ∈ gw := gw_t5 88 rfl rfl
set_option maxRecDepth 20000 in
theorem mlX1_132 : Cond.methodLink RX1 132 yX1_readExpression ∈ gw := gw_t5 100 rfl rfl
set_option maxRecDepth 20000 in
theorem mlX1_144 : Cond.methodLink RX1 144 yX0_symbolAt ∈ gw := gw_t5 92 rfl rfl
set_option maxRecDepth 20000 in
theorem mlX1_148 : Cond.methodLink RX1 148 yX0_isDown ∈ gw := gw_t5 96 rfl rfl
set_option maxRecDepth 20000 in
theorem mlX1_152 : Cond.methodLink RX1 152 yX1_readChoice ∈ gw := gw_t5 104 rfl rfl
set_option maxRecDepth 20000 in
theorem mlX1_155 : Cond.methodLink RX1 155 yX1_readSum ∈ gw := gw_t5 112 rfl rfl
set_option maxRecDepth 20000 in
theorem mlX1_158 : Cond.methodLink RX1 158 yX0_emit ∈ gw := gw_t5 108 rfl rfl
set_option maxRecDepth 20000 in
theorem mlX1_164 : Cond.methodLink RX1 164 yX1_readProduct ∈ gw := gw_t5 116 rfl rfl
set_option maxRecDepth 20000 in
theorem mlX1_167 : Cond.methodLink RX1 167 yX1_readFactor ∈ gw := gw_t5 120 rfl rfl
set_option maxRecDepth 20000 in
theorem mlX1_170 : Cond.methodLink RX1 170 yX6_isAheadOfDot ∈ gw := gw_t5 124 rfl rfl
set_option maxRecDepth 20000 in
theorem mlX1_173 : Cond.methodLink RX1 173 yX1_readLeaf ∈ gw := gw_t5 128 rfl rfl
set_option maxRecDepth 20000 in
theorem mlX1_176 : Cond.methodLink RX1 176 yX1_readNegated ∈ gw := gw_t5 132 rfl rfl
set_option maxRecDepth 20000 in
theorem mlX1_179 : Cond.methodLink RX1 179 yX1_readBracket ∈ gw := gw_t5 136 rfl rfl
set_option maxRecDepth 20000 in
theorem mlX2_3 : Cond.methodLink RX2 3 ⟨"java/lang/Object", "<init>", "()V"⟩ ∈ gw := gw_t2 29 rfl rfl
set_option maxRecDepth 20000 in
theorem mlX2_47 : Cond.methodLink RX2 47 yJ7_fill_d0a16 ∈ gw := gw_t7 44 rfl rfl
set_option maxRecDepth 20000 in
theorem mlX2_53 : Cond.methodLink RX2 53 yJ7_fill_53178 ∈ gw := gw_t7 47 rfl rfl
set_option maxRecDepth 20000 in
theorem mlX2_66 : Cond.methodLink RX2 66 yX2_enter ∈ gw := gw_t7 48 rfl rfl
set_option maxRecDepth 20000 in
theorem mlX2_73 : Cond.methodLink RX2 73 yX2_perform ∈ gw := gw_t7 61 rfl rfl
set_option maxRecDepth 20000 in
theorem mlX2_82 : Cond.methodLink RX2 82 yX5_first ∈ gw := gw_t7 52 rfl rfl
set_option maxRecDepth 20000 in
theorem mlX2_93 : Cond.methodLink RX2 93 yX0_symbolAt ∈ gw := gw_t7 101 rfl rfl
set_option maxRecDepth 20000 in
theorem mlX2_102 : Cond.methodLink RX2 102 yX2_push ∈ gw := gw_t7 65 rfl rfl
set_option maxRecDepth 20000 in
theorem mlX2_109 : Cond.methodLink RX2 109 yX2_isVariable ∈ gw := gw_t7 69 rfl rfl
set_option maxRecDepth 20000 in
theorem mlX2_116 : Cond.methodLink RX2 116 yX2_keptAt ∈ gw := gw_t7 73 rfl rfl
set_option maxRecDepth 20000 in
theorem mlX2_119 : Cond.methodLink RX2 119 yX2_pop ∈ gw := gw_t7 81 rfl rfl
set_option maxRecDepth 20000 in
theorem mlX2_123 : Cond.methodLink RX2 123 yX2_operate ∈ gw := gw_t7 86 rfl rfl
set_option maxRecDepth 20000 in
theorem mlX2_127 : Cond.methodLink RX2 127 yX2_test ∈ gw := gw_t7 89 rfl rfl
set_option maxRecDepth 20000 in
theorem mlX2_130 : Cond.methodLink RX2 130 yX2_set ∈ gw := gw_t7 93 rfl rfl
set_option maxRecDepth 20000 in
theorem mlX2_134 : Cond.methodLink RX2 134 yX9_nodeAt ∈ gw := gw_t7 77 rfl rfl
set_option maxRecDepth 20000 in
theorem mlX2_137 : Cond.methodLink RX2 137 yX2_leave ∈ gw := gw_t7 97 rfl rfl
set_option maxRecDepth 20000 in
theorem mlX3_3 : Cond.methodLink RX3 3 ⟨"java/lang/Object", "<init>", "()V"⟩ ∈ gw := gw_t1 150 rfl rfl
set_option maxRecDepth 20000 in
theorem mlX3_24 : Cond.methodLink RX3 24 ⟨"java/lang/System", "arraycopy", "(Ljava/lang/Object;ILjava/lang/Object;II)V"⟩ ∈ gw := gw_t5 153 rfl rfl
set_option maxRecDepth 20000 in
theorem mlX3_33 : Cond.methodLink RX3 33 yJ7_fill_53178 ∈ gw := gw_t5 154 rfl rfl
set_option maxRecDepth 20000 in
theorem mlX3_39 : Cond.methodLink RX3 39 yX3_addInduced ∈ gw := gw_t5 157 rfl rfl
set_option maxRecDepth 20000 in
theorem mlX3_43 : Cond.methodLink RX3 43 yX3_close ∈ gw := gw_t5 162 rfl rfl
set_option maxRecDepth 20000 in
theorem mlX3_46 : Cond.methodLink RX3 46 yX3_collectInduced ∈ gw := gw_t5 166 rfl rfl
set_option maxRecDepth 20000 in
theorem mlX3_50 : Cond.methodLink RX3 50 yX3_hasCircle ∈ gw := gw_t5 174 rfl rfl
set_option maxRecDepth 20000 in
theorem mlX3_54 : Cond.methodLink RX3 54 yX3_addLevels ∈ gw := gw_t5 190 rfl rfl
set_option maxRecDepth 20000 in
theorem mlX3_60 : Cond.methodLink RX3 60 yX0_allOf ∈ gw := gw_t5 182 rfl rfl
set_option maxRecDepth 20000 in
theorem mlX3_67 : Cond.methodLink RX3 67 yX3_choose ∈ gw := gw_t5 183 rfl rfl
set_option maxRecDepth 20000 in
theorem mlX3_83 : Cond.methodLink RX3 83 yX0_symbolAt ∈ gw := gw_t5 161 rfl rfl
set_option maxRecDepth 20000 in
theorem mlX3_87 : Cond.methodLink RX3 87 yX3_atLevel ∈ gw := gw_t5 194 rfl rfl
set_option maxRecDepth 20000 in
theorem mlX4_3 : Cond.methodLink RX4 3 ⟨"java/lang/Object", "<init>", "()V"⟩ ∈ gw := gw_t1 160 rfl rfl
set_option maxRecDepth 20000 in
theorem mlX4_46 : Cond.methodLink RX4 46 yX4_makeAll ∈ gw := gw_t5 205 rfl rfl
set_option maxRecDepth 20000 in
theorem mlX4_50 : Cond.methodLink RX4 50 yX4_isVisit ∈ gw := gw_t6 24 rfl rfl
set_option maxRecDepth 20000 in
theorem mlX4_54 : Cond.methodLink RX4 54 yX0_symbolAt ∈ gw := gw_t5 209 rfl rfl
set_option maxRecDepth 20000 in
theorem mlX4_64 : Cond.methodLink RX4 64 yJ7_fill_53178 ∈ gw := gw_t5 210 rfl rfl
set_option maxRecDepth 20000 in
theorem mlX4_73 : Cond.methodLink RX4 73 yX0_downs ∈ gw := gw_t5 211 rfl rfl
set_option maxRecDepth 20000 in
theorem mlX4_76 : Cond.methodLink RX4 76 yX4_evaluateReady ∈ gw := gw_t5 223 rfl rfl
set_option maxRecDepth 20000 in
theorem mlX4_80 : Cond.methodLink RX4 80 yX4_visitReady ∈ gw := gw_t5 231 rfl rfl
set_option maxRecDepth 20000 in
theorem mlX4_89 : Cond.methodLink RX4 89 yX4_add ∈ gw := gw_t5 227 rfl rfl
set_option maxRecDepth 20000 in
theorem mlX4_96 : Cond.methodLink RX4 96 yX0_ups ∈ gw := gw_t5 235 rfl rfl
set_option maxRecDepth 20000 in
theorem mlX5_3 : Cond.methodLink RX5 3 ⟨"java/lang/Object", "<init>", "()V"⟩ ∈ gw := gw_t1 232 rfl rfl
set_option maxRecDepth 20000 in
theorem mlX5_48 : Cond.methodLink RX5 48 yX0_symbolAt ∈ gw := gw_t6 80 rfl rfl
set_option maxRecDepth 20000 in
theorem mlX5_52 : Cond.methodLink RX5 52 yX4_first ∈ gw := gw_t6 81 rfl rfl
set_option maxRecDepth 20000 in
theorem mlX5_57 : Cond.methodLink RX5 57 yX5_addEntry ∈ gw := gw_t6 82 rfl rfl
set_option maxRecDepth 20000 in
theorem mlX5_61 : Cond.methodLink RX5 61 yX5_add ∈ gw := gw_t6 88 rfl rfl
set_option maxRecDepth 20000 in
theorem mlX5_65 : Cond.methodLink RX5 65 yX4_occurrenceOf ∈ gw := gw_t6 86 rfl rfl
set_option maxRecDepth 20000 in
theorem mlX5_69 : Cond.methodLink RX5 69 yX4_isVisit ∈ gw := gw_t6 87 rfl rfl
set_option maxRecDepth 20000 in
theorem mlX5_73 : Cond.methodLink RX5 73 yX4_attributeOf ∈ gw := gw_t6 92 rfl rfl
set_option maxRecDepth 20000 in
theorem mlX5_76 : Cond.methodLink RX5 76 yX5_addExpression ∈ gw := gw_t6 93 rfl rfl
set_option maxRecDepth 20000 in
theorem mlX5_79 : Cond.methodLink RX5 79 yX5_getKind ∈ gw := gw_t6 97 rfl rfl
set_option maxRecDepth 20000 in
theorem mlX5_82 : Cond.methodLink RX5 82 yX5_getNumber ∈ gw := gw_t6 105 rfl rfl
set_option maxRecDepth 20000 in
theorem mlX5_96 : Cond.methodLink RX5 96 yX5_attributeAt ∈ gw := gw_t6 101 rfl rfl
set_option maxRecDepth 20000 in
theorem mlX5_102 : Cond.methodLink RX5 102 yX7_frameAhead ∈ gw := gw_t6 109 rfl rfl
set_option maxRecDepth 20000 in
theorem mlX5_105 : Cond.methodLink RX5 105 yX7_countAhead ∈ gw := gw_t6 117 rfl rfl
set_option maxRecDepth 20000 in
theorem mlX6_3 : Cond.methodLink RX6 3 ⟨"java/lang/Object", "<init>", "()V"⟩ ∈ gw := gw_t1 65 rfl rfl
set_option maxRecDepth 20000 in
theorem mlX6_30 : Cond.methodLink RX6 30 yX6_skipBlanks ∈ gw := gw_t3 63 rfl rfl
set_option maxRecDepth 20000 in
theorem mlX6_34 : Cond.methodLink RX6 34 yX6_scan ∈ gw := gw_t3 67 rfl rfl
set_option maxRecDepth 20000 in
theorem mlX6_40 : Cond.methodLink RX6 40 yX6_advance ∈ gw := gw_t3 209 rfl rfl
set_option maxRecDepth 20000 in
theorem mlX6_65 : Cond.methodLink RX6 65 yX6_isLetter ∈ gw := gw_t3 71 rfl rfl
set_option maxRecDepth 20000 in
theorem mlX6_69 : Cond.methodLink RX6 69 yX6_scanName ∈ gw := gw_t3 74 rfl rfl
set_option maxRecDepth 20000 in
theorem mlX6_72 : Cond.methodLink RX6 72 yX6_isDigit ∈ gw := gw_t3 140 rfl rfl
set_option maxRecDepth 20000 in
theorem mlX6_75 : Cond.methodLink RX6 75 yX6_scanNumber ∈ gw := gw_t3 143 rfl rfl
set_option maxRecDepth 20000 in
theorem mlX6_80 : Cond.methodLink RX6 80 yJ0_indexOf_0f7a4 ∈ gw := gw_t3 150 rfl rfl
set_option maxRecDepth 20000 in
theorem mlX6_85 : Cond.methodLink RX6 85 yX6_kindOfName ∈ gw := gw_t3 78 rfl rfl
set_option maxRecDepth 20000 in
theorem mlX6_95 : Cond.methodLink RX6 95 yX6_spells ∈ gw := gw_t3 83 rfl rfl
set_option maxRecDepth 20000 in
theorem mlX6_109 : Cond.methodLink RX6 109 yJ0_length_8abf5 ∈ gw := gw_t3 87 rfl rfl
set_option maxRecDepth 20000 in
theorem mlX6_112 : Cond.methodLink RX6 112 yJ0_charAt_5068e ∈ gw := gw_t3 97 rfl rfl
set_option maxRecDepth 20000 in
theorem mlX7_3 : Cond.methodLink RX7 3 ⟨"java/lang/Object", "<init>", "()V"⟩ ∈ gw := gw_t1 203 rfl rfl
set_option maxRecDepth 20000 in
theorem mlX7_33 : Cond.methodLink RX7 33 yX7_findDefined ∈ gw := gw_t6 3 rfl rfl
set_option maxRecDepth 20000 in
theorem mlX7_44 : Cond.methodLink RX7 44 yX7_kindOf ∈ gw := gw_t6 37 rfl rfl
set_option maxRecDepth 20000 in
theorem mlX7_51 : Cond.methodLink RX7 51 yX7_frameAhead ∈ gw := gw_t7 143 rfl rfl
set_option maxRecDepth 20000 in
theorem mlX7_54 : Cond.methodLink RX7 54 yX0_symbolAt ∈ gw := gw_t6 12 rfl rfl
set_option maxRecDepth 20000 in
theorem mlX7_57 : Cond.methodLink RX7 57 yX7_countAhead ∈ gw := gw_t6 113 rfl rfl
set_option maxRecDepth 20000 in
theorem mlX7_61 : Cond.methodLink RX7 61 yJ7_fill_53178 ∈ gw := gw_t6 7 rfl rfl
set_option maxRecDepth 20000 in
theorem mlX7_70 : Cond.methodLink RX7 70 yX7_collectDefined ∈ gw := gw_t6 8 rfl rfl
set_option maxRecDepth 20000 in
theorem mlX7_77 : Cond.methodLink RX7 77 yX4_first ∈ gw := gw_t6 13 rfl rfl
set_option maxRecDepth 20000 in
theorem mlX7_85 : Cond.methodLink RX7 85 yX7_rowOf ∈ gw := gw_t6 17 rfl rfl
set_option maxRecDepth 20000 in
theorem mlX7_88 : Cond.methodLink RX7 88 yX4_occurrenceOf ∈ gw := gw_t6 20 rfl rfl
set_option maxRecDepth 20000 in
theorem mlX7_92 : Cond.methodLink RX7 92 yX4_isVisit ∈ gw := gw_t6 28 rfl rfl
set_option maxRecDepth 20000 in
theorem mlX7_98 : Cond.methodLink RX7 98 yX7_addDefined ∈ gw := gw_t6 29 rfl rfl
set_option maxRecDepth 20000 in
theorem mlX7_102 : Cond.methodLink RX7 102 yX4_attributeOf ∈ gw := gw_t6 33 rfl rfl
set_option maxRecDepth 20000 in
theorem mlX7_105 : Cond.methodLink RX7 105 yX7_isShortAt ∈ gw := gw_t6 41 rfl rfl
set_option maxRecDepth 20000 in
theorem mlX7_109 : Cond.methodLink RX7 109 yX7_isAloneAt ∈ gw := gw_t6 63 rfl rfl
set_option maxRecDepth 20000 in
theorem mlX7_112 : Cond.methodLink RX7 112 yX0_visitOf ∈ gw := gw_t6 45 rfl rfl
set_option maxRecDepth 20000 in
theorem mlX7_115 : Cond.methodLink RX7 115 yX4_entryOfVisit ∈ gw := gw_t6 46 rfl rfl
set_option maxRecDepth 20000 in
theorem mlX7_118 : Cond.methodLink RX7 118 yX0_isDown ∈ gw := gw_t6 50 rfl rfl
set_option maxRecDepth 20000 in
theorem mlX7_121 : Cond.methodLink RX7 121 yX7_namedOnlyIn ∈ gw := gw_t6 51 rfl rfl
set_option maxRecDepth 20000 in
theorem mlX7_124 : Cond.methodLink RX7 124 yX4_entryOfRule ∈ gw := gw_t6 59 rfl rfl
set_option maxRecDepth 20000 in
theorem mlX7_127 : Cond.methodLink RX7 127 yX7_names ∈ gw := gw_t6 55 rfl rfl
set_option maxRecDepth 20000 in
theorem mlX7_130 : Cond.methodLink RX7 130 yX7_lastNaming ∈ gw := gw_t6 67 rfl rfl
set_option maxRecDepth 20000 in
theorem mlX7_133 : Cond.methodLink RX7 133 yX7_isFree ∈ gw := gw_t6 72 rfl rfl
set_option maxRecDepth 20000 in
theorem mlX7_137 : Cond.methodLink RX7 137 yJ9_max_7cf53 ∈ gw := gw_t6 71 rfl rfl
set_option maxRecDepth 20000 in
theorem mlX8_3 : Cond.methodLink RX8 3 ⟨"java/lang/Object", "<init>", "()V"⟩ ∈ gw := gw_t1 48 rfl rfl
set_option maxRecDepth 20000 in
theorem mlX9_3 : Cond.methodLink RX9 3 ⟨"java/lang/Object", "<init>", "()V"⟩ ∈ gw := gw_t2 201 rfl rfl
set_option maxRecDepth 20000 in
theorem mlX10_3 : Cond.methodLink RX10 3 ⟨"java/lang/Object", "<init>", "()V"⟩ ∈ gw := gw_t1 131 rfl rfl
set_option maxRecDepth 20000 in
theorem mlX10_29 : Cond.methodLink RX10 29 yX6_open ∈ gw := gw_t7 11 rfl rfl
set_option maxRecDepth 20000 in
theorem mlX10_34 : Cond.methodLink RX10 34 yX10_readNodes ∈ gw := gw_t7 12 rfl rfl
set_option maxRecDepth 20000 in
theorem mlX10_44 : Cond.methodLink RX10 44 yX10_readHead ∈ gw := gw_t7 16 rfl rfl
set_option maxRecDepth 20000 in
theorem mlX10_56 : Cond.methodLink RX10 56 yX6_take ∈ gw := gw_t7 31 rfl rfl
set_option maxRecDepth 20000 in
theorem mlX10_60 : Cond.methodLink RX10 60 yX10_closeFull ∈ gw := gw_t7 32 rfl rfl
set_option maxRecDepth 20000 in
theorem mlX10_69 : Cond.methodLink RX10 69 yX0_symbolAt ∈ gw := gw_t7 20 rfl rfl
set_option maxRecDepth 20000 in
theorem mlX10_77 : Cond.methodLink RX10 77 yX0_findProduction ∈ gw := gw_t7 21 rfl rfl
set_option maxRecDepth 20000 in
theorem mlX10_81 : Cond.methodLink RX10 81 yX9_add ∈ gw := gw_t7 22 rfl rfl
set_option maxRecDepth 20000 in
theorem mlX10_85 : Cond.methodLink RX10 85 yX6_advance ∈ gw := gw_t7 26 rfl rfl
set_option maxRecDepth 20000 in
theorem mlX10_92 : Cond.methodLink RX10 92 yX10_readLiteral ∈ gw := gw_t7 27 rfl rfl
set_option maxRecDepth 20000 in
theorem mlL_7 : Cond.methodLink RL 7 yX11_put ∈ gw := gw_t6 123 rfl rfl
set_option maxRecDepth 20000 in
theorem mlL_17 : Cond.methodLink RL 17 yX11_end ∈ gw := gw_t6 163 rfl rfl
set_option maxRecDepth 20000 in
theorem mlL_21 : Cond.methodLink RL 21 yX11_size ∈ gw := gw_t6 171 rfl rfl
set_option maxRecDepth 20000 in
theorem mlL_26 : Cond.methodLink RL 26 yX11_depends ∈ gw := gw_t6 197 rfl rfl
set_option maxRecDepth 20000 in
theorem mlL_30 : Cond.methodLink RL 30 yX11_level ∈ gw := gw_t6 212 rfl rfl
set_option maxRecDepth 20000 in
theorem mlL_34 : Cond.methodLink RL 34 yX11_plan ∈ gw := gw_t6 219 rfl rfl
set_option maxRecDepth 20000 in
theorem mlL_38 : Cond.methodLink RL 38 yX11_store ∈ gw := gw_t6 236 rfl rfl
set_option maxRecDepth 20000 in
theorem mlL_41 : Cond.methodLink RL 41 yX11_tree ∈ gw := gw_t7 3 rfl rfl
set_option maxRecDepth 20000 in
theorem mlL_45 : Cond.methodLink RL 45 yX11_count ∈ gw := gw_t7 105 rfl rfl
set_option maxRecDepth 20000 in
theorem mlL_48 : Cond.methodLink RL 48 yX11_node ∈ gw := gw_t7 149 rfl rfl
set_option maxRecDepth 20000 in
theorem mlL_53 : Cond.methodLink RL 53 yX11_value ∈ gw := gw_t7 179 rfl rfl
set_option maxRecDepth 20000 in
theorem mlL_58 : Cond.methodLink RL 58 yX11_change ∈ gw := gw_t7 208 rfl rfl
set_option maxRecDepth 20000 in
theorem mlL_61 : Cond.methodLink RL 61 yX11_visit ∈ gw := gw_t7 220 rfl rfl
set_option maxRecDepth 20000 in
theorem mlL_64 : Cond.methodLink RL 64 yX11_code ∈ gw := gw_t7 229 rfl rfl
set_option maxRecDepth 20000 in
theorem mlL_67 : Cond.methodLink RL 67 yX11_start ∈ gw := gw_t7 236 rfl rfl
set_option maxRecDepth 20000 in
theorem mlL_70 : Cond.methodLink RL 70 yX11_begin ∈ gw := gw_t8 4 rfl rfl
set_option maxRecDepth 20000 in
theorem mlL_73 : Cond.methodLink RL 73 yX11_step ∈ gw := gw_t8 11 rfl rfl
set_option maxRecDepth 20000 in
theorem mlL_76 : Cond.methodLink RL 76 yX11_machine ∈ gw := gw_t8 23 rfl rfl
set_option maxRecDepth 20000 in
theorem mlL_79 : Cond.methodLink RL 79 yX11_alone ∈ gw := gw_t8 34 rfl rfl
set_option maxRecDepth 20000 in
theorem mlL_82 : Cond.methodLink RL 82 yX11_top ∈ gw := gw_t8 41 rfl rfl
set_option maxRecDepth 20000 in
theorem mlL_85 : Cond.methodLink RL 85 yX11_held ∈ gw := gw_t8 48 rfl rfl
set_option maxRecDepth 20000 in
theorem mlL_88 : Cond.methodLink RL 88 yX11_init ∈ gw := gw_t1 37 rfl rfl
set_option maxRecDepth 20000 in
theorem mlL_91 : Cond.methodLink RL 91 yX12_init ∈ gw := gw_t8 54 rfl rfl
set_option maxRecDepth 20000 in
theorem mlL_92 : Cond.methodLink RL 92 yL_put ∈ gw := gw_t6 118 rfl rfl
set_option maxRecDepth 20000 in
theorem mlL_97 : Cond.methodLink RL 97 yX12_put ∈ gw := gw_t9 120 rfl rfl
set_option maxRecDepth 20000 in
theorem mlL_98 : Cond.methodLink RL 98 yX12_thrown ∈ gw := gw_t9 116 rfl rfl
set_option maxRecDepth 20000 in
theorem mlL_101 : Cond.methodLink RL 101 yL_end ∈ gw := gw_t6 160 rfl rfl
set_option maxRecDepth 20000 in
theorem mlL_104 : Cond.methodLink RL 104 yX12_end ∈ gw := gw_t9 131 rfl rfl
set_option maxRecDepth 20000 in
theorem mlL_105 : Cond.methodLink RL 105 yX11_grammar ∈ gw := gw_t3 47 rfl rfl
set_option maxRecDepth 20000 in
theorem mlL_108 : Cond.methodLink RL 108 yX12_grammar ∈ gw := gw_t9 147 rfl rfl
set_option maxRecDepth 20000 in
theorem mlL_109 : Cond.methodLink RL 109 yL_size ∈ gw := gw_t6 167 rfl rfl
set_option maxRecDepth 20000 in
theorem mlL_111 : Cond.methodLink RL 111 yX12_size ∈ gw := gw_t10 173 rfl rfl
set_option maxRecDepth 20000 in
theorem mlL_112 : Cond.methodLink RL 112 yL_depends ∈ gw := gw_t6 194 rfl rfl
set_option maxRecDepth 20000 in
theorem mlL_115 : Cond.methodLink RL 115 yX12_depends ∈ gw := gw_t10 177 rfl rfl
set_option maxRecDepth 20000 in
theorem mlL_116 : Cond.methodLink RL 116 yL_level ∈ gw := gw_t6 209 rfl rfl
set_option maxRecDepth 20000 in
theorem mlL_119 : Cond.methodLink RL 119 yX12_level ∈ gw := gw_t10 181 rfl rfl
set_option maxRecDepth 20000 in
theorem mlL_120 : Cond.methodLink RL 120 yL_plan ∈ gw := gw_t6 216 rfl rfl
set_option maxRecDepth 20000 in
theorem mlL_122 : Cond.methodLink RL 122 yX12_plan ∈ gw := gw_t9 135 rfl rfl
set_option maxRecDepth 20000 in
theorem mlL_123 : Cond.methodLink RL 123 yL_store ∈ gw := gw_t6 233 rfl rfl
set_option maxRecDepth 20000 in
theorem mlL_125 : Cond.methodLink RL 125 yX12_store ∈ gw := gw_t9 139 rfl rfl
set_option maxRecDepth 20000 in
theorem mlL_126 : Cond.methodLink RL 126 yL_tree ∈ gw := gw_t7 0 rfl rfl
set_option maxRecDepth 20000 in
theorem mlL_129 : Cond.methodLink RL 129 yX12_tree ∈ gw := gw_t10 189 rfl rfl
set_option maxRecDepth 20000 in
theorem mlL_130 : Cond.methodLink RL 130 yL_count ∈ gw := gw_t7 102 rfl rfl
set_option maxRecDepth 20000 in
theorem mlL_132 : Cond.methodLink RL 132 yX12_count ∈ gw := gw_t10 225 rfl rfl
set_option maxRecDepth 20000 in
theorem mlL_133 : Cond.methodLink RL 133 yL_node ∈ gw := gw_t7 145 rfl rfl
set_option maxRecDepth 20000 in
theorem mlL_135 : Cond.methodLink RL 135 yX12_node ∈ gw := gw_t11 1 rfl rfl
set_option maxRecDepth 20000 in
theorem mlL_136 : Cond.methodLink RL 136 yL_value ∈ gw := gw_t7 175 rfl rfl
set_option maxRecDepth 20000 in
theorem mlL_138 : Cond.methodLink RL 138 yX12_value ∈ gw := gw_t11 9 rfl rfl
set_option maxRecDepth 20000 in
theorem mlL_139 : Cond.methodLink RL 139 yL_change ∈ gw := gw_t7 205 rfl rfl
set_option maxRecDepth 20000 in
theorem mlL_141 : Cond.methodLink RL 141 yX12_change ∈ gw := gw_t11 13 rfl rfl
set_option maxRecDepth 20000 in
theorem mlL_142 : Cond.methodLink RL 142 yL_visit ∈ gw := gw_t7 217 rfl rfl
set_option maxRecDepth 20000 in
theorem mlL_144 : Cond.methodLink RL 144 yX12_visit ∈ gw := gw_t10 185 rfl rfl
set_option maxRecDepth 20000 in
theorem mlL_145 : Cond.methodLink RL 145 yL_code ∈ gw := gw_t7 226 rfl rfl
set_option maxRecDepth 20000 in
theorem mlL_147 : Cond.methodLink RL 147 yX12_code ∈ gw := gw_t11 17 rfl rfl
set_option maxRecDepth 20000 in
theorem mlL_148 : Cond.methodLink RL 148 yL_start ∈ gw := gw_t7 233 rfl rfl
set_option maxRecDepth 20000 in
theorem mlL_150 : Cond.methodLink RL 150 yX12_start ∈ gw := gw_t11 21 rfl rfl
set_option maxRecDepth 20000 in
theorem mlL_151 : Cond.methodLink RL 151 yL_begin ∈ gw := gw_t8 1 rfl rfl
set_option maxRecDepth 20000 in
theorem mlL_153 : Cond.methodLink RL 153 yX12_begin ∈ gw := gw_t11 25 rfl rfl
set_option maxRecDepth 20000 in
theorem mlL_154 : Cond.methodLink RL 154 yL_step ∈ gw := gw_t8 8 rfl rfl
set_option maxRecDepth 20000 in
theorem mlL_156 : Cond.methodLink RL 156 yX12_step ∈ gw := gw_t11 33 rfl rfl
set_option maxRecDepth 20000 in
theorem mlL_157 : Cond.methodLink RL 157 yL_machine ∈ gw := gw_t8 20 rfl rfl
set_option maxRecDepth 20000 in
theorem mlL_159 : Cond.methodLink RL 159 yX12_machine ∈ gw := gw_t11 70 rfl rfl
set_option maxRecDepth 20000 in
theorem mlL_160 : Cond.methodLink RL 160 yL_alone ∈ gw := gw_t8 31 rfl rfl
set_option maxRecDepth 20000 in
theorem mlL_162 : Cond.methodLink RL 162 yX12_alone ∈ gw := gw_t11 74 rfl rfl
set_option maxRecDepth 20000 in
theorem mlL_163 : Cond.methodLink RL 163 yL_top ∈ gw := gw_t8 38 rfl rfl
set_option maxRecDepth 20000 in
theorem mlL_165 : Cond.methodLink RL 165 yX12_top ∈ gw := gw_t11 78 rfl rfl
set_option maxRecDepth 20000 in
theorem mlL_166 : Cond.methodLink RL 166 yL_held ∈ gw := gw_t8 45 rfl rfl
set_option maxRecDepth 20000 in
theorem mlL_168 : Cond.methodLink RL 168 yX12_held ∈ gw := gw_t11 82 rfl rfl
set_option maxRecDepth 20000 in
theorem mlX12_1 : Cond.methodLink RX12 1 ⟨"java/lang/Object", "<init>", "()V"⟩ ∈ gw := gw_t8 57 rfl rfl
set_option maxRecDepth 20000 in
theorem mlX12_238 : Cond.methodLink RX12 238 yX12_in ∈ gw := gw_t9 124 rfl rfl
set_option maxRecDepth 20000 in
theorem mlX12_245 : Cond.methodLink RX12 245 yX12_refuse ∈ gw := gw_t9 127 rfl rfl
set_option maxRecDepth 20000 in
theorem mlX12_260 : Cond.methodLink RX12 260 yX12_signAt ∈ gw := gw_t9 163 rfl rfl
set_option maxRecDepth 20000 in
theorem mlX12_270 : Cond.methodLink RX12 270 yX12_isSmall ∈ gw := gw_t9 167 rfl rfl
set_option maxRecDepth 20000 in
theorem mlX12_274 : Cond.methodLink RX12 274 yX12_isDigit ∈ gw := gw_t9 170 rfl rfl
set_option maxRecDepth 20000 in
theorem mlX12_277 : Cond.methodLink RX12 277 yX12_wordHere ∈ gw := gw_t9 173 rfl rfl
set_option maxRecDepth 20000 in
theorem mlX12_281 : Cond.methodLink RX12 281 yX12_sign ∈ gw := gw_t9 178 rfl rfl
set_option maxRecDepth 20000 in
theorem mlX12_287 : Cond.methodLink RX12 287 yX12_fail ∈ gw := gw_t9 181 rfl rfl
set_option maxRecDepth 20000 in
theorem mlX12_291 : Cond.methodLink RX12 291 yX12_good ∈ gw := gw_t9 185 rfl rfl
set_option maxRecDepth 20000 in
theorem mlX12_295 : Cond.methodLink RX12 295 yX12_advance ∈ gw := gw_t9 159 rfl rfl
set_option maxRecDepth 20000 in
theorem mlX12_298 : Cond.methodLink RX12 298 yX12_find ∈ gw := gw_t9 197 rfl rfl
set_option maxRecDepth 20000 in
theorem mlX12_302 : Cond.methodLink RX12 302 yX12_declare ∈ gw := gw_t9 193 rfl rfl
set_option maxRecDepth 20000 in
theorem mlX12_309 : Cond.methodLink RX12 309 yX12_attributeRow ∈ gw := gw_t9 201 rfl rfl
set_option maxRecDepth 20000 in
theorem mlX12_313 : Cond.methodLink RX12 313 yX12_need ∈ gw := gw_t9 205 rfl rfl
set_option maxRecDepth 20000 in
theorem mlX12_319 : Cond.methodLink RX12 319 yX12_symbolHere ∈ gw := gw_t9 213 rfl rfl
set_option maxRecDepth 20000 in
theorem mlX12_322 : Cond.methodLink RX12 322 yX12_rule ∈ gw := gw_t9 217 rfl rfl
set_option maxRecDepth 20000 in
theorem mlX12_325 : Cond.methodLink RX12 325 yX12_isWhole ∈ gw := gw_t10 32 rfl rfl
set_option maxRecDepth 20000 in
theorem mlX12_328 : Cond.methodLink RX12 328 yX12_isDefined ∈ gw := gw_t9 229 rfl rfl
set_option maxRecDepth 20000 in
theorem mlX12_331 : Cond.methodLink RX12 331 yX12_numberHere ∈ gw := gw_t9 221 rfl rfl
set_option maxRecDepth 20000 in
theorem mlX12_334 : Cond.methodLink RX12 334 yX12_attributeHere ∈ gw := gw_t9 225 rfl rfl
set_option maxRecDepth 20000 in
theorem mlX12_341 : Cond.methodLink RX12 341 yX12_expression ∈ gw := gw_t9 233 rfl rfl
set_option maxRecDepth 20000 in
theorem mlX12_350 : Cond.methodLink RX12 350 yX12_strength ∈ gw := gw_t10 21 rfl rfl
set_option maxRecDepth 20000 in
theorem mlX12_353 : Cond.methodLink RX12 353 yX12_emit ∈ gw := gw_t10 13 rfl rfl
set_option maxRecDepth 20000 in
theorem mlX12_360 : Cond.methodLink RX12 360 yX12_settle ∈ gw := gw_t10 17 rfl rfl
set_option maxRecDepth 20000 in
theorem mlX12_363 : Cond.methodLink RX12 363 yX12_deeper ∈ gw := gw_t10 5 rfl rfl
set_option maxRecDepth 20000 in
theorem mlX12_366 : Cond.methodLink RX12 366 yX12_frame ∈ gw := gw_t9 237 rfl rfl
set_option maxRecDepth 20000 in
theorem mlX12_369 : Cond.methodLink RX12 369 yX12_hold ∈ gw := gw_t10 9 rfl rfl
set_option maxRecDepth 20000 in
theorem mlX12_372 : Cond.methodLink RX12 372 yX12_endChoices ∈ gw := gw_t10 28 rfl rfl
set_option maxRecDepth 20000 in
theorem mlX12_375 : Cond.methodLink RX12 375 yX12_operand ∈ gw := gw_t10 1 rfl rfl
set_option maxRecDepth 20000 in
theorem mlX12_379 : Cond.methodLink RX12 379 yX12_behind ∈ gw := gw_t10 24 rfl rfl
set_option maxRecDepth 20000 in
theorem mlX12_382 : Cond.methodLink RX12 382 yX12_symbolStatement ∈ gw := gw_t9 189 rfl rfl
set_option maxRecDepth 20000 in
theorem mlX12_385 : Cond.methodLink RX12 385 yX12_production ∈ gw := gw_t9 209 rfl rfl
set_option maxRecDepth 20000 in
theorem mlX12_388 : Cond.methodLink RX12 388 yX12_follow ∈ gw := gw_t10 56 rfl rfl
set_option maxRecDepth 20000 in
theorem mlX12_395 : Cond.methodLink RX12 395 yX12_direct ∈ gw := gw_t10 48 rfl rfl
set_option maxRecDepth 20000 in
theorem mlX12_398 : Cond.methodLink RX12 398 yX12_exchange ∈ gw := gw_t10 52 rfl rfl
set_option maxRecDepth 20000 in
theorem mlX12_401 : Cond.methodLink RX12 401 yX12_mayHave ∈ gw := gw_t10 70 rfl rfl
set_option maxRecDepth 20000 in
theorem mlX12_405 : Cond.methodLink RX12 405 yX12_induce ∈ gw := gw_t10 44 rfl rfl
set_option maxRecDepth 20000 in
theorem mlX12_408 : Cond.methodLink RX12 408 yX12_turning ∈ gw := gw_t10 62 rfl rfl
set_option maxRecDepth 20000 in
theorem mlX12_411 : Cond.methodLink RX12 411 yX12_giveLevels ∈ gw := gw_t10 66 rfl rfl
set_option maxRecDepth 20000 in
theorem mlX12_414 : Cond.methodLink RX12 414 yX12_cross ∈ gw := gw_t10 74 rfl rfl
set_option maxRecDepth 20000 in
theorem mlX12_417 : Cond.methodLink RX12 417 yX12_order0 ∈ gw := gw_t10 40 rfl rfl
set_option maxRecDepth 20000 in
theorem mlX12_420 : Cond.methodLink RX12 420 yX12_makePlans ∈ gw := gw_t10 78 rfl rfl
set_option maxRecDepth 20000 in
theorem mlX12_423 : Cond.methodLink RX12 423 yX12_findDefines ∈ gw := gw_t10 102 rfl rfl
set_option maxRecDepth 20000 in
theorem mlX12_426 : Cond.methodLink RX12 426 yX12_findStores ∈ gw := gw_t10 118 rfl rfl
set_option maxRecDepth 20000 in
theorem mlX12_429 : Cond.methodLink RX12 429 yX12_makeProgram ∈ gw := gw_t10 142 rfl rfl
set_option maxRecDepth 20000 in
theorem mlX12_432 : Cond.methodLink RX12 432 yX12_visitOf ∈ gw := gw_t10 86 rfl rfl
set_option maxRecDepth 20000 in
theorem mlX12_436 : Cond.methodLink RX12 436 yX12_canEvaluate ∈ gw := gw_t10 94 rfl rfl
set_option maxRecDepth 20000 in
theorem mlX12_442 : Cond.methodLink RX12 442 yX12_canVisit ∈ gw := gw_t10 98 rfl rfl
set_option maxRecDepth 20000 in
theorem mlX12_445 : Cond.methodLink RX12 445 yX12_comes ∈ gw := gw_t10 82 rfl rfl
set_option maxRecDepth 20000 in
theorem mlX12_449 : Cond.methodLink RX12 449 yX12_round ∈ gw := gw_t10 90 rfl rfl
set_option maxRecDepth 20000 in
theorem mlX12_456 : Cond.methodLink RX12 456 yX12_callOf ∈ gw := gw_t10 114 rfl rfl
set_option maxRecDepth 20000 in
theorem mlX12_459 : Cond.methodLink RX12 459 yX12_isDefining ∈ gw := gw_t10 110 rfl rfl
set_option maxRecDepth 20000 in
theorem mlX12_463 : Cond.methodLink RX12 463 yX12_anyDefining ∈ gw := gw_t10 106 rfl rfl
set_option maxRecDepth 20000 in
theorem mlX12_467 : Cond.methodLink RX12 467 yX12_isNaming ∈ gw := gw_t10 130 rfl rfl
set_option maxRecDepth 20000 in
theorem mlX12_470 : Cond.methodLink RX12 470 yX12_areNamedIn ∈ gw := gw_t10 126 rfl rfl
set_option maxRecDepth 20000 in
theorem mlX12_473 : Cond.methodLink RX12 473 yX12_lastNaming ∈ gw := gw_t10 138 rfl rfl
set_option maxRecDepth 20000 in
theorem mlX12_477 : Cond.methodLink RX12 477 yX12_isShortAt ∈ gw := gw_t10 122 rfl rfl
set_option maxRecDepth 20000 in
theorem mlX12_480 : Cond.methodLink RX12 480 yX12_isAloneAt ∈ gw := gw_t10 134 rfl rfl
set_option maxRecDepth 20000 in
theorem mlX12_483 : Cond.methodLink RX12 483 yX12_isAttribute ∈ gw := gw_t9 143 rfl rfl
set_option maxRecDepth 20000 in
theorem mlX12_486 : Cond.methodLink RX12 486 yX12_frameOf ∈ gw := gw_t10 237 rfl rfl
set_option maxRecDepth 20000 in
theorem mlX12_492 : Cond.methodLink RX12 492 yX12_takeText ∈ gw := gw_t9 151 rfl rfl
set_option maxRecDepth 20000 in
theorem mlX12_496 : Cond.methodLink RX12 496 yX12_readGrammar ∈ gw := gw_t9 155 rfl rfl
set_option maxRecDepth 20000 in
theorem mlX12_499 : Cond.methodLink RX12 499 yX12_order ∈ gw := gw_t10 36 rfl rfl
set_option maxRecDepth 20000 in
theorem mlX12_514 : Cond.methodLink RX12 514 yX12_treeNode ∈ gw := gw_t10 197 rfl rfl
set_option maxRecDepth 20000 in
theorem mlX12_518 : Cond.methodLink RX12 518 yX12_readTree ∈ gw := gw_t10 193 rfl rfl
set_option maxRecDepth 20000 in
theorem mlX12_524 : Cond.methodLink RX12 524 yX12_evaluate ∈ gw := gw_t10 201 rfl rfl
set_option maxRecDepth 20000 in
theorem mlX12_527 : Cond.methodLink RX12 527 yX12_valueAt ∈ gw := gw_t10 209 rfl rfl
set_option maxRecDepth 20000 in
theorem mlX12_530 : Cond.methodLink RX12 530 yX12_two ∈ gw := gw_t10 221 rfl rfl
set_option maxRecDepth 20000 in
theorem mlX12_533 : Cond.methodLink RX12 533 yX12_isReady ∈ gw := gw_t10 213 rfl rfl
set_option maxRecDepth 20000 in
theorem mlX12_536 : Cond.methodLink RX12 536 yX12_workOut ∈ gw := gw_t10 217 rfl rfl
set_option maxRecDepth 20000 in
theorem mlX12_539 : Cond.methodLink RX12 539 yX12_tryNode ∈ gw := gw_t10 205 rfl rfl
set_option maxRecDepth 20000 in
theorem mlX12_542 : Cond.methodLink RX12 542 yX12_symbolOf ∈ gw := gw_t10 229 rfl rfl
set_option maxRecDepth 20000 in
theorem mlX12_545 : Cond.methodLink RX12 545 yX12_framesAbove ∈ gw := gw_t10 233 rfl rfl
set_option maxRecDepth 20000 in
theorem mlX12_548 : Cond.methodLink RX12 548 yX12_isNode ∈ gw := gw_t11 5 rfl rfl
set_option maxRecDepth 20000 in
theorem mlX12_554 : Cond.methodLink RX12 554 yX12_storedBelow ∈ gw := gw_t10 166 rfl rfl
set_option maxRecDepth 20000 in
theorem mlX12_557 : Cond.methodLink RX12 557 yX12_findParts ∈ gw := gw_t10 154 rfl rfl
set_option maxRecDepth 20000 in
theorem mlX12_560 : Cond.methodLink RX12 560 yX12_write ∈ gw := gw_t10 146 rfl rfl
set_option maxRecDepth 20000 in
theorem mlX12_563 : Cond.methodLink RX12 563 yX12_storeAt ∈ gw := gw_t10 158 rfl rfl
set_option maxRecDepth 20000 in
theorem mlX12_566 : Cond.methodLink RX12 566 yX12_toldBy ∈ gw := gw_t10 162 rfl rfl
set_option maxRecDepth 20000 in
theorem mlX12_569 : Cond.methodLink RX12 569 yX12_kindOf ∈ gw := gw_t10 170 rfl rfl
set_option maxRecDepth 20000 in
theorem mlX12_572 : Cond.methodLink RX12 572 yX12_writeRule ∈ gw := gw_t10 150 rfl rfl
set_option maxRecDepth 20000 in
theorem mlX12_587 : Cond.methodLink RX12 587 yX12_visits ∈ gw := gw_t11 29 rfl rfl
set_option maxRecDepth 20000 in
theorem mlX12_589 : Cond.methodLink RX12 589 yX12_inFrame ∈ gw := gw_t11 58 rfl rfl
set_option maxRecDepth 20000 in
theorem mlX12_592 : Cond.methodLink RX12 592 yX12_above ∈ gw := gw_t11 62 rfl rfl
set_option maxRecDepth 20000 in
theorem mlX12_595 : Cond.methodLink RX12 595 yX12_pushes ∈ gw := gw_t11 50 rfl rfl
set_option maxRecDepth 20000 in
theorem mlX12_598 : Cond.methodLink RX12 598 yX12_test ∈ gw := gw_t11 42 rfl rfl
set_option maxRecDepth 20000 in
theorem mlX12_601 : Cond.methodLink RX12 601 yX12_backs ∈ gw := gw_t11 46 rfl rfl
set_option maxRecDepth 20000 in
theorem mlX12_604 : Cond.methodLink RX12 604 yX12_placeOf ∈ gw := gw_t11 54 rfl rfl
set_option maxRecDepth 20000 in
theorem mlX12_607 : Cond.methodLink RX12 607 yX12_works ∈ gw := gw_t11 66 rfl rfl
set_option maxRecDepth 20000 in
theorem mlX12_611 : Cond.methodLink RX12 611 yX12_one ∈ gw := gw_t11 38 rfl rfl
set_option maxRecDepth 20000 in
theorem mlJ0_1 : Cond.methodLink RJ0 1 ⟨"java/lang/Object", "<init>", "()V"⟩ ∈ gw := gw_t4 223 rfl rfl
set_option maxRecDepth 20000 in
theorem mlJ0_47 : Cond.methodLink RJ0 47 yJ2_coderFromArrayLen_85cad ∈ gw := gw_t5 40 rfl rfl
set_option maxRecDepth 20000 in
theorem mlJ0_54 : Cond.methodLink RJ0 54 yJ7_copyOfRange_39247 ∈ gw := gw_t4 238 rfl rfl
set_option maxRecDepth 20000 in
theorem mlJ0_106 : Cond.methodLink RJ0 106 yJ1_inflate_0e8fd ∈ gw := gw_t4 183 rfl rfl
set_option maxRecDepth 20000 in
theorem mlJ0_212 : Cond.methodLink RJ0 212 ⟨"java/lang/System", "arraycopy", "(Ljava/lang/Object;ILjava/lang/Object;II)V"⟩ ∈ gw := gw_t4 182 rfl rfl
set_option maxRecDepth 20000 in
theorem mlJ0_335 : Cond.methodLink RJ0 335 yJ0_coder_7d493 ∈ gw := gw_t3 91 rfl rfl
set_option maxRecDepth 20000 in
theorem mlJ0_489 : Cond.methodLink RJ0 489 yJ0_init_db425 ∈ gw := gw_t4 220 rfl rfl
set_option maxRecDepth 20000 in
theorem mlJ0_492 : Cond.methodLink RJ0 492 yJ0_isLatin1_aae02 ∈ gw := gw_t3 101 rfl rfl
set_option maxRecDepth 20000 in
theorem mlJ0_495 : Cond.methodLink RJ0 495 yJ1_charAt_3b067 ∈ gw := gw_t3 105 rfl rfl
set_option maxRecDepth 20000 in
theorem mlJ0_498 : Cond.methodLink RJ0 498 yJ2_charAt_3b067 ∈ gw := gw_t3 116 rfl rfl
set_option maxRecDepth 20000 in
theorem mlJ0_505 : Cond.methodLink RJ0 505 yJ0_length_8abf5 ∈ gw := gw_t3 158 rfl rfl
set_option maxRecDepth 20000 in
theorem mlJ0_549 : Cond.methodLink RJ0 549 yJ5_length_8abf5 ∈ gw := gw_t4 229 rfl rfl
set_option maxRecDepth 20000 in
theorem mlJ0_552 : Cond.methodLink RJ0 552 yJ5_getValue_6d5f1 ∈ gw := gw_t4 224 rfl rfl
set_option maxRecDepth 20000 in
theorem mlJ0_633 : Cond.methodLink RJ0 633 yJ0_indexOf_7cf53 ∈ gw := gw_t3 154 rfl rfl
set_option maxRecDepth 20000 in
theorem mlJ0_637 : Cond.methodLink RJ0 637 yJ1_indexOf_4cfef ∈ gw := gw_t3 159 rfl rfl
set_option maxRecDepth 20000 in
theorem mlJ0_640 : Cond.methodLink RJ0 640 yJ2_indexOf_4cfef ∈ gw := gw_t3 174 rfl rfl
set_option maxRecDepth 20000 in
theorem mlJ0_1047 : Cond.methodLink RJ0 1047 yJ5_isLatin1_aae02 ∈ gw := gw_t4 237 rfl rfl
set_option maxRecDepth 20000 in
theorem mlJ0_1051 : Cond.methodLink RJ0 1051 yJ2_compress_39247 ∈ gw := gw_t5 33 rfl rfl
set_option maxRecDepth 20000 in
theorem mlJ0_1059 : Cond.methodLink RJ0 1059 yJ3_checkIndex_8e157 ∈ gw := gw_t3 113 rfl rfl
set_option maxRecDepth 20000 in
theorem mlJ0_1062 : Cond.methodLink RJ0 1062 yJ3_checkFromToIndex_8c36e ∈ gw := gw_t3 189 rfl rfl
set_option maxRecDepth 20000 in
theorem mlJ0_1065 : Cond.methodLink RJ0 1065 yJ3_checkFromIndexSize_8c36e ∈ gw := gw_t4 175 rfl rfl
set_option maxRecDepth 20000 in
theorem mlJ1_9 : Cond.methodLink RJ1 9 yJ0_checkIndex_df160 ∈ gw := gw_t3 108 rfl rfl
set_option maxRecDepth 20000 in
theorem mlJ1_38 : Cond.methodLink RJ1 38 yJ9_min_7cf53 ∈ gw := gw_t3 168 rfl rfl
set_option maxRecDepth 20000 in
theorem mlJ1_88 : Cond.methodLink RJ1 88 yJ1_canEncode_9a6ad ∈ gw := gw_t3 162 rfl rfl
set_option maxRecDepth 20000 in
theorem mlJ1_92 : Cond.methodLink RJ1 92 yJ9_max_7cf53 ∈ gw := gw_t3 165 rfl rfl
set_option maxRecDepth 20000 in
theorem mlJ1_95 : Cond.methodLink RJ1 95 yJ1_indexOfChar_4cfef ∈ gw := gw_t3 171 rfl rfl
set_option maxRecDepth 20000 in
theorem mlJ1_240 : Cond.methodLink RJ1 240 yJ2_inflate_0e8fd ∈ gw := gw_t4 166 rfl rfl
set_option maxRecDepth 20000 in
theorem mlJ7_13 : Cond.methodLink RJ7 13 yJ7_rangeCheck_23922 ∈ gw := gw_t4 17 rfl rfl
set_option maxRecDepth 20000 in
theorem mlJ7_47 : Cond.methodLink RJ7 47 yJ4_init_da8c8 ∈ gw := gw_t4 66 rfl rfl
set_option maxRecDepth 20000 in
theorem mlJ7_50 : Cond.methodLink RJ7 50 yJ4_append_15ec4 ∈ gw := gw_t4 96 rfl rfl
set_option maxRecDepth 20000 in
theorem mlJ7_54 : Cond.methodLink RJ7 54 yJ4_append_bf812 ∈ gw := gw_t4 184 rfl rfl
set_option maxRecDepth 20000 in
theorem mlJ7_61 : Cond.methodLink RJ7 61 yJ4_toString_0e30d ∈ gw := gw_t4 211 rfl rfl
set_option maxRecDepth 20000 in
theorem mlJ7_65 : Cond.methodLink RJ7 65 ⟨"java/lang/IllegalArgumentException", "<init>", "(Ljava/lang/String;)V"⟩ ∈ gw := gw_t5 8 rfl rfl
set_option maxRecDepth 20000 in
theorem mlJ7_70 : Cond.methodLink RJ7 70 yJx00060_init_d00df ∈ gw := gw_t5 56 rfl rfl
set_option maxRecDepth 20000 in
theorem mlJ7_150 : Cond.methodLink RJ7 150 ⟨"java/lang/System", "arraycopy", "(Ljava/lang/Object;ILjava/lang/Object;II)V"⟩ ∈ gw := gw_t4 135 rfl rfl
set_option maxRecDepth 20000 in
theorem mlJ7_304 : Cond.methodLink RJ7 304 yJ9_min_7cf53 ∈ gw := gw_t4 134 rfl rfl
set_option maxRecDepth 20000 in
theorem mlJ7_310 : Cond.methodLink RJ7 310 ⟨"[B", "clone", "()Ljava/lang/Object;"⟩ ∈ gw := gw_t4 127 rfl rfl
set_option maxRecDepth 20000 in
theorem mlJ7_339 : Cond.methodLink RJ7 339 yJ7_copyOfRangeByte_39247 ∈ gw := gw_t5 1 rfl rfl
set_option maxRecDepth 20000 in
theorem mlJ7_343 : Cond.methodLink RJ7 343 yJ7_checkLength_df160 ∈ gw := gw_t5 4 rfl rfl
set_option maxRecDepth 20000 in
theorem mnX11_13 : Cond.methodLinkNest RX11 13 yX8_init "AttributeHouse" ∈ ngw := List.mem_filter.mpr ⟨List.mem_of_getElem? (i := 208) (by decide +kernel), rfl⟩
set_option maxRecDepth 20000 in
theorem mnX11_41 : Cond.methodLinkNest RX11 41 yX3_init "AttributeHouse" ∈ ngw := List.mem_filter.mpr ⟨List.mem_of_getElem? (i := 310) (by decide +kernel), rfl⟩
set_option maxRecDepth 20000 in
theorem mnX11_48 : Cond.methodLinkNest RX11 48 yX4_init "AttributeHouse" ∈ ngw := List.mem_filter.mpr ⟨List.mem_of_getElem? (i := 320) (by decide +kernel), rfl⟩
set_option maxRecDepth 20000 in
theorem mnX11_93 : Cond.methodLinkNest RX11 93 yX0_init "AttributeHouse" ∈ ngw := List.mem_filter.mpr ⟨List.mem_of_getElem? (i := 485) (by decide +kernel), rfl⟩
set_option maxRecDepth 20000 in
theorem mnX11_103 : Cond.methodLinkNest RX11 103 yX9_init "AttributeHouse" ∈ ngw := List.mem_filter.mpr ⟨List.mem_of_getElem? (i := 601) (by decide +kernel), rfl⟩
set_option maxRecDepth 20000 in
theorem klX11_11 : Cond.classLink RX11 11 RX8 ∈ gw := gw_t1 43 rfl rfl
set_option maxRecDepth 20000 in
theorem klX11_18 : Cond.classLink RX11 18 RX6 ∈ gw := gw_t1 60 rfl rfl
set_option maxRecDepth 20000 in
theorem klX11_23 : Cond.classLink RX11 23 RX1 ∈ gw := gw_t1 107 rfl rfl
set_option maxRecDepth 20000 in
theorem klX11_32 : Cond.classLink RX11 32 RX10 ∈ gw := gw_t1 126 rfl rfl
set_option maxRecDepth 20000 in
theorem klX11_39 : Cond.classLink RX11 39 RX3 ∈ gw := gw_t1 145 rfl rfl
set_option maxRecDepth 20000 in
theorem klX11_46 : Cond.classLink RX11 46 RX4 ∈ gw := gw_t1 155 rfl rfl
set_option maxRecDepth 20000 in
theorem klX11_53 : Cond.classLink RX11 53 RX7 ∈ gw := gw_t1 198 rfl rfl
set_option maxRecDepth 20000 in
theorem klX11_62 : Cond.classLink RX11 62 RX5 ∈ gw := gw_t1 227 rfl rfl
set_option maxRecDepth 20000 in
theorem klX11_71 : Cond.classLink RX11 71 RX2 ∈ gw := gw_t2 24 rfl rfl
set_option maxRecDepth 20000 in
theorem klX11_91 : Cond.classLink RX11 91 RX0 ∈ gw := gw_t2 80 rfl rfl
set_option maxRecDepth 20000 in
theorem klX11_101 : Cond.classLink RX11 101 RX9 ∈ gw := gw_t2 196 rfl rfl
set_option maxRecDepth 20000 in
theorem klX11_115 : Cond.classLink RX11 115 "java/lang/IllegalArgumentException" ∈ gw := gw_t6 130 rfl rfl
set_option maxRecDepth 20000 in
theorem klX11_122 : Cond.classLink RX11 122 "java/lang/UnsupportedOperationException" ∈ gw := gw_t6 141 rfl rfl
set_option maxRecDepth 20000 in
theorem klX11_345 : Cond.classLink RX11 345 "java/lang/ArithmeticException" ∈ gw := gw_t7 190 rfl rfl
set_option maxRecDepth 20000 in
theorem klX11_348 : Cond.classLink RX11 348 "java/lang/IllegalStateException" ∈ gw := gw_t6 179 rfl rfl
set_option maxRecDepth 20000 in
theorem klX11_351 : Cond.classLink RX11 351 "java/lang/IndexOutOfBoundsException" ∈ gw := gw_t7 160 rfl rfl
set_option maxRecDepth 20000 in
theorem klL_8 : Cond.classLink RL 8 RX11 ∈ gw := gw_t1 35 rfl rfl
set_option maxRecDepth 20000 in
theorem klL_13 : Cond.classLink RL 13 "java/lang/IllegalArgumentException" ∈ gw := gw_t6 121 rfl rfl
set_option maxRecDepth 20000 in
theorem klL_15 : Cond.classLink RL 15 "java/lang/UnsupportedOperationException" ∈ gw := gw_t6 122 rfl rfl
set_option maxRecDepth 20000 in
theorem klL_24 : Cond.classLink RL 24 "java/lang/IllegalStateException" ∈ gw := gw_t6 170 rfl rfl
set_option maxRecDepth 20000 in
theorem klL_51 : Cond.classLink RL 51 "java/lang/IndexOutOfBoundsException" ∈ gw := gw_t7 148 rfl rfl
set_option maxRecDepth 20000 in
theorem klL_56 : Cond.classLink RL 56 "java/lang/ArithmeticException" ∈ gw := gw_t7 178 rfl rfl
set_option maxRecDepth 20000 in
theorem klL_89 : Cond.classLink RL 89 RX12 ∈ gw := gw_t8 52 rfl rfl
set_option maxRecDepth 20000 in
theorem klJ7_43 : Cond.classLink RJ7 43 "java/lang/IllegalArgumentException" ∈ gw := gw_t4 20 rfl rfl
set_option maxRecDepth 20000 in
theorem klJ7_45 : Cond.classLink RJ7 45 RJ4 ∈ gw := gw_t4 64 rfl rfl
set_option maxRecDepth 20000 in
theorem klJ7_68 : Cond.classLink RJ7 68 RJx00060 ∈ gw := gw_t5 54 rfl rfl
set_option maxRecDepth 20000 in
theorem klJ7_311 : Cond.classLink RJ7 311 "[B" ∈ gw := gw_t4 133 rfl rfl
set_option maxRecDepth 20000 in
theorem ctX11_303 : Cond.constant RX11 303 (100000) ∈ gw := gw_t8 19 rfl rfl
set_option maxRecDepth 20000 in
theorem ctX11_324 : Cond.constant RX11 324 (750000) ∈ gw := gw_t7 56 rfl rfl
set_option maxRecDepth 20000 in
theorem ctX12_610 : Cond.constant RX12 610 (100000) ∈ gw := gw_t11 37 rfl rfl
set_option maxRecDepth 20000 in
theorem ctX11_331 : Cond.constantLong RX11 331 (-9223372036854775808) ∈ gw := gw_t7 129 rfl rfl
set_option maxRecDepth 20000 in
theorem ctX2_140 : Cond.constantLong RX2 140 (-9223372036854775808) ∈ gw := gw_t7 85 rfl rfl
set_option maxRecDepth 20000 in
theorem ctX6_89 : Cond.constantLong RX6 89 (10) ∈ gw := gw_t3 147 rfl rfl
set_option maxRecDepth 20000 in
theorem ctX6_91 : Cond.constantLong RX6 91 (48) ∈ gw := gw_t3 148 rfl rfl
set_option maxRecDepth 20000 in
theorem ctX12_222 : Cond.constantLong RX12 222 (418461491) ∈ gw := gw_t8 58 rfl rfl
set_option maxRecDepth 20000 in
theorem ctX12_224 : Cond.constantLong RX12 224 (482788) ∈ gw := gw_t8 59 rfl rfl
set_option maxRecDepth 20000 in
theorem ctX12_226 : Cond.constantLong RX12 226 (533) ∈ gw := gw_t8 60 rfl rfl
set_option maxRecDepth 20000 in
theorem ctX12_228 : Cond.constantLong RX12 228 (201) ∈ gw := gw_t8 61 rfl rfl
set_option maxRecDepth 20000 in
theorem ctX12_230 : Cond.constantLong RX12 230 (464148) ∈ gw := gw_t8 62 rfl rfl
set_option maxRecDepth 20000 in
theorem ctX12_232 : Cond.constantLong RX12 232 (183685) ∈ gw := gw_t8 63 rfl rfl
set_option maxRecDepth 20000 in
theorem ctX12_258 : Cond.constantLong RX12 258 (31) ∈ gw := gw_t9 177 rfl rfl
set_option maxRecDepth 20000 in
theorem ctX12_391 : Cond.constantLong RX12 391 (255) ∈ gw := gw_t10 60 rfl rfl
set_option maxRecDepth 20000 in
theorem ctX12_393 : Cond.constantLong RX12 393 (-1) ∈ gw := gw_t10 61 rfl rfl
set_option maxRecDepth 20000 in
theorem iniX0 : Cond.initialized RX0 ∈ gw := gw_t1 11 rfl rfl
set_option maxRecDepth 20000 in
theorem mkX0 : Cond.instantiable RX0 20 ∈ gw := gw_t2 81 rfl rfl
set_option maxRecDepth 20000 in
theorem iniX1 : Cond.initialized RX1 ∈ gw := gw_t1 4 rfl rfl
set_option maxRecDepth 20000 in
theorem mkX1 : Cond.instantiable RX1 4 ∈ gw := gw_t1 108 rfl rfl
set_option maxRecDepth 20000 in
theorem iniX2 : Cond.initialized RX2 ∈ gw := gw_t1 10 rfl rfl
set_option maxRecDepth 20000 in
theorem mkX2 : Cond.instantiable RX2 14 ∈ gw := gw_t2 25 rfl rfl
set_option maxRecDepth 20000 in
theorem iniX3 : Cond.initialized RX3 ∈ gw := gw_t1 6 rfl rfl
set_option maxRecDepth 20000 in
theorem mkX3 : Cond.instantiable RX3 1 ∈ gw := gw_t1 146 rfl rfl
set_option maxRecDepth 20000 in
theorem iniX4 : Cond.initialized RX4 ∈ gw := gw_t1 7 rfl rfl
set_option maxRecDepth 20000 in
theorem mkX4 : Cond.instantiable RX4 11 ∈ gw := gw_t1 156 rfl rfl
set_option maxRecDepth 20000 in
theorem iniX5 : Cond.initialized RX5 ∈ gw := gw_t1 9 rfl rfl
set_option maxRecDepth 20000 in
theorem mkX5 : Cond.instantiable RX5 8 ∈ gw := gw_t1 228 rfl rfl
set_option maxRecDepth 20000 in
theorem iniX6 : Cond.initialized RX6 ∈ gw := gw_t1 3 rfl rfl
set_option maxRecDepth 20000 in
theorem mkX6 : Cond.instantiable RX6 10 ∈ gw := gw_t1 61 rfl rfl
set_option maxRecDepth 20000 in
theorem iniX7 : Cond.initialized RX7 ∈ gw := gw_t1 8 rfl rfl
set_option maxRecDepth 20000 in
theorem mkX7 : Cond.instantiable RX7 6 ∈ gw := gw_t1 199 rfl rfl
set_option maxRecDepth 20000 in
theorem iniX8 : Cond.initialized RX8 ∈ gw := gw_t1 2 rfl rfl
set_option maxRecDepth 20000 in
theorem mkX8 : Cond.instantiable RX8 2 ∈ gw := gw_t1 44 rfl rfl
set_option maxRecDepth 20000 in
theorem iniX9 : Cond.initialized RX9 ∈ gw := gw_t1 12 rfl rfl
set_option maxRecDepth 20000 in
theorem mkX9 : Cond.instantiable RX9 6 ∈ gw := gw_t2 197 rfl rfl
set_option maxRecDepth 20000 in
theorem iniX10 : Cond.initialized RX10 ∈ gw := gw_t1 5 rfl rfl
set_option maxRecDepth 20000 in
theorem mkX10 : Cond.instantiable RX10 4 ∈ gw := gw_t1 127 rfl rfl
set_option maxRecDepth 20000 in
theorem iniX11 : Cond.initialized RX11 ∈ gw := gw_t1 1 rfl rfl
set_option maxRecDepth 20000 in
theorem mkX11 : Cond.instantiable RX11 18 ∈ gw := gw_t1 36 rfl rfl
set_option maxRecDepth 20000 in
theorem iniX12 : Cond.initialized RX12 ∈ gw := gw_t1 13 rfl rfl
set_option maxRecDepth 20000 in
theorem mkX12 : Cond.instantiable RX12 97 ∈ gw := gw_t8 53 rfl rfl
set_option maxRecDepth 20000 in
theorem iniL : Cond.initialized RL ∈ gw := gw_t1 0 rfl rfl
set_option maxRecDepth 20000 in
theorem iniJ7 : Cond.initialized RJ7 ∈ gw := gw_t1 25 rfl rfl
set_option maxRecDepth 20000 in
theorem iniJ0 : Cond.initialized RJ0 ∈ gw := gw_t1 19 rfl rfl
set_option maxRecDepth 20000 in
theorem mkJ0 : Cond.instantiable RJ0 4 ∈ gw := gw_t4 216 rfl rfl
set_option maxRecDepth 20000 in
theorem iniJ1 : Cond.initialized RJ1 ∈ gw := gw_t1 20 rfl rfl
set_option maxRecDepth 20000 in
theorem iniJ3 : Cond.initialized RJ3 ∈ gw := gw_t1 21 rfl rfl
set_option maxRecDepth 20000 in
theorem ac_int : Cond.arrayClass .int ∈ gw := gw_t1 105 rfl rfl
set_option maxRecDepth 20000 in
theorem ac_long : Cond.arrayClass .long ∈ gw := gw_t1 106 rfl rfl
set_option maxRecDepth 20000 in
theorem ac_boolean : Cond.arrayClass .boolean ∈ gw := gw_t2 195 rfl rfl
set_option maxRecDepth 20000 in
theorem ac_char : Cond.arrayClass .char ∈ gw := gw_t1 59 rfl rfl
set_option maxRecDepth 20000 in
theorem oi_1 : Cond.instanceMethod Lib.objectInit ∈ gw := gw_t1 41 rfl rfl
set_option maxRecDepth 20000 in
theorem oi_2 : Cond.code Lib.objectInit ⟨#[0xb1]⟩ 1 none ∈ gw := gw_t1 42 rfl rfl
def mdX0_init : ab_M := (RX0, "<init>", cX0_init, 1, none, [], dlX0_init)
set_option maxRecDepth 20000 in
theorem imX0_init : Cond.instanceMethod yX0_init ∈ gw := gw_t2 83 rfl rfl
set_option maxRecDepth 20000 in
theorem coX0_init : Cond.code yX0_init cX0_init 1 none ∈ gw := gw_t2 84 rfl rfl
def mdX0_clear : ab_M := (RX0, "clear", cX0_clear, 1, none, [], dlX0_clear)
set_option maxRecDepth 20000 in
theorem imX0_clear : Cond.instanceMethod yX0_clear ∈ gw := gw_t3 56 rfl rfl
set_option maxRecDepth 20000 in
theorem coX0_clear : Cond.code yX0_clear cX0_clear 1 none ∈ gw := gw_t3 58 rfl rfl
set_option maxRecDepth 20000 in
theorem seX0_clear : Cond.selects RX0 yX0_clear yX0_clear ∈ gw := gw_t3 57 rfl rfl
set_option maxRecDepth 20000 in
theorem yvX0_clear : ab_yV RX0 yX0_clear mdX0_clear 0 := ⟨imX0_clear, seX0_clear, iniX0, coX0_clear, ⟨by decide +kernel, by decide +kernel⟩, by decide +kernel⟩
def mdX0_addSymbol : ab_M := (RX0, "addSymbol", cX0_addSymbol, 3, none, [], dlX0_addSymbol)
set_option maxRecDepth 20000 in
theorem imX0_addSymbol : Cond.instanceMethod yX0_addSymbol ∈ gw := gw_t3 226 rfl rfl
set_option maxRecDepth 20000 in
theorem coX0_addSymbol : Cond.code yX0_addSymbol cX0_addSymbol 3 none ∈ gw := gw_t3 228 rfl rfl
set_option maxRecDepth 20000 in
theorem seX0_addSymbol : Cond.selects RX0 yX0_addSymbol yX0_addSymbol ∈ gw := gw_t3 227 rfl rfl
set_option maxRecDepth 20000 in
theorem yvX0_addSymbol : ab_yV RX0 yX0_addSymbol mdX0_addSymbol 1 := ⟨imX0_addSymbol, seX0_addSymbol, iniX0, coX0_addSymbol, ⟨by decide +kernel, by decide +kernel⟩, by decide +kernel⟩
def mdX0_addAttribute : ab_M := (RX0, "addAttribute", cX0_addAttribute, 6, none, [], dlX0_addAttribute)
set_option maxRecDepth 20000 in
theorem imX0_addAttribute : Cond.instanceMethod yX0_addAttribute ∈ gw := gw_t3 239 rfl rfl
set_option maxRecDepth 20000 in
theorem coX0_addAttribute : Cond.code yX0_addAttribute cX0_addAttribute 6 none ∈ gw := gw_t4 1 rfl rfl
set_option maxRecDepth 20000 in
theorem seX0_addAttribute : Cond.selects RX0 yX0_addAttribute yX0_addAttribute ∈ gw := gw_t4 0 rfl rfl
set_option maxRecDepth 20000 in
theorem yvX0_addAttribute : ab_yV RX0 yX0_addAttribute mdX0_addAttribute 3 := ⟨imX0_addAttribute, seX0_addAttribute, iniX0, coX0_addAttribute, ⟨by decide +kernel, by decide +kernel⟩, by decide +kernel⟩
def mdJ7_rangeCheck_23922 : ab_M := (RJ7, "rangeCheck", cJ7_rangeCheck_23922, 3, none, [], dlJ7_rangeCheck_23922)
set_option maxRecDepth 20000 in
theorem smJ7_rangeCheck_23922 : Cond.static yJ7_rangeCheck_23922 ∈ gw := gw_t4 18 rfl rfl
set_option maxRecDepth 20000 in
theorem coJ7_rangeCheck_23922 : Cond.code yJ7_rangeCheck_23922 cJ7_rangeCheck_23922 3 none ∈ gw := gw_t4 19 rfl rfl
set_option maxRecDepth 20000 in
theorem yvJ7_rangeCheck_23922 : ab_yS yJ7_rangeCheck_23922 mdJ7_rangeCheck_23922 3 := ⟨smJ7_rangeCheck_23922, iniJ7, coJ7_rangeCheck_23922, ⟨by decide +kernel, by decide +kernel⟩, by decide +kernel⟩
def mdJ7_fill_fda19 : ab_M := (RJ7, "fill", cJ7_fill_fda19, 5, none, [], dlJ7_fill_fda19)
set_option maxRecDepth 20000 in
theorem smJ7_fill_fda19 : Cond.static yJ7_fill_fda19 ∈ gw := gw_t4 15 rfl rfl
set_option maxRecDepth 20000 in
theorem coJ7_fill_fda19 : Cond.code yJ7_fill_fda19 cJ7_fill_fda19 5 none ∈ gw := gw_t4 16 rfl rfl
set_option maxRecDepth 20000 in
theorem yvJ7_fill_fda19 : ab_yS yJ7_fill_fda19 mdJ7_fill_fda19 4 := ⟨smJ7_fill_fda19, iniJ7, coJ7_fill_fda19, ⟨by decide +kernel, by decide +kernel⟩, by decide +kernel⟩
def mdX0_addProduction : ab_M := (RX0, "addProduction", cX0_addProduction, 3, none, [], dlX0_addProduction)
set_option maxRecDepth 20000 in
theorem imX0_addProduction : Cond.instanceMethod yX0_addProduction ∈ gw := gw_t4 11 rfl rfl
set_option maxRecDepth 20000 in
theorem coX0_addProduction : Cond.code yX0_addProduction cX0_addProduction 3 none ∈ gw := gw_t4 13 rfl rfl
set_option maxRecDepth 20000 in
theorem seX0_addProduction : Cond.selects RX0 yX0_addProduction yX0_addProduction ∈ gw := gw_t4 12 rfl rfl
set_option maxRecDepth 20000 in
theorem yvX0_addProduction : ab_yV RX0 yX0_addProduction mdX0_addProduction 1 := ⟨imX0_addProduction, seX0_addProduction, iniX0, coX0_addProduction, ⟨by decide +kernel, by decide +kernel⟩, by decide +kernel⟩
def mdX0_emit : ab_M := (RX0, "emit", cX0_emit, 3, (some .int), [], dlX0_emit)
set_option maxRecDepth 20000 in
theorem imX0_emit : Cond.instanceMethod yX0_emit ∈ gw := gw_t5 109 rfl rfl
set_option maxRecDepth 20000 in
theorem coX0_emit : Cond.code yX0_emit cX0_emit 3 (some .int) ∈ gw := gw_t5 111 rfl rfl
set_option maxRecDepth 20000 in
theorem seX0_emit : Cond.selects RX0 yX0_emit yX0_emit ∈ gw := gw_t5 110 rfl rfl
set_option maxRecDepth 20000 in
theorem yvX0_emit : ab_yV RX0 yX0_emit mdX0_emit 2 := ⟨imX0_emit, seX0_emit, iniX0, coX0_emit, ⟨by decide +kernel, by decide +kernel⟩, by decide +kernel⟩
def mdX0_findSymbol : ab_M := (RX0, "findSymbol", cX0_findSymbol, 4, (some .int), [], dlX0_findSymbol)
set_option maxRecDepth 20000 in
theorem imX0_findSymbol : Cond.instanceMethod yX0_findSymbol ∈ gw := gw_t3 222 rfl rfl
set_option maxRecDepth 20000 in
theorem coX0_findSymbol : Cond.code yX0_findSymbol cX0_findSymbol 4 (some .int) ∈ gw := gw_t3 224 rfl rfl
set_option maxRecDepth 20000 in
theorem seX0_findSymbol : Cond.selects RX0 yX0_findSymbol yX0_findSymbol ∈ gw := gw_t3 223 rfl rfl
set_option maxRecDepth 20000 in
theorem yvX0_findSymbol : ab_yV RX0 yX0_findSymbol mdX0_findSymbol 1 := ⟨imX0_findSymbol, seX0_findSymbol, iniX0, coX0_findSymbol, ⟨by decide +kernel, by decide +kernel⟩, by decide +kernel⟩
def mdX0_findProduction : ab_M := (RX0, "findProduction", cX0_findProduction, 4, (some .int), [], dlX0_findProduction)
set_option maxRecDepth 20000 in
theorem imX0_findProduction : Cond.instanceMethod yX0_findProduction ∈ gw := gw_t4 7 rfl rfl
set_option maxRecDepth 20000 in
theorem coX0_findProduction : Cond.code yX0_findProduction cX0_findProduction 4 (some .int) ∈ gw := gw_t4 9 rfl rfl
set_option maxRecDepth 20000 in
theorem seX0_findProduction : Cond.selects RX0 yX0_findProduction yX0_findProduction ∈ gw := gw_t4 8 rfl rfl
set_option maxRecDepth 20000 in
theorem yvX0_findProduction : ab_yV RX0 yX0_findProduction mdX0_findProduction 1 := ⟨imX0_findProduction, seX0_findProduction, iniX0, coX0_findProduction, ⟨by decide +kernel, by decide +kernel⟩, by decide +kernel⟩
def mdX0_findAttribute : ab_M := (RX0, "findAttribute", cX0_findAttribute, 5, (some .int), [], dlX0_findAttribute)
set_option maxRecDepth 20000 in
theorem imX0_findAttribute : Cond.instanceMethod yX0_findAttribute ∈ gw := gw_t3 235 rfl rfl
set_option maxRecDepth 20000 in
theorem coX0_findAttribute : Cond.code yX0_findAttribute cX0_findAttribute 5 (some .int) ∈ gw := gw_t3 237 rfl rfl
set_option maxRecDepth 20000 in
theorem seX0_findAttribute : Cond.selects RX0 yX0_findAttribute yX0_findAttribute ∈ gw := gw_t3 236 rfl rfl
set_option maxRecDepth 20000 in
theorem yvX0_findAttribute : ab_yV RX0 yX0_findAttribute mdX0_findAttribute 2 := ⟨imX0_findAttribute, seX0_findAttribute, iniX0, coX0_findAttribute, ⟨by decide +kernel, by decide +kernel⟩, by decide +kernel⟩
def mdX0_symbolAt : ab_M := (RX0, "symbolAt", cX0_symbolAt, 3, (some .int), [], dlX0_symbolAt)
set_option maxRecDepth 20000 in
theorem imX0_symbolAt : Cond.instanceMethod yX0_symbolAt ∈ gw := gw_t5 93 rfl rfl
set_option maxRecDepth 20000 in
theorem coX0_symbolAt : Cond.code yX0_symbolAt cX0_symbolAt 3 (some .int) ∈ gw := gw_t5 95 rfl rfl
set_option maxRecDepth 20000 in
theorem seX0_symbolAt : Cond.selects RX0 yX0_symbolAt yX0_symbolAt ∈ gw := gw_t5 94 rfl rfl
set_option maxRecDepth 20000 in
theorem yvX0_symbolAt : ab_yV RX0 yX0_symbolAt mdX0_symbolAt 2 := ⟨imX0_symbolAt, seX0_symbolAt, iniX0, coX0_symbolAt, ⟨by decide +kernel, by decide +kernel⟩, by decide +kernel⟩
def mdX0_allOf : ab_M := (RX0, "allOf", cX0_allOf, 2, (some .int), [], dlX0_allOf)
set_option maxRecDepth 20000 in
theorem imX0_allOf : Cond.instanceMethod yX0_allOf ∈ gw := gw_t5 146 rfl rfl
set_option maxRecDepth 20000 in
theorem coX0_allOf : Cond.code yX0_allOf cX0_allOf 2 (some .int) ∈ gw := gw_t5 148 rfl rfl
set_option maxRecDepth 20000 in
theorem seX0_allOf : Cond.selects RX0 yX0_allOf yX0_allOf ∈ gw := gw_t5 147 rfl rfl
set_option maxRecDepth 20000 in
theorem yvX0_allOf : ab_yV RX0 yX0_allOf mdX0_allOf 1 := ⟨imX0_allOf, seX0_allOf, iniX0, coX0_allOf, ⟨by decide +kernel, by decide +kernel⟩, by decide +kernel⟩
def mdX0_isDown : ab_M := (RX0, "isDown", cX0_isDown, 3, (some .boolean), [], dlX0_isDown)
set_option maxRecDepth 20000 in
theorem imX0_isDown : Cond.instanceMethod yX0_isDown ∈ gw := gw_t5 97 rfl rfl
set_option maxRecDepth 20000 in
theorem coX0_isDown : Cond.code yX0_isDown cX0_isDown 3 (some .boolean) ∈ gw := gw_t5 99 rfl rfl
set_option maxRecDepth 20000 in
theorem seX0_isDown : Cond.selects RX0 yX0_isDown yX0_isDown ∈ gw := gw_t5 98 rfl rfl
set_option maxRecDepth 20000 in
theorem yvX0_isDown : ab_yV RX0 yX0_isDown mdX0_isDown 2 := ⟨imX0_isDown, seX0_isDown, iniX0, coX0_isDown, ⟨by decide +kernel, by decide +kernel⟩, by decide +kernel⟩
def mdX0_definable : ab_M := (RX0, "definable", cX0_definable, 5, (some .int), [], dlX0_definable)
set_option maxRecDepth 20000 in
theorem imX0_definable : Cond.instanceMethod yX0_definable ∈ gw := gw_t5 141 rfl rfl
set_option maxRecDepth 20000 in
theorem coX0_definable : Cond.code yX0_definable cX0_definable 5 (some .int) ∈ gw := gw_t5 143 rfl rfl
set_option maxRecDepth 20000 in
theorem seX0_definable : Cond.selects RX0 yX0_definable yX0_definable ∈ gw := gw_t5 142 rfl rfl
set_option maxRecDepth 20000 in
theorem yvX0_definable : ab_yV RX0 yX0_definable mdX0_definable 1 := ⟨imX0_definable, seX0_definable, iniX0, coX0_definable, ⟨by decide +kernel, by decide +kernel⟩, by decide +kernel⟩
def mdX0_visitOf : ab_M := (RX0, "visitOf", cX0_visitOf, 3, (some .int), [], dlX0_visitOf)
set_option maxRecDepth 20000 in
theorem imX0_visitOf : Cond.instanceMethod yX0_visitOf ∈ gw := gw_t5 220 rfl rfl
set_option maxRecDepth 20000 in
theorem coX0_visitOf : Cond.code yX0_visitOf cX0_visitOf 3 (some .int) ∈ gw := gw_t5 222 rfl rfl
set_option maxRecDepth 20000 in
theorem seX0_visitOf : Cond.selects RX0 yX0_visitOf yX0_visitOf ∈ gw := gw_t5 221 rfl rfl
set_option maxRecDepth 20000 in
theorem yvX0_visitOf : ab_yV RX0 yX0_visitOf mdX0_visitOf 2 := ⟨imX0_visitOf, seX0_visitOf, iniX0, coX0_visitOf, ⟨by decide +kernel, by decide +kernel⟩, by decide +kernel⟩
def mdX0_inVisit : ab_M := (RX0, "inVisit", cX0_inVisit, 5, (some .int), [], dlX0_inVisit)
set_option maxRecDepth 20000 in
theorem imX0_inVisit : Cond.instanceMethod yX0_inVisit ∈ gw := gw_t5 217 rfl rfl
set_option maxRecDepth 20000 in
theorem coX0_inVisit : Cond.code yX0_inVisit cX0_inVisit 5 (some .int) ∈ gw := gw_t5 218 rfl rfl
set_option maxRecDepth 20000 in
theorem seX0_inVisit : Cond.selects RX0 yX0_inVisit yX0_inVisit ∈ gw := gw_of (List.mem_of_getElem? (i := 29) (by decide +kernel)) rfl
set_option maxRecDepth 20000 in
theorem yvX0_inVisit : ab_yV RX0 yX0_inVisit mdX0_inVisit 2 := ⟨imX0_inVisit, seX0_inVisit, iniX0, coX0_inVisit, ⟨by decide +kernel, by decide +kernel⟩, by decide +kernel⟩
def mdX0_downs : ab_M := (RX0, "downs", cX0_downs, 3, (some .int), [], dlX0_downs)
set_option maxRecDepth 20000 in
theorem imX0_downs : Cond.instanceMethod yX0_downs ∈ gw := gw_t5 212 rfl rfl
set_option maxRecDepth 20000 in
theorem coX0_downs : Cond.code yX0_downs cX0_downs 3 (some .int) ∈ gw := gw_t5 214 rfl rfl
set_option maxRecDepth 20000 in
theorem seX0_downs : Cond.selects RX0 yX0_downs yX0_downs ∈ gw := gw_t5 213 rfl rfl
set_option maxRecDepth 20000 in
theorem yvX0_downs : ab_yV RX0 yX0_downs mdX0_downs 2 := ⟨imX0_downs, seX0_downs, iniX0, coX0_downs, ⟨by decide +kernel, by decide +kernel⟩, by decide +kernel⟩
def mdX0_ups : ab_M := (RX0, "ups", cX0_ups, 3, (some .int), [], dlX0_ups)
set_option maxRecDepth 20000 in
theorem imX0_ups : Cond.instanceMethod yX0_ups ∈ gw := gw_t5 236 rfl rfl
set_option maxRecDepth 20000 in
theorem coX0_ups : Cond.code yX0_ups cX0_ups 3 (some .int) ∈ gw := gw_t5 238 rfl rfl
set_option maxRecDepth 20000 in
theorem seX0_ups : Cond.selects RX0 yX0_ups yX0_ups ∈ gw := gw_t5 237 rfl rfl
set_option maxRecDepth 20000 in
theorem yvX0_ups : ab_yV RX0 yX0_ups mdX0_ups 2 := ⟨imX0_ups, seX0_ups, iniX0, coX0_ups, ⟨by decide +kernel, by decide +kernel⟩, by decide +kernel⟩
def mdX1_init : ab_M := (RX1, "<init>", cX1_init, 2, none, [], dlX1_init)
set_option maxRecDepth 20000 in
theorem imX1_init : Cond.instanceMethod yX1_init ∈ gw := gw_t1 110 rfl rfl
set_option maxRecDepth 20000 in
theorem coX1_init : Cond.code yX1_init cX1_init 2 none ∈ gw := gw_t1 111 rfl rfl
def mdX6_skipBlanks : ab_M := (RX6, "skipBlanks", cX6_skipBlanks, 3, (some .int), [], dlX6_skipBlanks)
set_option maxRecDepth 20000 in
theorem imX6_skipBlanks : Cond.instanceMethod yX6_skipBlanks ∈ gw := gw_t3 65 rfl rfl
set_option maxRecDepth 20000 in
theorem coX6_skipBlanks : Cond.code yX6_skipBlanks cX6_skipBlanks 3 (some .int) ∈ gw := gw_t3 66 rfl rfl
set_option maxRecDepth 20000 in
theorem seX6_skipBlanks : Cond.selects RX6 yX6_skipBlanks yX6_skipBlanks ∈ gw := gw_of (List.mem_of_getElem? (i := 0) (by decide +kernel)) rfl
set_option maxRecDepth 20000 in
theorem yvX6_skipBlanks : ab_yV RX6 yX6_skipBlanks mdX6_skipBlanks 1 := ⟨imX6_skipBlanks, seX6_skipBlanks, iniX6, coX6_skipBlanks, ⟨by decide +kernel, by decide +kernel⟩, by decide +kernel⟩
def mdX6_isLetter : ab_M := (RX6, "isLetter", cX6_isLetter, 1, (some .boolean), [], dlX6_isLetter)
set_option maxRecDepth 20000 in
theorem smX6_isLetter : Cond.static yX6_isLetter ∈ gw := gw_t3 72 rfl rfl
set_option maxRecDepth 20000 in
theorem coX6_isLetter : Cond.code yX6_isLetter cX6_isLetter 1 (some .boolean) ∈ gw := gw_t3 73 rfl rfl
set_option maxRecDepth 20000 in
theorem yvX6_isLetter : ab_yS yX6_isLetter mdX6_isLetter 1 := ⟨smX6_isLetter, iniX6, coX6_isLetter, ⟨by decide +kernel, by decide +kernel⟩, by decide +kernel⟩
def mdJ0_coder_7d493 : ab_M := (RJ0, "coder", cJ0_coder_7d493, 1, (some .byte), [], dlJ0_coder_7d493)
set_option maxRecDepth 20000 in
theorem imJ0_coder_7d493 : Cond.instanceMethod yJ0_coder_7d493 ∈ gw := gw_t3 92 rfl rfl
set_option maxRecDepth 20000 in
theorem coJ0_coder_7d493 : Cond.code yJ0_coder_7d493 cJ0_coder_7d493 1 (some .byte) ∈ gw := gw_t3 94 rfl rfl
set_option maxRecDepth 20000 in
theorem seJ0_coder_7d493 : Cond.selects RJ0 yJ0_coder_7d493 yJ0_coder_7d493 ∈ gw := gw_t3 93 rfl rfl
set_option maxRecDepth 20000 in
theorem yvJ0_coder_7d493 : ab_yV RJ0 yJ0_coder_7d493 mdJ0_coder_7d493 0 := ⟨imJ0_coder_7d493, seJ0_coder_7d493, iniJ0, coJ0_coder_7d493, ⟨by decide +kernel, by decide +kernel⟩, by decide +kernel⟩
def mdJ0_length_8abf5 : ab_M := (RJ0, "length", cJ0_length_8abf5, 1, (some .int), [], dlJ0_length_8abf5)
set_option maxRecDepth 20000 in
theorem imJ0_length_8abf5 : Cond.instanceMethod yJ0_length_8abf5 ∈ gw := gw_t3 88 rfl rfl
set_option maxRecDepth 20000 in
theorem coJ0_length_8abf5 : Cond.code yJ0_length_8abf5 cJ0_length_8abf5 1 (some .int) ∈ gw := gw_t3 90 rfl rfl
set_option maxRecDepth 20000 in
theorem seJ0_length_8abf5 : Cond.selects RJ0 yJ0_length_8abf5 yJ0_length_8abf5 ∈ gw := gw_t3 89 rfl rfl
set_option maxRecDepth 20000 in
theorem yvJ0_length_8abf5 : ab_yV RJ0 yJ0_length_8abf5 mdJ0_length_8abf5 0 := ⟨imJ0_length_8abf5, seJ0_length_8abf5, iniJ0, coJ0_length_8abf5, ⟨by decide +kernel, by decide +kernel⟩, by decide +kernel⟩
def mdJ0_isLatin1_aae02 : ab_M := (RJ0, "isLatin1", cJ0_isLatin1_aae02, 1, (some .boolean), [], dlJ0_isLatin1_aae02)
set_option maxRecDepth 20000 in
theorem imJ0_isLatin1_aae02 : Cond.instanceMethod yJ0_isLatin1_aae02 ∈ gw := gw_t3 102 rfl rfl
set_option maxRecDepth 20000 in
theorem coJ0_isLatin1_aae02 : Cond.code yJ0_isLatin1_aae02 cJ0_isLatin1_aae02 1 (some .boolean) ∈ gw := gw_t3 104 rfl rfl
set_option maxRecDepth 20000 in
theorem seJ0_isLatin1_aae02 : Cond.selects RJ0 yJ0_isLatin1_aae02 yJ0_isLatin1_aae02 ∈ gw := gw_t3 103 rfl rfl
set_option maxRecDepth 20000 in
theorem yvJ0_isLatin1_aae02 : ab_yV RJ0 yJ0_isLatin1_aae02 mdJ0_isLatin1_aae02 0 := ⟨imJ0_isLatin1_aae02, seJ0_isLatin1_aae02, iniJ0, coJ0_isLatin1_aae02, ⟨by decide +kernel, by decide +kernel⟩, by decide +kernel⟩
def mdJ3_checkIndex_8e157 : ab_M := (RJ3, "checkIndex", cJ3_checkIndex_8e157, 3, (some .int), [], dlJ3_checkIndex_8e157)
set_option maxRecDepth 20000 in
theorem smJ3_checkIndex_8e157 : Cond.static yJ3_checkIndex_8e157 ∈ gw := gw_t3 114 rfl rfl
set_option maxRecDepth 20000 in
theorem coJ3_checkIndex_8e157 : Cond.code yJ3_checkIndex_8e157 cJ3_checkIndex_8e157 3 (some .int) ∈ gw := gw_t3 115 rfl rfl
set_option maxRecDepth 20000 in
theorem yvJ3_checkIndex_8e157 : ab_yS yJ3_checkIndex_8e157 mdJ3_checkIndex_8e157 3 := ⟨smJ3_checkIndex_8e157, iniJ3, coJ3_checkIndex_8e157, ⟨by decide +kernel, by decide +kernel⟩, by decide +kernel⟩
def mdJ0_checkIndex_df160 : ab_M := (RJ0, "checkIndex", cJ0_checkIndex_df160, 2, none, [], dlJ0_checkIndex_df160)
set_option maxRecDepth 20000 in
theorem smJ0_checkIndex_df160 : Cond.static yJ0_checkIndex_df160 ∈ gw := gw_t3 109 rfl rfl
set_option maxRecDepth 20000 in
theorem coJ0_checkIndex_df160 : Cond.code yJ0_checkIndex_df160 cJ0_checkIndex_df160 2 none ∈ gw := gw_t3 110 rfl rfl
set_option maxRecDepth 20000 in
theorem yvJ0_checkIndex_df160 : ab_yS yJ0_checkIndex_df160 mdJ0_checkIndex_df160 2 := ⟨smJ0_checkIndex_df160, iniJ0, coJ0_checkIndex_df160, ⟨by decide +kernel, by decide +kernel⟩, by decide +kernel⟩
def mdJ1_charAt_3b067 : ab_M := (RJ1, "charAt", cJ1_charAt_3b067, 2, (some .char), [], dlJ1_charAt_3b067)
set_option maxRecDepth 20000 in
theorem smJ1_charAt_3b067 : Cond.static yJ1_charAt_3b067 ∈ gw := gw_t3 106 rfl rfl
set_option maxRecDepth 20000 in
theorem coJ1_charAt_3b067 : Cond.code yJ1_charAt_3b067 cJ1_charAt_3b067 2 (some .char) ∈ gw := gw_t3 107 rfl rfl
set_option maxRecDepth 20000 in
theorem yvJ1_charAt_3b067 : ab_yS yJ1_charAt_3b067 mdJ1_charAt_3b067 2 := ⟨smJ1_charAt_3b067, iniJ1, coJ1_charAt_3b067, ⟨by decide +kernel, by decide +kernel⟩, by decide +kernel⟩
def mdJ0_charAt_5068e : ab_M := (RJ0, "charAt", cJ0_charAt_5068e, 2, (some .char), [], dlJ0_charAt_5068e)
set_option maxRecDepth 20000 in
theorem imJ0_charAt_5068e : Cond.instanceMethod yJ0_charAt_5068e ∈ gw := gw_t3 98 rfl rfl
set_option maxRecDepth 20000 in
theorem coJ0_charAt_5068e : Cond.code yJ0_charAt_5068e cJ0_charAt_5068e 2 (some .char) ∈ gw := gw_t3 100 rfl rfl
set_option maxRecDepth 20000 in
theorem seJ0_charAt_5068e : Cond.selects RJ0 yJ0_charAt_5068e yJ0_charAt_5068e ∈ gw := gw_t3 99 rfl rfl
set_option maxRecDepth 20000 in
theorem yvJ0_charAt_5068e : ab_yV RJ0 yJ0_charAt_5068e mdJ0_charAt_5068e 1 := ⟨imJ0_charAt_5068e, seJ0_charAt_5068e, iniJ0, coJ0_charAt_5068e, ⟨by decide +kernel, by decide +kernel⟩, by decide +kernel⟩
def mdX6_spells : ab_M := (RX6, "spells", cX6_spells, 5, (some .boolean), [], dlX6_spells)
set_option maxRecDepth 20000 in
theorem imX6_spells : Cond.instanceMethod yX6_spells ∈ gw := gw_t3 85 rfl rfl
set_option maxRecDepth 20000 in
theorem coX6_spells : Cond.code yX6_spells cX6_spells 5 (some .boolean) ∈ gw := gw_t3 86 rfl rfl
set_option maxRecDepth 20000 in
theorem seX6_spells : Cond.selects RX6 yX6_spells yX6_spells ∈ gw := gw_of (List.mem_of_getElem? (i := 4) (by decide +kernel)) rfl
set_option maxRecDepth 20000 in
theorem yvX6_spells : ab_yV RX6 yX6_spells mdX6_spells 3 := ⟨imX6_spells, seX6_spells, iniX6, coX6_spells, ⟨by decide +kernel, by decide +kernel⟩, by decide +kernel⟩
def mdX6_kindOfName : ab_M := (RX6, "kindOfName", cX6_kindOfName, 3, (some .int), [], dlX6_kindOfName)
set_option maxRecDepth 20000 in
theorem imX6_kindOfName : Cond.instanceMethod yX6_kindOfName ∈ gw := gw_t3 80 rfl rfl
set_option maxRecDepth 20000 in
theorem coX6_kindOfName : Cond.code yX6_kindOfName cX6_kindOfName 3 (some .int) ∈ gw := gw_t3 81 rfl rfl
set_option maxRecDepth 20000 in
theorem seX6_kindOfName : Cond.selects RX6 yX6_kindOfName yX6_kindOfName ∈ gw := gw_of (List.mem_of_getElem? (i := 3) (by decide +kernel)) rfl
set_option maxRecDepth 20000 in
theorem yvX6_kindOfName : ab_yV RX6 yX6_kindOfName mdX6_kindOfName 2 := ⟨imX6_kindOfName, seX6_kindOfName, iniX6, coX6_kindOfName, ⟨by decide +kernel, by decide +kernel⟩, by decide +kernel⟩
def mdX6_scanName : ab_M := (RX6, "scanName", cX6_scanName, 5, (some .int), [], dlX6_scanName)
set_option maxRecDepth 20000 in
theorem imX6_scanName : Cond.instanceMethod yX6_scanName ∈ gw := gw_t3 76 rfl rfl
set_option maxRecDepth 20000 in
theorem coX6_scanName : Cond.code yX6_scanName cX6_scanName 5 (some .int) ∈ gw := gw_t3 77 rfl rfl
set_option maxRecDepth 20000 in
theorem seX6_scanName : Cond.selects RX6 yX6_scanName yX6_scanName ∈ gw := gw_of (List.mem_of_getElem? (i := 2) (by decide +kernel)) rfl
set_option maxRecDepth 20000 in
theorem yvX6_scanName : ab_yV RX6 yX6_scanName mdX6_scanName 1 := ⟨imX6_scanName, seX6_scanName, iniX6, coX6_scanName, ⟨by decide +kernel, by decide +kernel⟩, by decide +kernel⟩
def mdX6_isDigit : ab_M := (RX6, "isDigit", cX6_isDigit, 1, (some .boolean), [], dlX6_isDigit)
set_option maxRecDepth 20000 in
theorem smX6_isDigit : Cond.static yX6_isDigit ∈ gw := gw_t3 141 rfl rfl
set_option maxRecDepth 20000 in
theorem coX6_isDigit : Cond.code yX6_isDigit cX6_isDigit 1 (some .boolean) ∈ gw := gw_t3 142 rfl rfl
set_option maxRecDepth 20000 in
theorem yvX6_isDigit : ab_yS yX6_isDigit mdX6_isDigit 1 := ⟨smX6_isDigit, iniX6, coX6_isDigit, ⟨by decide +kernel, by decide +kernel⟩, by decide +kernel⟩
def mdX6_scanNumber : ab_M := (RX6, "scanNumber", cX6_scanNumber, 5, (some .int), [], dlX6_scanNumber)
set_option maxRecDepth 20000 in
theorem imX6_scanNumber : Cond.instanceMethod yX6_scanNumber ∈ gw := gw_t3 145 rfl rfl
set_option maxRecDepth 20000 in
theorem coX6_scanNumber : Cond.code yX6_scanNumber cX6_scanNumber 5 (some .int) ∈ gw := gw_t3 146 rfl rfl
set_option maxRecDepth 20000 in
theorem seX6_scanNumber : Cond.selects RX6 yX6_scanNumber yX6_scanNumber ∈ gw := gw_of (List.mem_of_getElem? (i := 5) (by decide +kernel)) rfl
set_option maxRecDepth 20000 in
theorem yvX6_scanNumber : ab_yV RX6 yX6_scanNumber mdX6_scanNumber 1 := ⟨imX6_scanNumber, seX6_scanNumber, iniX6, coX6_scanNumber, ⟨by decide +kernel, by decide +kernel⟩, by decide +kernel⟩
def mdJ1_canEncode_9a6ad : ab_M := (RJ1, "canEncode", cJ1_canEncode_9a6ad, 1, (some .boolean), [], dlJ1_canEncode_9a6ad)
set_option maxRecDepth 20000 in
theorem smJ1_canEncode_9a6ad : Cond.static yJ1_canEncode_9a6ad ∈ gw := gw_t3 163 rfl rfl
set_option maxRecDepth 20000 in
theorem coJ1_canEncode_9a6ad : Cond.code yJ1_canEncode_9a6ad cJ1_canEncode_9a6ad 1 (some .boolean) ∈ gw := gw_t3 164 rfl rfl
set_option maxRecDepth 20000 in
theorem yvJ1_canEncode_9a6ad : ab_yS yJ1_canEncode_9a6ad mdJ1_canEncode_9a6ad 1 := ⟨smJ1_canEncode_9a6ad, iniJ1, coJ1_canEncode_9a6ad, ⟨by decide +kernel, by decide +kernel⟩, by decide +kernel⟩
def mdJ1_indexOfChar_4cfef : ab_M := (RJ1, "indexOfChar", cJ1_indexOfChar_4cfef, 6, (some .int), [], dlJ1_indexOfChar_4cfef)
set_option maxRecDepth 20000 in
theorem smJ1_indexOfChar_4cfef : Cond.static yJ1_indexOfChar_4cfef ∈ gw := gw_t3 172 rfl rfl
set_option maxRecDepth 20000 in
theorem coJ1_indexOfChar_4cfef : Cond.code yJ1_indexOfChar_4cfef cJ1_indexOfChar_4cfef 6 (some .int) ∈ gw := gw_t3 173 rfl rfl
set_option maxRecDepth 20000 in
theorem yvJ1_indexOfChar_4cfef : ab_yS yJ1_indexOfChar_4cfef mdJ1_indexOfChar_4cfef 4 := ⟨smJ1_indexOfChar_4cfef, iniJ1, coJ1_indexOfChar_4cfef, ⟨by decide +kernel, by decide +kernel⟩, by decide +kernel⟩
def mdJ1_indexOf_4cfef : ab_M := (RJ1, "indexOf", cJ1_indexOf_4cfef, 4, (some .int), [], dlJ1_indexOf_4cfef)
set_option maxRecDepth 20000 in
theorem smJ1_indexOf_4cfef : Cond.static yJ1_indexOf_4cfef ∈ gw := gw_t3 160 rfl rfl
set_option maxRecDepth 20000 in
theorem coJ1_indexOf_4cfef : Cond.code yJ1_indexOf_4cfef cJ1_indexOf_4cfef 4 (some .int) ∈ gw := gw_t3 161 rfl rfl
set_option maxRecDepth 20000 in
theorem yvJ1_indexOf_4cfef : ab_yS yJ1_indexOf_4cfef mdJ1_indexOf_4cfef 4 := ⟨smJ1_indexOf_4cfef, iniJ1, coJ1_indexOf_4cfef, ⟨by decide +kernel, by decide +kernel⟩, by decide +kernel⟩
def mdJ0_indexOf_7cf53 : ab_M := (RJ0, "indexOf", cJ0_indexOf_7cf53, 3, (some .int), [], dlJ0_indexOf_7cf53)
set_option maxRecDepth 20000 in
theorem imJ0_indexOf_7cf53 : Cond.instanceMethod yJ0_indexOf_7cf53 ∈ gw := gw_t3 155 rfl rfl
set_option maxRecDepth 20000 in
theorem coJ0_indexOf_7cf53 : Cond.code yJ0_indexOf_7cf53 cJ0_indexOf_7cf53 3 (some .int) ∈ gw := gw_t3 157 rfl rfl
set_option maxRecDepth 20000 in
theorem seJ0_indexOf_7cf53 : Cond.selects RJ0 yJ0_indexOf_7cf53 yJ0_indexOf_7cf53 ∈ gw := gw_t3 156 rfl rfl
set_option maxRecDepth 20000 in
theorem yvJ0_indexOf_7cf53 : ab_yV RJ0 yJ0_indexOf_7cf53 mdJ0_indexOf_7cf53 2 := ⟨imJ0_indexOf_7cf53, seJ0_indexOf_7cf53, iniJ0, coJ0_indexOf_7cf53, ⟨by decide +kernel, by decide +kernel⟩, by decide +kernel⟩
def mdJ0_indexOf_0f7a4 : ab_M := (RJ0, "indexOf", cJ0_indexOf_0f7a4, 2, (some .int), [], dlJ0_indexOf_0f7a4)
set_option maxRecDepth 20000 in
theorem imJ0_indexOf_0f7a4 : Cond.instanceMethod yJ0_indexOf_0f7a4 ∈ gw := gw_t3 151 rfl rfl
set_option maxRecDepth 20000 in
theorem coJ0_indexOf_0f7a4 : Cond.code yJ0_indexOf_0f7a4 cJ0_indexOf_0f7a4 2 (some .int) ∈ gw := gw_t3 153 rfl rfl
set_option maxRecDepth 20000 in
theorem seJ0_indexOf_0f7a4 : Cond.selects RJ0 yJ0_indexOf_0f7a4 yJ0_indexOf_0f7a4 ∈ gw := gw_t3 152 rfl rfl
set_option maxRecDepth 20000 in
theorem yvJ0_indexOf_0f7a4 : ab_yV RJ0 yJ0_indexOf_0f7a4 mdJ0_indexOf_0f7a4 1 := ⟨imJ0_indexOf_0f7a4, seJ0_indexOf_0f7a4, iniJ0, coJ0_indexOf_0f7a4, ⟨by decide +kernel, by decide +kernel⟩, by decide +kernel⟩
def mdX6_scan : ab_M := (RX6, "scan", cX6_scan, 3, (some .int), [], dlX6_scan)
set_option maxRecDepth 20000 in
theorem imX6_scan : Cond.instanceMethod yX6_scan ∈ gw := gw_t3 69 rfl rfl
set_option maxRecDepth 20000 in
theorem coX6_scan : Cond.code yX6_scan cX6_scan 3 (some .int) ∈ gw := gw_t3 70 rfl rfl
set_option maxRecDepth 20000 in
theorem seX6_scan : Cond.selects RX6 yX6_scan yX6_scan ∈ gw := gw_of (List.mem_of_getElem? (i := 1) (by decide +kernel)) rfl
set_option maxRecDepth 20000 in
theorem yvX6_scan : ab_yV RX6 yX6_scan mdX6_scan 1 := ⟨imX6_scan, seX6_scan, iniX6, coX6_scan, ⟨by decide +kernel, by decide +kernel⟩, by decide +kernel⟩
def mdX6_advance : ab_M := (RX6, "advance", cX6_advance, 1, none, [], dlX6_advance)
set_option maxRecDepth 20000 in
theorem imX6_advance : Cond.instanceMethod yX6_advance ∈ gw := gw_t3 210 rfl rfl
set_option maxRecDepth 20000 in
theorem coX6_advance : Cond.code yX6_advance cX6_advance 1 none ∈ gw := gw_t3 212 rfl rfl
set_option maxRecDepth 20000 in
theorem seX6_advance : Cond.selects RX6 yX6_advance yX6_advance ∈ gw := gw_t3 211 rfl rfl
set_option maxRecDepth 20000 in
theorem yvX6_advance : ab_yV RX6 yX6_advance mdX6_advance 0 := ⟨imX6_advance, seX6_advance, iniX6, coX6_advance, ⟨by decide +kernel, by decide +kernel⟩, by decide +kernel⟩
def mdX6_open : ab_M := (RX6, "open", cX6_open, 3, none, [], dlX6_open)
set_option maxRecDepth 20000 in
theorem imX6_open : Cond.instanceMethod yX6_open ∈ gw := gw_t3 60 rfl rfl
set_option maxRecDepth 20000 in
theorem coX6_open : Cond.code yX6_open cX6_open 3 none ∈ gw := gw_t3 62 rfl rfl
set_option maxRecDepth 20000 in
theorem seX6_open : Cond.selects RX6 yX6_open yX6_open ∈ gw := gw_t3 61 rfl rfl
set_option maxRecDepth 20000 in
theorem yvX6_open : ab_yV RX6 yX6_open mdX6_open 0 := ⟨imX6_open, seX6_open, iniX6, coX6_open, ⟨by decide +kernel, by decide +kernel⟩, by decide +kernel⟩
def mdX6_take : ab_M := (RX6, "take", cX6_take, 2, (some .boolean), [], dlX6_take)
set_option maxRecDepth 20000 in
theorem imX6_take : Cond.instanceMethod yX6_take ∈ gw := gw_t3 218 rfl rfl
set_option maxRecDepth 20000 in
theorem coX6_take : Cond.code yX6_take cX6_take 2 (some .boolean) ∈ gw := gw_t3 220 rfl rfl
set_option maxRecDepth 20000 in
theorem seX6_take : Cond.selects RX6 yX6_take yX6_take ∈ gw := gw_t3 219 rfl rfl
set_option maxRecDepth 20000 in
theorem yvX6_take : ab_yV RX6 yX6_take mdX6_take 1 := ⟨imX6_take, seX6_take, iniX6, coX6_take, ⟨by decide +kernel, by decide +kernel⟩, by decide +kernel⟩
def mdX1_readAttributes : ab_M := (RX1, "readAttributes", cX1_readAttributes, 4, (some .boolean), [], dlX1_readAttributes)
set_option maxRecDepth 20000 in
theorem imX1_readAttributes : Cond.instanceMethod yX1_readAttributes ∈ gw := gw_t3 232 rfl rfl
set_option maxRecDepth 20000 in
theorem coX1_readAttributes : Cond.code yX1_readAttributes cX1_readAttributes 4 (some .boolean) ∈ gw := gw_t3 233 rfl rfl
set_option maxRecDepth 20000 in
theorem seX1_readAttributes : Cond.selects RX1 yX1_readAttributes yX1_readAttributes ∈ gw := gw_of (List.mem_of_getElem? (i := 7) (by decide +kernel)) rfl
set_option maxRecDepth 20000 in
theorem yvX1_readAttributes : ab_yV RX1 yX1_readAttributes mdX1_readAttributes 2 := ⟨imX1_readAttributes, seX1_readAttributes, iniX1, coX1_readAttributes, ⟨by decide +kernel, by decide +kernel⟩, by decide +kernel⟩
def mdX1_readSymbol : ab_M := (RX1, "readSymbol", cX1_readSymbol, 2, (some .boolean), [], dlX1_readSymbol)
set_option maxRecDepth 20000 in
theorem imX1_readSymbol : Cond.instanceMethod yX1_readSymbol ∈ gw := gw_t3 215 rfl rfl
set_option maxRecDepth 20000 in
theorem coX1_readSymbol : Cond.code yX1_readSymbol cX1_readSymbol 2 (some .boolean) ∈ gw := gw_t3 216 rfl rfl
set_option maxRecDepth 20000 in
theorem seX1_readSymbol : Cond.selects RX1 yX1_readSymbol yX1_readSymbol ∈ gw := gw_of (List.mem_of_getElem? (i := 6) (by decide +kernel)) rfl
set_option maxRecDepth 20000 in
theorem yvX1_readSymbol : ab_yV RX1 yX1_readSymbol mdX1_readSymbol 0 := ⟨imX1_readSymbol, seX1_readSymbol, iniX1, coX1_readSymbol, ⟨by decide +kernel, by decide +kernel⟩, by decide +kernel⟩
def mdX1_readOccurrence : ab_M := (RX1, "readOccurrence", cX1_readOccurrence, 3, (some .boolean), [], dlX1_readOccurrence)
set_option maxRecDepth 20000 in
theorem imX1_readOccurrence : Cond.instanceMethod yX1_readOccurrence ∈ gw := gw_t5 78 rfl rfl
set_option maxRecDepth 20000 in
theorem coX1_readOccurrence : Cond.code yX1_readOccurrence cX1_readOccurrence 3 (some .boolean) ∈ gw := gw_t5 79 rfl rfl
set_option maxRecDepth 20000 in
theorem seX1_readOccurrence : Cond.selects RX1 yX1_readOccurrence yX1_readOccurrence ∈ gw := gw_of (List.mem_of_getElem? (i := 10) (by decide +kernel)) rfl
set_option maxRecDepth 20000 in
theorem yvX1_readOccurrence : ab_yV RX1 yX1_readOccurrence mdX1_readOccurrence 1 := ⟨imX1_readOccurrence, seX1_readOccurrence, iniX1, coX1_readOccurrence, ⟨by decide +kernel, by decide +kernel⟩, by decide +kernel⟩
def mdX1_readRight : ab_M := (RX1, "readRight", cX1_readRight, 2, (some .boolean), [], dlX1_readRight)
set_option maxRecDepth 20000 in
theorem imX1_readRight : Cond.instanceMethod yX1_readRight ∈ gw := gw_t5 82 rfl rfl
set_option maxRecDepth 20000 in
theorem coX1_readRight : Cond.code yX1_readRight cX1_readRight 2 (some .boolean) ∈ gw := gw_t5 83 rfl rfl
set_option maxRecDepth 20000 in
theorem seX1_readRight : Cond.selects RX1 yX1_readRight yX1_readRight ∈ gw := gw_of (List.mem_of_getElem? (i := 11) (by decide +kernel)) rfl
set_option maxRecDepth 20000 in
theorem yvX1_readRight : ab_yV RX1 yX1_readRight mdX1_readRight 0 := ⟨imX1_readRight, seX1_readRight, iniX1, coX1_readRight, ⟨by decide +kernel, by decide +kernel⟩, by decide +kernel⟩
def mdX1_readSlot : ab_M := (RX1, "readSlot", cX1_readSlot, 6, (some .int), [], dlX1_readSlot)
set_option maxRecDepth 20000 in
theorem imX1_readSlot : Cond.instanceMethod yX1_readSlot ∈ gw := gw_t5 90 rfl rfl
set_option maxRecDepth 20000 in
theorem coX1_readSlot : Cond.code yX1_readSlot cX1_readSlot 6 (some .int) ∈ gw := gw_t5 91 rfl rfl
set_option maxRecDepth 20000 in
theorem seX1_readSlot : Cond.selects RX1 yX1_readSlot yX1_readSlot ∈ gw := gw_of (List.mem_of_getElem? (i := 13) (by decide +kernel)) rfl
set_option maxRecDepth 20000 in
theorem yvX1_readSlot : ab_yV RX1 yX1_readSlot mdX1_readSlot 1 := ⟨imX1_readSlot, seX1_readSlot, iniX1, coX1_readSlot, ⟨by decide +kernel, by decide +kernel⟩, by decide +kernel⟩
def mdX6_isAheadOfDot : ab_M := (RX6, "isAheadOfDot", cX6_isAheadOfDot, 1, (some .boolean), [], dlX6_isAheadOfDot)
set_option maxRecDepth 20000 in
theorem imX6_isAheadOfDot : Cond.instanceMethod yX6_isAheadOfDot ∈ gw := gw_t5 125 rfl rfl
set_option maxRecDepth 20000 in
theorem coX6_isAheadOfDot : Cond.code yX6_isAheadOfDot cX6_isAheadOfDot 1 (some .boolean) ∈ gw := gw_t5 127 rfl rfl
set_option maxRecDepth 20000 in
theorem seX6_isAheadOfDot : Cond.selects RX6 yX6_isAheadOfDot yX6_isAheadOfDot ∈ gw := gw_t5 126 rfl rfl
set_option maxRecDepth 20000 in
theorem yvX6_isAheadOfDot : ab_yV RX6 yX6_isAheadOfDot mdX6_isAheadOfDot 0 := ⟨imX6_isAheadOfDot, seX6_isAheadOfDot, iniX6, coX6_isAheadOfDot, ⟨by decide +kernel, by decide +kernel⟩, by decide +kernel⟩
def mdX1_readLeaf : ab_M := (RX1, "readLeaf", cX1_readLeaf, 3, (some .boolean), [], dlX1_readLeaf)
set_option maxRecDepth 20000 in
theorem imX1_readLeaf : Cond.instanceMethod yX1_readLeaf ∈ gw := gw_t5 130 rfl rfl
set_option maxRecDepth 20000 in
theorem coX1_readLeaf : Cond.code yX1_readLeaf cX1_readLeaf 3 (some .boolean) ∈ gw := gw_t5 131 rfl rfl
set_option maxRecDepth 20000 in
theorem seX1_readLeaf : Cond.selects RX1 yX1_readLeaf yX1_readLeaf ∈ gw := gw_of (List.mem_of_getElem? (i := 19) (by decide +kernel)) rfl
set_option maxRecDepth 20000 in
theorem yvX1_readLeaf : ab_yV RX1 yX1_readLeaf mdX1_readLeaf 2 := ⟨imX1_readLeaf, seX1_readLeaf, iniX1, coX1_readLeaf, ⟨by decide +kernel, by decide +kernel⟩, by decide +kernel⟩
def mdX1_readBracket : ab_M := (RX1, "readBracket", cX1_readBracket, 2, (some .boolean), [], dlX1_readBracket)
set_option maxRecDepth 20000 in
theorem imX1_readBracket : Cond.instanceMethod yX1_readBracket ∈ gw := gw_t5 138 rfl rfl
set_option maxRecDepth 20000 in
theorem coX1_readBracket : Cond.code yX1_readBracket cX1_readBracket 2 (some .boolean) ∈ gw := gw_t5 139 rfl rfl
set_option maxRecDepth 20000 in
theorem seX1_readBracket : Cond.selects RX1 yX1_readBracket yX1_readBracket ∈ gw := gw_of (List.mem_of_getElem? (i := 21) (by decide +kernel)) rfl
set_option maxRecDepth 20000 in
theorem yvX1_readBracket : ab_yV RX1 yX1_readBracket mdX1_readBracket 1 := ⟨imX1_readBracket, seX1_readBracket, iniX1, coX1_readBracket, ⟨by decide +kernel, by decide +kernel⟩, by decide +kernel⟩
def mdX1_readChoice : ab_M := (RX1, "readChoice", cX1_readChoice, 4, (some .boolean), [], dlX1_readChoice)
set_option maxRecDepth 20000 in
theorem imX1_readChoice : Cond.instanceMethod yX1_readChoice ∈ gw := gw_t5 106 rfl rfl
set_option maxRecDepth 20000 in
theorem coX1_readChoice : Cond.code yX1_readChoice cX1_readChoice 4 (some .boolean) ∈ gw := gw_t5 107 rfl rfl
set_option maxRecDepth 20000 in
theorem seX1_readChoice : Cond.selects RX1 yX1_readChoice yX1_readChoice ∈ gw := gw_of (List.mem_of_getElem? (i := 15) (by decide +kernel)) rfl
set_option maxRecDepth 20000 in
theorem yvX1_readChoice : ab_yV RX1 yX1_readChoice mdX1_readChoice 1 := ⟨imX1_readChoice, seX1_readChoice, iniX1, coX1_readChoice, ⟨by decide +kernel, by decide +kernel⟩, by decide +kernel⟩
def mdX1_readExpression : ab_M := (RX1, "readExpression", cX1_readExpression, 3, (some .boolean), [], dlX1_readExpression)
set_option maxRecDepth 20000 in
theorem imX1_readExpression : Cond.instanceMethod yX1_readExpression ∈ gw := gw_t5 102 rfl rfl
set_option maxRecDepth 20000 in
theorem coX1_readExpression : Cond.code yX1_readExpression cX1_readExpression 3 (some .boolean) ∈ gw := gw_t5 103 rfl rfl
set_option maxRecDepth 20000 in
theorem seX1_readExpression : Cond.selects RX1 yX1_readExpression yX1_readExpression ∈ gw := gw_of (List.mem_of_getElem? (i := 14) (by decide +kernel)) rfl
set_option maxRecDepth 20000 in
theorem yvX1_readExpression : ab_yV RX1 yX1_readExpression mdX1_readExpression 1 := ⟨imX1_readExpression, seX1_readExpression, iniX1, coX1_readExpression, ⟨by decide +kernel, by decide +kernel⟩, by decide +kernel⟩
def mdX1_readFactor : ab_M := (RX1, "readFactor", cX1_readFactor, 3, (some .boolean), [], dlX1_readFactor)
set_option maxRecDepth 20000 in
theorem imX1_readFactor : Cond.instanceMethod yX1_readFactor ∈ gw := gw_t5 122 rfl rfl
set_option maxRecDepth 20000 in
theorem coX1_readFactor : Cond.code yX1_readFactor cX1_readFactor 3 (some .boolean) ∈ gw := gw_t5 123 rfl rfl
set_option maxRecDepth 20000 in
theorem seX1_readFactor : Cond.selects RX1 yX1_readFactor yX1_readFactor ∈ gw := gw_of (List.mem_of_getElem? (i := 18) (by decide +kernel)) rfl
set_option maxRecDepth 20000 in
theorem yvX1_readFactor : ab_yV RX1 yX1_readFactor mdX1_readFactor 1 := ⟨imX1_readFactor, seX1_readFactor, iniX1, coX1_readFactor, ⟨by decide +kernel, by decide +kernel⟩, by decide +kernel⟩
def mdX1_readNegated : ab_M := (RX1, "readNegated", cX1_readNegated, 2, (some .boolean), [], dlX1_readNegated)
set_option maxRecDepth 20000 in
theorem imX1_readNegated : Cond.instanceMethod yX1_readNegated ∈ gw := gw_t5 134 rfl rfl
set_option maxRecDepth 20000 in
theorem coX1_readNegated : Cond.code yX1_readNegated cX1_readNegated 2 (some .boolean) ∈ gw := gw_t5 135 rfl rfl
set_option maxRecDepth 20000 in
theorem seX1_readNegated : Cond.selects RX1 yX1_readNegated yX1_readNegated ∈ gw := gw_of (List.mem_of_getElem? (i := 20) (by decide +kernel)) rfl
set_option maxRecDepth 20000 in
theorem yvX1_readNegated : ab_yV RX1 yX1_readNegated mdX1_readNegated 1 := ⟨imX1_readNegated, seX1_readNegated, iniX1, coX1_readNegated, ⟨by decide +kernel, by decide +kernel⟩, by decide +kernel⟩
def mdX1_readProduct : ab_M := (RX1, "readProduct", cX1_readProduct, 4, (some .boolean), [], dlX1_readProduct)
set_option maxRecDepth 20000 in
theorem imX1_readProduct : Cond.instanceMethod yX1_readProduct ∈ gw := gw_t5 118 rfl rfl
set_option maxRecDepth 20000 in
theorem coX1_readProduct : Cond.code yX1_readProduct cX1_readProduct 4 (some .boolean) ∈ gw := gw_t5 119 rfl rfl
set_option maxRecDepth 20000 in
theorem seX1_readProduct : Cond.selects RX1 yX1_readProduct yX1_readProduct ∈ gw := gw_of (List.mem_of_getElem? (i := 17) (by decide +kernel)) rfl
set_option maxRecDepth 20000 in
theorem yvX1_readProduct : ab_yV RX1 yX1_readProduct mdX1_readProduct 1 := ⟨imX1_readProduct, seX1_readProduct, iniX1, coX1_readProduct, ⟨by decide +kernel, by decide +kernel⟩, by decide +kernel⟩
def mdX1_readSum : ab_M := (RX1, "readSum", cX1_readSum, 4, (some .boolean), [], dlX1_readSum)
set_option maxRecDepth 20000 in
theorem imX1_readSum : Cond.instanceMethod yX1_readSum ∈ gw := gw_t5 114 rfl rfl
set_option maxRecDepth 20000 in
theorem coX1_readSum : Cond.code yX1_readSum cX1_readSum 4 (some .boolean) ∈ gw := gw_t5 115 rfl rfl
set_option maxRecDepth 20000 in
theorem seX1_readSum : Cond.selects RX1 yX1_readSum yX1_readSum ∈ gw := gw_of (List.mem_of_getElem? (i := 16) (by decide +kernel)) rfl
set_option maxRecDepth 20000 in
theorem yvX1_readSum : ab_yV RX1 yX1_readSum mdX1_readSum 1 := ⟨imX1_readSum, seX1_readSum, iniX1, coX1_readSum, ⟨by decide +kernel, by decide +kernel⟩, by decide +kernel⟩
def mdX1_readRule : ab_M := (RX1, "readRule", cX1_readRule, 3, (some .boolean), [], dlX1_readRule)
set_option maxRecDepth 20000 in
theorem imX1_readRule : Cond.instanceMethod yX1_readRule ∈ gw := gw_t5 86 rfl rfl
set_option maxRecDepth 20000 in
theorem coX1_readRule : Cond.code yX1_readRule cX1_readRule 3 (some .boolean) ∈ gw := gw_t5 87 rfl rfl
set_option maxRecDepth 20000 in
theorem seX1_readRule : Cond.selects RX1 yX1_readRule yX1_readRule ∈ gw := gw_of (List.mem_of_getElem? (i := 12) (by decide +kernel)) rfl
set_option maxRecDepth 20000 in
theorem yvX1_readRule : ab_yV RX1 yX1_readRule mdX1_readRule 0 := ⟨imX1_readRule, seX1_readRule, iniX1, coX1_readRule, ⟨by decide +kernel, by decide +kernel⟩, by decide +kernel⟩
def mdX1_readProduction : ab_M := (RX1, "readProduction", cX1_readProduction, 2, (some .boolean), [], dlX1_readProduction)
set_option maxRecDepth 20000 in
theorem imX1_readProduction : Cond.instanceMethod yX1_readProduction ∈ gw := gw_t4 4 rfl rfl
set_option maxRecDepth 20000 in
theorem coX1_readProduction : Cond.code yX1_readProduction cX1_readProduction 2 (some .boolean) ∈ gw := gw_t4 5 rfl rfl
set_option maxRecDepth 20000 in
theorem seX1_readProduction : Cond.selects RX1 yX1_readProduction yX1_readProduction ∈ gw := gw_of (List.mem_of_getElem? (i := 8) (by decide +kernel)) rfl
set_option maxRecDepth 20000 in
theorem yvX1_readProduction : ab_yV RX1 yX1_readProduction mdX1_readProduction 0 := ⟨imX1_readProduction, seX1_readProduction, iniX1, coX1_readProduction, ⟨by decide +kernel, by decide +kernel⟩, by decide +kernel⟩
def mdX1_read : ab_M := (RX1, "read", cX1_read, 4, (some .int), [], dlX1_read)
set_option maxRecDepth 20000 in
theorem imX1_read : Cond.instanceMethod yX1_read ∈ gw := gw_t3 52 rfl rfl
set_option maxRecDepth 20000 in
theorem coX1_read : Cond.code yX1_read cX1_read 4 (some .int) ∈ gw := gw_t3 54 rfl rfl
set_option maxRecDepth 20000 in
theorem seX1_read : Cond.selects RX1 yX1_read yX1_read ∈ gw := gw_t3 53 rfl rfl
set_option maxRecDepth 20000 in
theorem yvX1_read : ab_yV RX1 yX1_read mdX1_read 1 := ⟨imX1_read, seX1_read, iniX1, coX1_read, ⟨by decide +kernel, by decide +kernel⟩, by decide +kernel⟩
def mdX2_init : ab_M := (RX2, "<init>", cX2_init, 3, none, [], dlX2_init)
set_option maxRecDepth 20000 in
theorem imX2_init : Cond.instanceMethod yX2_init ∈ gw := gw_t2 27 rfl rfl
set_option maxRecDepth 20000 in
theorem coX2_init : Cond.code yX2_init cX2_init 3 none ∈ gw := gw_t2 28 rfl rfl
def mdJ7_fill_d0a16 : ab_M := (RJ7, "fill", cJ7_fill_d0a16, 5, none, [], dlJ7_fill_d0a16)
set_option maxRecDepth 20000 in
theorem smJ7_fill_d0a16 : Cond.static yJ7_fill_d0a16 ∈ gw := gw_t7 45 rfl rfl
set_option maxRecDepth 20000 in
theorem coJ7_fill_d0a16 : Cond.code yJ7_fill_d0a16 cJ7_fill_d0a16 5 none ∈ gw := gw_t7 46 rfl rfl
set_option maxRecDepth 20000 in
theorem yvJ7_fill_d0a16 : ab_yS yJ7_fill_d0a16 mdJ7_fill_d0a16 2 := ⟨smJ7_fill_d0a16, iniJ7, coJ7_fill_d0a16, ⟨by decide +kernel, by decide +kernel⟩, by decide +kernel⟩
def mdJ7_fill_53178 : ab_M := (RJ7, "fill", cJ7_fill_53178, 4, none, [], dlJ7_fill_53178)
set_option maxRecDepth 20000 in
theorem smJ7_fill_53178 : Cond.static yJ7_fill_53178 ∈ gw := gw_t5 155 rfl rfl
set_option maxRecDepth 20000 in
theorem coJ7_fill_53178 : Cond.code yJ7_fill_53178 cJ7_fill_53178 4 none ∈ gw := gw_t5 156 rfl rfl
set_option maxRecDepth 20000 in
theorem yvJ7_fill_53178 : ab_yS yJ7_fill_53178 mdJ7_fill_53178 2 := ⟨smJ7_fill_53178, iniJ7, coJ7_fill_53178, ⟨by decide +kernel, by decide +kernel⟩, by decide +kernel⟩
def mdX5_first : ab_M := (RX5, "first", cX5_first, 3, (some .int), [], dlX5_first)
set_option maxRecDepth 20000 in
theorem imX5_first : Cond.instanceMethod yX5_first ∈ gw := gw_t7 53 rfl rfl
set_option maxRecDepth 20000 in
theorem coX5_first : Cond.code yX5_first cX5_first 3 (some .int) ∈ gw := gw_t7 55 rfl rfl
set_option maxRecDepth 20000 in
theorem seX5_first : Cond.selects RX5 yX5_first yX5_first ∈ gw := gw_t7 54 rfl rfl
set_option maxRecDepth 20000 in
theorem yvX5_first : ab_yV RX5 yX5_first mdX5_first 2 := ⟨imX5_first, seX5_first, iniX5, coX5_first, ⟨by decide +kernel, by decide +kernel⟩, by decide +kernel⟩
def mdX2_enter : ab_M := (RX2, "enter", cX2_enter, 3, none, [], dlX2_enter)
set_option maxRecDepth 20000 in
theorem imX2_enter : Cond.instanceMethod yX2_enter ∈ gw := gw_t7 50 rfl rfl
set_option maxRecDepth 20000 in
theorem coX2_enter : Cond.code yX2_enter cX2_enter 3 none ∈ gw := gw_t7 51 rfl rfl
set_option maxRecDepth 20000 in
theorem seX2_enter : Cond.selects RX2 yX2_enter yX2_enter ∈ gw := gw_of (List.mem_of_getElem? (i := 59) (by decide +kernel)) rfl
set_option maxRecDepth 20000 in
theorem yvX2_enter : ab_yV RX2 yX2_enter mdX2_enter 2 := ⟨imX2_enter, seX2_enter, iniX2, coX2_enter, ⟨by decide +kernel, by decide +kernel⟩, by decide +kernel⟩
def mdX2_restart : ab_M := (RX2, "restart", cX2_restart, 3, none, [], dlX2_restart)
set_option maxRecDepth 20000 in
theorem imX2_restart : Cond.instanceMethod yX2_restart ∈ gw := gw_t7 41 rfl rfl
set_option maxRecDepth 20000 in
theorem coX2_restart : Cond.code yX2_restart cX2_restart 3 none ∈ gw := gw_t7 43 rfl rfl
set_option maxRecDepth 20000 in
theorem seX2_restart : Cond.selects RX2 yX2_restart yX2_restart ∈ gw := gw_t7 42 rfl rfl
set_option maxRecDepth 20000 in
theorem yvX2_restart : ab_yV RX2 yX2_restart mdX2_restart 2 := ⟨imX2_restart, seX2_restart, iniX2, coX2_restart, ⟨by decide +kernel, by decide +kernel⟩, by decide +kernel⟩
def mdX2_lastNode : ab_M := (RX2, "lastNode", cX2_lastNode, 1, (some .int), [], dlX2_lastNode)
set_option maxRecDepth 20000 in
theorem imX2_lastNode : Cond.instanceMethod yX2_lastNode ∈ gw := gw_t8 28 rfl rfl
set_option maxRecDepth 20000 in
theorem coX2_lastNode : Cond.code yX2_lastNode cX2_lastNode 1 (some .int) ∈ gw := gw_t8 30 rfl rfl
set_option maxRecDepth 20000 in
theorem seX2_lastNode : Cond.selects RX2 yX2_lastNode yX2_lastNode ∈ gw := gw_t8 29 rfl rfl
set_option maxRecDepth 20000 in
theorem yvX2_lastNode : ab_yV RX2 yX2_lastNode mdX2_lastNode 0 := ⟨imX2_lastNode, seX2_lastNode, iniX2, coX2_lastNode, ⟨by decide +kernel, by decide +kernel⟩, by decide +kernel⟩
def mdX2_push : ab_M := (RX2, "push", cX2_push, 3, none, [], dlX2_push)
set_option maxRecDepth 20000 in
theorem imX2_push : Cond.instanceMethod yX2_push ∈ gw := gw_t7 67 rfl rfl
set_option maxRecDepth 20000 in
theorem coX2_push : Cond.code yX2_push cX2_push 3 none ∈ gw := gw_t7 68 rfl rfl
set_option maxRecDepth 20000 in
theorem seX2_push : Cond.selects RX2 yX2_push yX2_push ∈ gw := gw_of (List.mem_of_getElem? (i := 61) (by decide +kernel)) rfl
set_option maxRecDepth 20000 in
theorem yvX2_push : ab_yV RX2 yX2_push mdX2_push 1 := ⟨imX2_push, seX2_push, iniX2, coX2_push, ⟨by decide +kernel, by decide +kernel⟩, by decide +kernel⟩
def mdX2_isVariable : ab_M := (RX2, "isVariable", cX2_isVariable, 2, (some .boolean), [], dlX2_isVariable)
set_option maxRecDepth 20000 in
theorem imX2_isVariable : Cond.instanceMethod yX2_isVariable ∈ gw := gw_t7 71 rfl rfl
set_option maxRecDepth 20000 in
theorem coX2_isVariable : Cond.code yX2_isVariable cX2_isVariable 2 (some .boolean) ∈ gw := gw_t7 72 rfl rfl
set_option maxRecDepth 20000 in
theorem seX2_isVariable : Cond.selects RX2 yX2_isVariable yX2_isVariable ∈ gw := gw_of (List.mem_of_getElem? (i := 62) (by decide +kernel)) rfl
set_option maxRecDepth 20000 in
theorem yvX2_isVariable : ab_yV RX2 yX2_isVariable mdX2_isVariable 1 := ⟨imX2_isVariable, seX2_isVariable, iniX2, coX2_isVariable, ⟨by decide +kernel, by decide +kernel⟩, by decide +kernel⟩
def mdX9_nodeAt : ab_M := (RX9, "nodeAt", cX9_nodeAt, 3, (some .int), [], dlX9_nodeAt)
set_option maxRecDepth 20000 in
theorem imX9_nodeAt : Cond.instanceMethod yX9_nodeAt ∈ gw := gw_t7 78 rfl rfl
set_option maxRecDepth 20000 in
theorem coX9_nodeAt : Cond.code yX9_nodeAt cX9_nodeAt 3 (some .int) ∈ gw := gw_t7 80 rfl rfl
set_option maxRecDepth 20000 in
theorem seX9_nodeAt : Cond.selects RX9 yX9_nodeAt yX9_nodeAt ∈ gw := gw_t7 79 rfl rfl
set_option maxRecDepth 20000 in
theorem yvX9_nodeAt : ab_yV RX9 yX9_nodeAt mdX9_nodeAt 2 := ⟨imX9_nodeAt, seX9_nodeAt, iniX9, coX9_nodeAt, ⟨by decide +kernel, by decide +kernel⟩, by decide +kernel⟩
def mdX2_keptAt : ab_M := (RX2, "keptAt", cX2_keptAt, 3, (some .int), [], dlX2_keptAt)
set_option maxRecDepth 20000 in
theorem imX2_keptAt : Cond.instanceMethod yX2_keptAt ∈ gw := gw_t7 75 rfl rfl
set_option maxRecDepth 20000 in
theorem coX2_keptAt : Cond.code yX2_keptAt cX2_keptAt 3 (some .int) ∈ gw := gw_t7 76 rfl rfl
set_option maxRecDepth 20000 in
theorem seX2_keptAt : Cond.selects RX2 yX2_keptAt yX2_keptAt ∈ gw := gw_of (List.mem_of_getElem? (i := 63) (by decide +kernel)) rfl
set_option maxRecDepth 20000 in
theorem yvX2_keptAt : ab_yV RX2 yX2_keptAt mdX2_keptAt 2 := ⟨imX2_keptAt, seX2_keptAt, iniX2, coX2_keptAt, ⟨by decide +kernel, by decide +kernel⟩, by decide +kernel⟩
def mdX2_pop : ab_M := (RX2, "pop", cX2_pop, 1, (some .long), [], dlX2_pop)
set_option maxRecDepth 20000 in
theorem imX2_pop : Cond.instanceMethod yX2_pop ∈ gw := gw_t7 83 rfl rfl
set_option maxRecDepth 20000 in
theorem coX2_pop : Cond.code yX2_pop cX2_pop 1 (some .long) ∈ gw := gw_t7 84 rfl rfl
set_option maxRecDepth 20000 in
theorem seX2_pop : Cond.selects RX2 yX2_pop yX2_pop ∈ gw := gw_of (List.mem_of_getElem? (i := 64) (by decide +kernel)) rfl
set_option maxRecDepth 20000 in
theorem yvX2_pop : ab_yV RX2 yX2_pop mdX2_pop 0 := ⟨imX2_pop, seX2_pop, iniX2, coX2_pop, ⟨by decide +kernel, by decide +kernel⟩, by decide +kernel⟩
def mdX2_operate : ab_M := (RX2, "operate", cX2_operate, 5, (some .long), [], dlX2_operate)
set_option maxRecDepth 20000 in
theorem smX2_operate : Cond.static yX2_operate ∈ gw := gw_t7 87 rfl rfl
set_option maxRecDepth 20000 in
theorem coX2_operate : Cond.code yX2_operate cX2_operate 5 (some .long) ∈ gw := gw_t7 88 rfl rfl
set_option maxRecDepth 20000 in
theorem yvX2_operate : ab_yS yX2_operate mdX2_operate 3 := ⟨smX2_operate, iniX2, coX2_operate, ⟨by decide +kernel, by decide +kernel⟩, by decide +kernel⟩
def mdX2_test : ab_M := (RX2, "test", cX2_test, 4, none, [], dlX2_test)
set_option maxRecDepth 20000 in
theorem imX2_test : Cond.instanceMethod yX2_test ∈ gw := gw_t7 91 rfl rfl
set_option maxRecDepth 20000 in
theorem coX2_test : Cond.code yX2_test cX2_test 4 none ∈ gw := gw_t7 92 rfl rfl
set_option maxRecDepth 20000 in
theorem seX2_test : Cond.selects RX2 yX2_test yX2_test ∈ gw := gw_of (List.mem_of_getElem? (i := 65) (by decide +kernel)) rfl
set_option maxRecDepth 20000 in
theorem yvX2_test : ab_yV RX2 yX2_test mdX2_test 1 := ⟨imX2_test, seX2_test, iniX2, coX2_test, ⟨by decide +kernel, by decide +kernel⟩, by decide +kernel⟩
def mdX2_set : ab_M := (RX2, "set", cX2_set, 5, none, [], dlX2_set)
set_option maxRecDepth 20000 in
theorem imX2_set : Cond.instanceMethod yX2_set ∈ gw := gw_t7 95 rfl rfl
set_option maxRecDepth 20000 in
theorem coX2_set : Cond.code yX2_set cX2_set 5 none ∈ gw := gw_t7 96 rfl rfl
set_option maxRecDepth 20000 in
theorem seX2_set : Cond.selects RX2 yX2_set yX2_set ∈ gw := gw_of (List.mem_of_getElem? (i := 66) (by decide +kernel)) rfl
set_option maxRecDepth 20000 in
theorem yvX2_set : ab_yV RX2 yX2_set mdX2_set 3 := ⟨imX2_set, seX2_set, iniX2, coX2_set, ⟨by decide +kernel, by decide +kernel⟩, by decide +kernel⟩
def mdX2_leave : ab_M := (RX2, "leave", cX2_leave, 2, none, [], dlX2_leave)
set_option maxRecDepth 20000 in
theorem imX2_leave : Cond.instanceMethod yX2_leave ∈ gw := gw_t7 99 rfl rfl
set_option maxRecDepth 20000 in
theorem coX2_leave : Cond.code yX2_leave cX2_leave 2 none ∈ gw := gw_t7 100 rfl rfl
set_option maxRecDepth 20000 in
theorem seX2_leave : Cond.selects RX2 yX2_leave yX2_leave ∈ gw := gw_of (List.mem_of_getElem? (i := 67) (by decide +kernel)) rfl
set_option maxRecDepth 20000 in
theorem yvX2_leave : ab_yV RX2 yX2_leave mdX2_leave 0 := ⟨imX2_leave, seX2_leave, iniX2, coX2_leave, ⟨by decide +kernel, by decide +kernel⟩, by decide +kernel⟩
def mdX2_perform : ab_M := (RX2, "perform", cX2_perform, 6, none, [], dlX2_perform)
set_option maxRecDepth 20000 in
theorem imX2_perform : Cond.instanceMethod yX2_perform ∈ gw := gw_t7 63 rfl rfl
set_option maxRecDepth 20000 in
theorem coX2_perform : Cond.code yX2_perform cX2_perform 6 none ∈ gw := gw_t7 64 rfl rfl
set_option maxRecDepth 20000 in
theorem seX2_perform : Cond.selects RX2 yX2_perform yX2_perform ∈ gw := gw_of (List.mem_of_getElem? (i := 60) (by decide +kernel)) rfl
set_option maxRecDepth 20000 in
theorem yvX2_perform : ab_yV RX2 yX2_perform mdX2_perform 1 := ⟨imX2_perform, seX2_perform, iniX2, coX2_perform, ⟨by decide +kernel, by decide +kernel⟩, by decide +kernel⟩
def mdX2_run : ab_M := (RX2, "run", cX2_run, 3, (some .int), [], dlX2_run)
set_option maxRecDepth 20000 in
theorem imX2_run : Cond.instanceMethod yX2_run ∈ gw := gw_t7 58 rfl rfl
set_option maxRecDepth 20000 in
theorem coX2_run : Cond.code yX2_run cX2_run 3 (some .int) ∈ gw := gw_t7 60 rfl rfl
set_option maxRecDepth 20000 in
theorem seX2_run : Cond.selects RX2 yX2_run yX2_run ∈ gw := gw_t7 59 rfl rfl
set_option maxRecDepth 20000 in
theorem yvX2_run : ab_yV RX2 yX2_run mdX2_run 1 := ⟨imX2_run, seX2_run, iniX2, coX2_run, ⟨by decide +kernel, by decide +kernel⟩, by decide +kernel⟩
def mdX3_init : ab_M := (RX3, "<init>", cX3_init, 1, none, [], dlX3_init)
set_option maxRecDepth 20000 in
theorem imX3_init : Cond.instanceMethod yX3_init ∈ gw := gw_t1 148 rfl rfl
set_option maxRecDepth 20000 in
theorem coX3_init : Cond.code yX3_init cX3_init 1 none ∈ gw := gw_t1 149 rfl rfl
def mdX3_addInduced : ab_M := (RX3, "addInduced", cX3_addInduced, 7, none, [], dlX3_addInduced)
set_option maxRecDepth 20000 in
theorem imX3_addInduced : Cond.instanceMethod yX3_addInduced ∈ gw := gw_t5 159 rfl rfl
set_option maxRecDepth 20000 in
theorem coX3_addInduced : Cond.code yX3_addInduced cX3_addInduced 7 none ∈ gw := gw_t5 160 rfl rfl
set_option maxRecDepth 20000 in
theorem seX3_addInduced : Cond.selects RX3 yX3_addInduced yX3_addInduced ∈ gw := gw_of (List.mem_of_getElem? (i := 22) (by decide +kernel)) rfl
set_option maxRecDepth 20000 in
theorem yvX3_addInduced : ab_yV RX3 yX3_addInduced mdX3_addInduced 2 := ⟨imX3_addInduced, seX3_addInduced, iniX3, coX3_addInduced, ⟨by decide +kernel, by decide +kernel⟩, by decide +kernel⟩
def mdX3_close : ab_M := (RX3, "close", cX3_close, 7, none, [], dlX3_close)
set_option maxRecDepth 20000 in
theorem imX3_close : Cond.instanceMethod yX3_close ∈ gw := gw_t5 164 rfl rfl
set_option maxRecDepth 20000 in
theorem coX3_close : Cond.code yX3_close cX3_close 7 none ∈ gw := gw_t5 165 rfl rfl
set_option maxRecDepth 20000 in
theorem seX3_close : Cond.selects RX3 yX3_close yX3_close ∈ gw := gw_of (List.mem_of_getElem? (i := 23) (by decide +kernel)) rfl
set_option maxRecDepth 20000 in
theorem yvX3_close : ab_yV RX3 yX3_close mdX3_close 2 := ⟨imX3_close, seX3_close, iniX3, coX3_close, ⟨by decide +kernel, by decide +kernel⟩, by decide +kernel⟩
def mdX3_collectInduced : ab_M := (RX3, "collectInduced", cX3_collectInduced, 9, (some .boolean), [], dlX3_collectInduced)
set_option maxRecDepth 20000 in
theorem imX3_collectInduced : Cond.instanceMethod yX3_collectInduced ∈ gw := gw_t5 168 rfl rfl
set_option maxRecDepth 20000 in
theorem coX3_collectInduced : Cond.code yX3_collectInduced cX3_collectInduced 9 (some .boolean) ∈ gw := gw_t5 169 rfl rfl
set_option maxRecDepth 20000 in
theorem seX3_collectInduced : Cond.selects RX3 yX3_collectInduced yX3_collectInduced ∈ gw := gw_of (List.mem_of_getElem? (i := 24) (by decide +kernel)) rfl
set_option maxRecDepth 20000 in
theorem yvX3_collectInduced : ab_yV RX3 yX3_collectInduced mdX3_collectInduced 2 := ⟨imX3_collectInduced, seX3_collectInduced, iniX3, coX3_collectInduced, ⟨by decide +kernel, by decide +kernel⟩, by decide +kernel⟩
def mdX3_induce : ab_M := (RX3, "induce", cX3_induce, 5, none, [], dlX3_induce)
set_option maxRecDepth 20000 in
theorem imX3_induce : Cond.instanceMethod yX3_induce ∈ gw := gw_t5 150 rfl rfl
set_option maxRecDepth 20000 in
theorem coX3_induce : Cond.code yX3_induce cX3_induce 5 none ∈ gw := gw_t5 152 rfl rfl
set_option maxRecDepth 20000 in
theorem seX3_induce : Cond.selects RX3 yX3_induce yX3_induce ∈ gw := gw_t5 151 rfl rfl
set_option maxRecDepth 20000 in
theorem yvX3_induce : ab_yV RX3 yX3_induce mdX3_induce 1 := ⟨imX3_induce, seX3_induce, iniX3, coX3_induce, ⟨by decide +kernel, by decide +kernel⟩, by decide +kernel⟩
def mdX3_hasCircle : ab_M := (RX3, "hasCircle", cX3_hasCircle, 3, (some .boolean), [], dlX3_hasCircle)
set_option maxRecDepth 20000 in
theorem imX3_hasCircle : Cond.instanceMethod yX3_hasCircle ∈ gw := gw_t5 176 rfl rfl
set_option maxRecDepth 20000 in
theorem coX3_hasCircle : Cond.code yX3_hasCircle cX3_hasCircle 3 (some .boolean) ∈ gw := gw_t5 177 rfl rfl
set_option maxRecDepth 20000 in
theorem seX3_hasCircle : Cond.selects RX3 yX3_hasCircle yX3_hasCircle ∈ gw := gw_of (List.mem_of_getElem? (i := 25) (by decide +kernel)) rfl
set_option maxRecDepth 20000 in
theorem yvX3_hasCircle : ab_yV RX3 yX3_hasCircle mdX3_hasCircle 1 := ⟨imX3_hasCircle, seX3_hasCircle, iniX3, coX3_hasCircle, ⟨by decide +kernel, by decide +kernel⟩, by decide +kernel⟩
def mdX3_firstCircular : ab_M := (RX3, "firstCircular", cX3_firstCircular, 3, (some .int), [], dlX3_firstCircular)
set_option maxRecDepth 20000 in
theorem imX3_firstCircular : Cond.instanceMethod yX3_firstCircular ∈ gw := gw_t5 171 rfl rfl
set_option maxRecDepth 20000 in
theorem coX3_firstCircular : Cond.code yX3_firstCircular cX3_firstCircular 3 (some .int) ∈ gw := gw_t5 173 rfl rfl
set_option maxRecDepth 20000 in
theorem seX3_firstCircular : Cond.selects RX3 yX3_firstCircular yX3_firstCircular ∈ gw := gw_t5 172 rfl rfl
set_option maxRecDepth 20000 in
theorem yvX3_firstCircular : ab_yV RX3 yX3_firstCircular mdX3_firstCircular 1 := ⟨imX3_firstCircular, seX3_firstCircular, iniX3, coX3_firstCircular, ⟨by decide +kernel, by decide +kernel⟩, by decide +kernel⟩
def mdX3_atLevel : ab_M := (RX3, "atLevel", cX3_atLevel, 5, (some .int), [], dlX3_atLevel)
set_option maxRecDepth 20000 in
theorem smX3_atLevel : Cond.static yX3_atLevel ∈ gw := gw_t5 195 rfl rfl
set_option maxRecDepth 20000 in
theorem coX3_atLevel : Cond.code yX3_atLevel cX3_atLevel 5 (some .int) ∈ gw := gw_t5 196 rfl rfl
set_option maxRecDepth 20000 in
theorem yvX3_atLevel : ab_yS yX3_atLevel mdX3_atLevel 3 := ⟨smX3_atLevel, iniX3, coX3_atLevel, ⟨by decide +kernel, by decide +kernel⟩, by decide +kernel⟩
def mdX3_addLevels : ab_M := (RX3, "addLevels", cX3_addLevels, 7, none, [], dlX3_addLevels)
set_option maxRecDepth 20000 in
theorem imX3_addLevels : Cond.instanceMethod yX3_addLevels ∈ gw := gw_t5 192 rfl rfl
set_option maxRecDepth 20000 in
theorem coX3_addLevels : Cond.code yX3_addLevels cX3_addLevels 7 none ∈ gw := gw_t5 193 rfl rfl
set_option maxRecDepth 20000 in
theorem seX3_addLevels : Cond.selects RX3 yX3_addLevels yX3_addLevels ∈ gw := gw_of (List.mem_of_getElem? (i := 26) (by decide +kernel)) rfl
set_option maxRecDepth 20000 in
theorem yvX3_addLevels : ab_yV RX3 yX3_addLevels mdX3_addLevels 2 := ⟨imX3_addLevels, seX3_addLevels, iniX3, coX3_addLevels, ⟨by decide +kernel, by decide +kernel⟩, by decide +kernel⟩
def mdX3_firstCrossed : ab_M := (RX3, "firstCrossed", cX3_firstCrossed, 3, (some .int), [], dlX3_firstCrossed)
set_option maxRecDepth 20000 in
theorem imX3_firstCrossed : Cond.instanceMethod yX3_firstCrossed ∈ gw := gw_t5 187 rfl rfl
set_option maxRecDepth 20000 in
theorem coX3_firstCrossed : Cond.code yX3_firstCrossed cX3_firstCrossed 3 (some .int) ∈ gw := gw_t5 189 rfl rfl
set_option maxRecDepth 20000 in
theorem seX3_firstCrossed : Cond.selects RX3 yX3_firstCrossed yX3_firstCrossed ∈ gw := gw_t5 188 rfl rfl
set_option maxRecDepth 20000 in
theorem yvX3_firstCrossed : ab_yV RX3 yX3_firstCrossed mdX3_firstCrossed 1 := ⟨imX3_firstCrossed, seX3_firstCrossed, iniX3, coX3_firstCrossed, ⟨by decide +kernel, by decide +kernel⟩, by decide +kernel⟩
def mdX3_choose : ab_M := (RX3, "choose", cX3_choose, 7, (some .int), [], dlX3_choose)
set_option maxRecDepth 20000 in
theorem smX3_choose : Cond.static yX3_choose ∈ gw := gw_t5 184 rfl rfl
set_option maxRecDepth 20000 in
theorem coX3_choose : Cond.code yX3_choose cX3_choose 7 (some .int) ∈ gw := gw_t5 185 rfl rfl
set_option maxRecDepth 20000 in
theorem yvX3_choose : ab_yS yX3_choose mdX3_choose 4 := ⟨smX3_choose, iniX3, coX3_choose, ⟨by decide +kernel, by decide +kernel⟩, by decide +kernel⟩
def mdX3_setLevels : ab_M := (RX3, "setLevels", cX3_setLevels, 10, none, [], dlX3_setLevels)
set_option maxRecDepth 20000 in
theorem imX3_setLevels : Cond.instanceMethod yX3_setLevels ∈ gw := gw_t5 179 rfl rfl
set_option maxRecDepth 20000 in
theorem coX3_setLevels : Cond.code yX3_setLevels cX3_setLevels 10 none ∈ gw := gw_t5 181 rfl rfl
set_option maxRecDepth 20000 in
theorem seX3_setLevels : Cond.selects RX3 yX3_setLevels yX3_setLevels ∈ gw := gw_t5 180 rfl rfl
set_option maxRecDepth 20000 in
theorem yvX3_setLevels : ab_yV RX3 yX3_setLevels mdX3_setLevels 1 := ⟨imX3_setLevels, seX3_setLevels, iniX3, coX3_setLevels, ⟨by decide +kernel, by decide +kernel⟩, by decide +kernel⟩
def mdX4_init : ab_M := (RX4, "<init>", cX4_init, 1, none, [], dlX4_init)
set_option maxRecDepth 20000 in
theorem imX4_init : Cond.instanceMethod yX4_init ∈ gw := gw_t1 158 rfl rfl
set_option maxRecDepth 20000 in
theorem coX4_init : Cond.code yX4_init cX4_init 1 none ∈ gw := gw_t1 159 rfl rfl
def mdX4_add : ab_M := (RX4, "add", cX4_add, 4, none, [], dlX4_add)
set_option maxRecDepth 20000 in
theorem imX4_add : Cond.instanceMethod yX4_add ∈ gw := gw_t5 229 rfl rfl
set_option maxRecDepth 20000 in
theorem coX4_add : Cond.code yX4_add cX4_add 4 none ∈ gw := gw_t5 230 rfl rfl
set_option maxRecDepth 20000 in
theorem seX4_add : Cond.selects RX4 yX4_add yX4_add ∈ gw := gw_of (List.mem_of_getElem? (i := 31) (by decide +kernel)) rfl
set_option maxRecDepth 20000 in
theorem yvX4_add : ab_yV RX4 yX4_add mdX4_add 3 := ⟨imX4_add, seX4_add, iniX4, coX4_add, ⟨by decide +kernel, by decide +kernel⟩, by decide +kernel⟩
def mdX4_evaluateReady : ab_M := (RX4, "evaluateReady", cX4_evaluateReady, 6, none, [], dlX4_evaluateReady)
set_option maxRecDepth 20000 in
theorem imX4_evaluateReady : Cond.instanceMethod yX4_evaluateReady ∈ gw := gw_t5 225 rfl rfl
set_option maxRecDepth 20000 in
theorem coX4_evaluateReady : Cond.code yX4_evaluateReady cX4_evaluateReady 6 none ∈ gw := gw_t5 226 rfl rfl
set_option maxRecDepth 20000 in
theorem seX4_evaluateReady : Cond.selects RX4 yX4_evaluateReady yX4_evaluateReady ∈ gw := gw_of (List.mem_of_getElem? (i := 30) (by decide +kernel)) rfl
set_option maxRecDepth 20000 in
theorem yvX4_evaluateReady : ab_yV RX4 yX4_evaluateReady mdX4_evaluateReady 2 := ⟨imX4_evaluateReady, seX4_evaluateReady, iniX4, coX4_evaluateReady, ⟨by decide +kernel, by decide +kernel⟩, by decide +kernel⟩
def mdX4_visitReady : ab_M := (RX4, "visitReady", cX4_visitReady, 7, none, [], dlX4_visitReady)
set_option maxRecDepth 20000 in
theorem imX4_visitReady : Cond.instanceMethod yX4_visitReady ∈ gw := gw_t5 233 rfl rfl
set_option maxRecDepth 20000 in
theorem coX4_visitReady : Cond.code yX4_visitReady cX4_visitReady 7 none ∈ gw := gw_t5 234 rfl rfl
set_option maxRecDepth 20000 in
theorem seX4_visitReady : Cond.selects RX4 yX4_visitReady yX4_visitReady ∈ gw := gw_of (List.mem_of_getElem? (i := 32) (by decide +kernel)) rfl
set_option maxRecDepth 20000 in
theorem yvX4_visitReady : ab_yV RX4 yX4_visitReady mdX4_visitReady 2 := ⟨imX4_visitReady, seX4_visitReady, iniX4, coX4_visitReady, ⟨by decide +kernel, by decide +kernel⟩, by decide +kernel⟩
def mdX4_makeAll : ab_M := (RX4, "makeAll", cX4_makeAll, 7, none, [], dlX4_makeAll)
set_option maxRecDepth 20000 in
theorem imX4_makeAll : Cond.instanceMethod yX4_makeAll ∈ gw := gw_t5 207 rfl rfl
set_option maxRecDepth 20000 in
theorem coX4_makeAll : Cond.code yX4_makeAll cX4_makeAll 7 none ∈ gw := gw_t5 208 rfl rfl
set_option maxRecDepth 20000 in
theorem seX4_makeAll : Cond.selects RX4 yX4_makeAll yX4_makeAll ∈ gw := gw_of (List.mem_of_getElem? (i := 28) (by decide +kernel)) rfl
set_option maxRecDepth 20000 in
theorem yvX4_makeAll : ab_yV RX4 yX4_makeAll mdX4_makeAll 1 := ⟨imX4_makeAll, seX4_makeAll, iniX4, coX4_makeAll, ⟨by decide +kernel, by decide +kernel⟩, by decide +kernel⟩
def mdX4_make : ab_M := (RX4, "make", cX4_make, 3, none, [], dlX4_make)
set_option maxRecDepth 20000 in
theorem imX4_make : Cond.instanceMethod yX4_make ∈ gw := gw_t5 202 rfl rfl
set_option maxRecDepth 20000 in
theorem coX4_make : Cond.code yX4_make cX4_make 3 none ∈ gw := gw_t5 204 rfl rfl
set_option maxRecDepth 20000 in
theorem seX4_make : Cond.selects RX4 yX4_make yX4_make ∈ gw := gw_t5 203 rfl rfl
set_option maxRecDepth 20000 in
theorem yvX4_make : ab_yV RX4 yX4_make mdX4_make 1 := ⟨imX4_make, seX4_make, iniX4, coX4_make, ⟨by decide +kernel, by decide +kernel⟩, by decide +kernel⟩
def mdX4_first : ab_M := (RX4, "first", cX4_first, 3, (some .int), [], dlX4_first)
set_option maxRecDepth 20000 in
theorem imX4_first : Cond.instanceMethod yX4_first ∈ gw := gw_t6 14 rfl rfl
set_option maxRecDepth 20000 in
theorem coX4_first : Cond.code yX4_first cX4_first 3 (some .int) ∈ gw := gw_t6 16 rfl rfl
set_option maxRecDepth 20000 in
theorem seX4_first : Cond.selects RX4 yX4_first yX4_first ∈ gw := gw_t6 15 rfl rfl
set_option maxRecDepth 20000 in
theorem yvX4_first : ab_yV RX4 yX4_first mdX4_first 2 := ⟨imX4_first, seX4_first, iniX4, coX4_first, ⟨by decide +kernel, by decide +kernel⟩, by decide +kernel⟩
def mdX4_entryOfRule : ab_M := (RX4, "entryOfRule", cX4_entryOfRule, 3, (some .int), [], dlX4_entryOfRule)
set_option maxRecDepth 20000 in
theorem imX4_entryOfRule : Cond.instanceMethod yX4_entryOfRule ∈ gw := gw_t6 60 rfl rfl
set_option maxRecDepth 20000 in
theorem coX4_entryOfRule : Cond.code yX4_entryOfRule cX4_entryOfRule 3 (some .int) ∈ gw := gw_t6 62 rfl rfl
set_option maxRecDepth 20000 in
theorem seX4_entryOfRule : Cond.selects RX4 yX4_entryOfRule yX4_entryOfRule ∈ gw := gw_t6 61 rfl rfl
set_option maxRecDepth 20000 in
theorem yvX4_entryOfRule : ab_yV RX4 yX4_entryOfRule mdX4_entryOfRule 2 := ⟨imX4_entryOfRule, seX4_entryOfRule, iniX4, coX4_entryOfRule, ⟨by decide +kernel, by decide +kernel⟩, by decide +kernel⟩
def mdX4_entryOfVisit : ab_M := (RX4, "entryOfVisit", cX4_entryOfVisit, 4, (some .int), [], dlX4_entryOfVisit)
set_option maxRecDepth 20000 in
theorem imX4_entryOfVisit : Cond.instanceMethod yX4_entryOfVisit ∈ gw := gw_t6 47 rfl rfl
set_option maxRecDepth 20000 in
theorem coX4_entryOfVisit : Cond.code yX4_entryOfVisit cX4_entryOfVisit 4 (some .int) ∈ gw := gw_t6 49 rfl rfl
set_option maxRecDepth 20000 in
theorem seX4_entryOfVisit : Cond.selects RX4 yX4_entryOfVisit yX4_entryOfVisit ∈ gw := gw_t6 48 rfl rfl
set_option maxRecDepth 20000 in
theorem yvX4_entryOfVisit : ab_yV RX4 yX4_entryOfVisit mdX4_entryOfVisit 3 := ⟨imX4_entryOfVisit, seX4_entryOfVisit, iniX4, coX4_entryOfVisit, ⟨by decide +kernel, by decide +kernel⟩, by decide +kernel⟩
def mdX4_isVisit : ab_M := (RX4, "isVisit", cX4_isVisit, 2, (some .boolean), [], dlX4_isVisit)
set_option maxRecDepth 20000 in
theorem imX4_isVisit : Cond.instanceMethod yX4_isVisit ∈ gw := gw_t6 25 rfl rfl
set_option maxRecDepth 20000 in
theorem coX4_isVisit : Cond.code yX4_isVisit cX4_isVisit 2 (some .boolean) ∈ gw := gw_t6 27 rfl rfl
set_option maxRecDepth 20000 in
theorem seX4_isVisit : Cond.selects RX4 yX4_isVisit yX4_isVisit ∈ gw := gw_t6 26 rfl rfl
set_option maxRecDepth 20000 in
theorem yvX4_isVisit : ab_yV RX4 yX4_isVisit mdX4_isVisit 1 := ⟨imX4_isVisit, seX4_isVisit, iniX4, coX4_isVisit, ⟨by decide +kernel, by decide +kernel⟩, by decide +kernel⟩
def mdX4_occurrenceOf : ab_M := (RX4, "occurrenceOf", cX4_occurrenceOf, 2, (some .int), [], dlX4_occurrenceOf)
set_option maxRecDepth 20000 in
theorem imX4_occurrenceOf : Cond.instanceMethod yX4_occurrenceOf ∈ gw := gw_t6 21 rfl rfl
set_option maxRecDepth 20000 in
theorem coX4_occurrenceOf : Cond.code yX4_occurrenceOf cX4_occurrenceOf 2 (some .int) ∈ gw := gw_t6 23 rfl rfl
set_option maxRecDepth 20000 in
theorem seX4_occurrenceOf : Cond.selects RX4 yX4_occurrenceOf yX4_occurrenceOf ∈ gw := gw_t6 22 rfl rfl
set_option maxRecDepth 20000 in
theorem yvX4_occurrenceOf : ab_yV RX4 yX4_occurrenceOf mdX4_occurrenceOf 1 := ⟨imX4_occurrenceOf, seX4_occurrenceOf, iniX4, coX4_occurrenceOf, ⟨by decide +kernel, by decide +kernel⟩, by decide +kernel⟩
def mdX4_attributeOf : ab_M := (RX4, "attributeOf", cX4_attributeOf, 2, (some .int), [], dlX4_attributeOf)
set_option maxRecDepth 20000 in
theorem imX4_attributeOf : Cond.instanceMethod yX4_attributeOf ∈ gw := gw_t6 34 rfl rfl
set_option maxRecDepth 20000 in
theorem coX4_attributeOf : Cond.code yX4_attributeOf cX4_attributeOf 2 (some .int) ∈ gw := gw_t6 36 rfl rfl
set_option maxRecDepth 20000 in
theorem seX4_attributeOf : Cond.selects RX4 yX4_attributeOf yX4_attributeOf ∈ gw := gw_t6 35 rfl rfl
set_option maxRecDepth 20000 in
theorem yvX4_attributeOf : ab_yV RX4 yX4_attributeOf mdX4_attributeOf 1 := ⟨imX4_attributeOf, seX4_attributeOf, iniX4, coX4_attributeOf, ⟨by decide +kernel, by decide +kernel⟩, by decide +kernel⟩
def mdX5_init : ab_M := (RX5, "<init>", cX5_init, 3, none, [], dlX5_init)
set_option maxRecDepth 20000 in
theorem imX5_init : Cond.instanceMethod yX5_init ∈ gw := gw_t1 230 rfl rfl
set_option maxRecDepth 20000 in
theorem coX5_init : Cond.code yX5_init cX5_init 3 none ∈ gw := gw_t1 231 rfl rfl
def mdX5_add : ab_M := (RX5, "add", cX5_add, 4, none, [], dlX5_add)
set_option maxRecDepth 20000 in
theorem imX5_add : Cond.instanceMethod yX5_add ∈ gw := gw_t6 90 rfl rfl
set_option maxRecDepth 20000 in
theorem coX5_add : Cond.code yX5_add cX5_add 4 none ∈ gw := gw_t6 91 rfl rfl
set_option maxRecDepth 20000 in
theorem seX5_add : Cond.selects RX5 yX5_add yX5_add ∈ gw := gw_of (List.mem_of_getElem? (i := 44) (by decide +kernel)) rfl
set_option maxRecDepth 20000 in
theorem yvX5_add : ab_yV RX5 yX5_add mdX5_add 3 := ⟨imX5_add, seX5_add, iniX5, coX5_add, ⟨by decide +kernel, by decide +kernel⟩, by decide +kernel⟩
def mdX5_attributeAt : ab_M := (RX5, "attributeAt", cX5_attributeAt, 3, (some .int), [], dlX5_attributeAt)
set_option maxRecDepth 20000 in
theorem imX5_attributeAt : Cond.instanceMethod yX5_attributeAt ∈ gw := gw_t6 103 rfl rfl
set_option maxRecDepth 20000 in
theorem coX5_attributeAt : Cond.code yX5_attributeAt cX5_attributeAt 3 (some .int) ∈ gw := gw_t6 104 rfl rfl
set_option maxRecDepth 20000 in
theorem seX5_attributeAt : Cond.selects RX5 yX5_attributeAt yX5_attributeAt ∈ gw := gw_of (List.mem_of_getElem? (i := 47) (by decide +kernel)) rfl
set_option maxRecDepth 20000 in
theorem yvX5_attributeAt : ab_yV RX5 yX5_attributeAt mdX5_attributeAt 2 := ⟨imX5_attributeAt, seX5_attributeAt, iniX5, coX5_attributeAt, ⟨by decide +kernel, by decide +kernel⟩, by decide +kernel⟩
def mdX5_getKind : ab_M := (RX5, "getKind", cX5_getKind, 3, (some .int), [], dlX5_getKind)
set_option maxRecDepth 20000 in
theorem imX5_getKind : Cond.instanceMethod yX5_getKind ∈ gw := gw_t6 99 rfl rfl
set_option maxRecDepth 20000 in
theorem coX5_getKind : Cond.code yX5_getKind cX5_getKind 3 (some .int) ∈ gw := gw_t6 100 rfl rfl
set_option maxRecDepth 20000 in
theorem seX5_getKind : Cond.selects RX5 yX5_getKind yX5_getKind ∈ gw := gw_of (List.mem_of_getElem? (i := 46) (by decide +kernel)) rfl
set_option maxRecDepth 20000 in
theorem yvX5_getKind : ab_yV RX5 yX5_getKind mdX5_getKind 2 := ⟨imX5_getKind, seX5_getKind, iniX5, coX5_getKind, ⟨by decide +kernel, by decide +kernel⟩, by decide +kernel⟩
def mdX7_countAhead : ab_M := (RX7, "countAhead", cX7_countAhead, 6, (some .int), [], dlX7_countAhead)
set_option maxRecDepth 20000 in
theorem imX7_countAhead : Cond.instanceMethod yX7_countAhead ∈ gw := gw_t6 114 rfl rfl
set_option maxRecDepth 20000 in
theorem coX7_countAhead : Cond.code yX7_countAhead cX7_countAhead 6 (some .int) ∈ gw := gw_t6 116 rfl rfl
set_option maxRecDepth 20000 in
theorem seX7_countAhead : Cond.selects RX7 yX7_countAhead yX7_countAhead ∈ gw := gw_t6 115 rfl rfl
set_option maxRecDepth 20000 in
theorem yvX7_countAhead : ab_yV RX7 yX7_countAhead mdX7_countAhead 3 := ⟨imX7_countAhead, seX7_countAhead, iniX7, coX7_countAhead, ⟨by decide +kernel, by decide +kernel⟩, by decide +kernel⟩
def mdX7_frameAhead : ab_M := (RX7, "frameAhead", cX7_frameAhead, 5, (some .int), [], dlX7_frameAhead)
set_option maxRecDepth 20000 in
theorem imX7_frameAhead : Cond.instanceMethod yX7_frameAhead ∈ gw := gw_t6 110 rfl rfl
set_option maxRecDepth 20000 in
theorem coX7_frameAhead : Cond.code yX7_frameAhead cX7_frameAhead 5 (some .int) ∈ gw := gw_t6 112 rfl rfl
set_option maxRecDepth 20000 in
theorem seX7_frameAhead : Cond.selects RX7 yX7_frameAhead yX7_frameAhead ∈ gw := gw_t6 111 rfl rfl
set_option maxRecDepth 20000 in
theorem yvX7_frameAhead : ab_yV RX7 yX7_frameAhead mdX7_frameAhead 2 := ⟨imX7_frameAhead, seX7_frameAhead, iniX7, coX7_frameAhead, ⟨by decide +kernel, by decide +kernel⟩, by decide +kernel⟩
def mdX5_getNumber : ab_M := (RX5, "getNumber", cX5_getNumber, 5, (some .int), [], dlX5_getNumber)
set_option maxRecDepth 20000 in
theorem imX5_getNumber : Cond.instanceMethod yX5_getNumber ∈ gw := gw_t6 107 rfl rfl
set_option maxRecDepth 20000 in
theorem coX5_getNumber : Cond.code yX5_getNumber cX5_getNumber 5 (some .int) ∈ gw := gw_t6 108 rfl rfl
set_option maxRecDepth 20000 in
theorem seX5_getNumber : Cond.selects RX5 yX5_getNumber yX5_getNumber ∈ gw := gw_of (List.mem_of_getElem? (i := 48) (by decide +kernel)) rfl
set_option maxRecDepth 20000 in
theorem yvX5_getNumber : ab_yV RX5 yX5_getNumber mdX5_getNumber 2 := ⟨imX5_getNumber, seX5_getNumber, iniX5, coX5_getNumber, ⟨by decide +kernel, by decide +kernel⟩, by decide +kernel⟩
def mdX5_addExpression : ab_M := (RX5, "addExpression", cX5_addExpression, 9, none, [], dlX5_addExpression)
set_option maxRecDepth 20000 in
theorem imX5_addExpression : Cond.instanceMethod yX5_addExpression ∈ gw := gw_t6 95 rfl rfl
set_option maxRecDepth 20000 in
theorem coX5_addExpression : Cond.code yX5_addExpression cX5_addExpression 9 none ∈ gw := gw_t6 96 rfl rfl
set_option maxRecDepth 20000 in
theorem seX5_addExpression : Cond.selects RX5 yX5_addExpression yX5_addExpression ∈ gw := gw_of (List.mem_of_getElem? (i := 45) (by decide +kernel)) rfl
set_option maxRecDepth 20000 in
theorem yvX5_addExpression : ab_yV RX5 yX5_addExpression mdX5_addExpression 2 := ⟨imX5_addExpression, seX5_addExpression, iniX5, coX5_addExpression, ⟨by decide +kernel, by decide +kernel⟩, by decide +kernel⟩
def mdX5_addEntry : ab_M := (RX5, "addEntry", cX5_addEntry, 5, none, [], dlX5_addEntry)
set_option maxRecDepth 20000 in
theorem imX5_addEntry : Cond.instanceMethod yX5_addEntry ∈ gw := gw_t6 84 rfl rfl
set_option maxRecDepth 20000 in
theorem coX5_addEntry : Cond.code yX5_addEntry cX5_addEntry 5 none ∈ gw := gw_t6 85 rfl rfl
set_option maxRecDepth 20000 in
theorem seX5_addEntry : Cond.selects RX5 yX5_addEntry yX5_addEntry ∈ gw := gw_of (List.mem_of_getElem? (i := 43) (by decide +kernel)) rfl
set_option maxRecDepth 20000 in
theorem yvX5_addEntry : ab_yV RX5 yX5_addEntry mdX5_addEntry 2 := ⟨imX5_addEntry, seX5_addEntry, iniX5, coX5_addEntry, ⟨by decide +kernel, by decide +kernel⟩, by decide +kernel⟩
def mdX5_assemble : ab_M := (RX5, "assemble", cX5_assemble, 6, none, [], dlX5_assemble)
set_option maxRecDepth 20000 in
theorem imX5_assemble : Cond.instanceMethod yX5_assemble ∈ gw := gw_t6 77 rfl rfl
set_option maxRecDepth 20000 in
theorem coX5_assemble : Cond.code yX5_assemble cX5_assemble 6 none ∈ gw := gw_t6 79 rfl rfl
set_option maxRecDepth 20000 in
theorem seX5_assemble : Cond.selects RX5 yX5_assemble yX5_assemble ∈ gw := gw_t6 78 rfl rfl
set_option maxRecDepth 20000 in
theorem yvX5_assemble : ab_yV RX5 yX5_assemble mdX5_assemble 1 := ⟨imX5_assemble, seX5_assemble, iniX5, coX5_assemble, ⟨by decide +kernel, by decide +kernel⟩, by decide +kernel⟩
def mdX6_init : ab_M := (RX6, "<init>", cX6_init, 2, none, [], dlX6_init)
set_option maxRecDepth 20000 in
theorem imX6_init : Cond.instanceMethod yX6_init ∈ gw := gw_t1 63 rfl rfl
set_option maxRecDepth 20000 in
theorem coX6_init : Cond.code yX6_init cX6_init 2 none ∈ gw := gw_t1 64 rfl rfl
def mdX7_init : ab_M := (RX7, "<init>", cX7_init, 2, none, [], dlX7_init)
set_option maxRecDepth 20000 in
theorem imX7_init : Cond.instanceMethod yX7_init ∈ gw := gw_t1 201 rfl rfl
set_option maxRecDepth 20000 in
theorem coX7_init : Cond.code yX7_init cX7_init 2 none ∈ gw := gw_t1 202 rfl rfl
def mdX7_rowOf : ab_M := (RX7, "rowOf", cX7_rowOf, 2, (some .int), [], dlX7_rowOf)
set_option maxRecDepth 20000 in
theorem smX7_rowOf : Cond.static yX7_rowOf ∈ gw := gw_t6 18 rfl rfl
set_option maxRecDepth 20000 in
theorem coX7_rowOf : Cond.code yX7_rowOf cX7_rowOf 2 (some .int) ∈ gw := gw_t6 19 rfl rfl
set_option maxRecDepth 20000 in
theorem yvX7_rowOf : ab_yS yX7_rowOf mdX7_rowOf 2 := ⟨smX7_rowOf, iniX7, coX7_rowOf, ⟨by decide +kernel, by decide +kernel⟩, by decide +kernel⟩
def mdX7_addDefined : ab_M := (RX7, "addDefined", cX7_addDefined, 4, (some .boolean), [], dlX7_addDefined)
set_option maxRecDepth 20000 in
theorem imX7_addDefined : Cond.instanceMethod yX7_addDefined ∈ gw := gw_t6 31 rfl rfl
set_option maxRecDepth 20000 in
theorem coX7_addDefined : Cond.code yX7_addDefined cX7_addDefined 4 (some .boolean) ∈ gw := gw_t6 32 rfl rfl
set_option maxRecDepth 20000 in
theorem seX7_addDefined : Cond.selects RX7 yX7_addDefined yX7_addDefined ∈ gw := gw_of (List.mem_of_getElem? (i := 35) (by decide +kernel)) rfl
set_option maxRecDepth 20000 in
theorem yvX7_addDefined : ab_yV RX7 yX7_addDefined mdX7_addDefined 2 := ⟨imX7_addDefined, seX7_addDefined, iniX7, coX7_addDefined, ⟨by decide +kernel, by decide +kernel⟩, by decide +kernel⟩
def mdX7_collectDefined : ab_M := (RX7, "collectDefined", cX7_collectDefined, 10, (some .boolean), [], dlX7_collectDefined)
set_option maxRecDepth 20000 in
theorem imX7_collectDefined : Cond.instanceMethod yX7_collectDefined ∈ gw := gw_t6 10 rfl rfl
set_option maxRecDepth 20000 in
theorem coX7_collectDefined : Cond.code yX7_collectDefined cX7_collectDefined 10 (some .boolean) ∈ gw := gw_t6 11 rfl rfl
set_option maxRecDepth 20000 in
theorem seX7_collectDefined : Cond.selects RX7 yX7_collectDefined yX7_collectDefined ∈ gw := gw_of (List.mem_of_getElem? (i := 34) (by decide +kernel)) rfl
set_option maxRecDepth 20000 in
theorem yvX7_collectDefined : ab_yV RX7 yX7_collectDefined mdX7_collectDefined 1 := ⟨imX7_collectDefined, seX7_collectDefined, iniX7, coX7_collectDefined, ⟨by decide +kernel, by decide +kernel⟩, by decide +kernel⟩
def mdX7_findDefined : ab_M := (RX7, "findDefined", cX7_findDefined, 4, none, [], dlX7_findDefined)
set_option maxRecDepth 20000 in
theorem imX7_findDefined : Cond.instanceMethod yX7_findDefined ∈ gw := gw_t6 5 rfl rfl
set_option maxRecDepth 20000 in
theorem coX7_findDefined : Cond.code yX7_findDefined cX7_findDefined 4 none ∈ gw := gw_t6 6 rfl rfl
set_option maxRecDepth 20000 in
theorem seX7_findDefined : Cond.selects RX7 yX7_findDefined yX7_findDefined ∈ gw := gw_of (List.mem_of_getElem? (i := 33) (by decide +kernel)) rfl
set_option maxRecDepth 20000 in
theorem yvX7_findDefined : ab_yV RX7 yX7_findDefined mdX7_findDefined 0 := ⟨imX7_findDefined, seX7_findDefined, iniX7, coX7_findDefined, ⟨by decide +kernel, by decide +kernel⟩, by decide +kernel⟩
def mdX7_names : ab_M := (RX7, "names", cX7_names, 4, (some .boolean), [], dlX7_names)
set_option maxRecDepth 20000 in
theorem imX7_names : Cond.instanceMethod yX7_names ∈ gw := gw_t6 57 rfl rfl
set_option maxRecDepth 20000 in
theorem coX7_names : Cond.code yX7_names cX7_names 4 (some .boolean) ∈ gw := gw_t6 58 rfl rfl
set_option maxRecDepth 20000 in
theorem seX7_names : Cond.selects RX7 yX7_names yX7_names ∈ gw := gw_of (List.mem_of_getElem? (i := 39) (by decide +kernel)) rfl
set_option maxRecDepth 20000 in
theorem yvX7_names : ab_yV RX7 yX7_names mdX7_names 3 := ⟨imX7_names, seX7_names, iniX7, coX7_names, ⟨by decide +kernel, by decide +kernel⟩, by decide +kernel⟩
def mdX7_namedOnlyIn : ab_M := (RX7, "namedOnlyIn", cX7_namedOnlyIn, 5, (some .boolean), [], dlX7_namedOnlyIn)
set_option maxRecDepth 20000 in
theorem imX7_namedOnlyIn : Cond.instanceMethod yX7_namedOnlyIn ∈ gw := gw_t6 53 rfl rfl
set_option maxRecDepth 20000 in
theorem coX7_namedOnlyIn : Cond.code yX7_namedOnlyIn cX7_namedOnlyIn 5 (some .boolean) ∈ gw := gw_t6 54 rfl rfl
set_option maxRecDepth 20000 in
theorem seX7_namedOnlyIn : Cond.selects RX7 yX7_namedOnlyIn yX7_namedOnlyIn ∈ gw := gw_of (List.mem_of_getElem? (i := 38) (by decide +kernel)) rfl
set_option maxRecDepth 20000 in
theorem yvX7_namedOnlyIn : ab_yV RX7 yX7_namedOnlyIn mdX7_namedOnlyIn 3 := ⟨imX7_namedOnlyIn, seX7_namedOnlyIn, iniX7, coX7_namedOnlyIn, ⟨by decide +kernel, by decide +kernel⟩, by decide +kernel⟩
def mdX7_isShortAt : ab_M := (RX7, "isShortAt", cX7_isShortAt, 8, (some .boolean), [], dlX7_isShortAt)
set_option maxRecDepth 20000 in
theorem imX7_isShortAt : Cond.instanceMethod yX7_isShortAt ∈ gw := gw_t6 43 rfl rfl
set_option maxRecDepth 20000 in
theorem coX7_isShortAt : Cond.code yX7_isShortAt cX7_isShortAt 8 (some .boolean) ∈ gw := gw_t6 44 rfl rfl
set_option maxRecDepth 20000 in
theorem seX7_isShortAt : Cond.selects RX7 yX7_isShortAt yX7_isShortAt ∈ gw := gw_of (List.mem_of_getElem? (i := 37) (by decide +kernel)) rfl
set_option maxRecDepth 20000 in
theorem yvX7_isShortAt : ab_yV RX7 yX7_isShortAt mdX7_isShortAt 3 := ⟨imX7_isShortAt, seX7_isShortAt, iniX7, coX7_isShortAt, ⟨by decide +kernel, by decide +kernel⟩, by decide +kernel⟩
def mdX7_lastNaming : ab_M := (RX7, "lastNaming", cX7_lastNaming, 5, (some .int), [], dlX7_lastNaming)
set_option maxRecDepth 20000 in
theorem imX7_lastNaming : Cond.instanceMethod yX7_lastNaming ∈ gw := gw_t6 69 rfl rfl
set_option maxRecDepth 20000 in
theorem coX7_lastNaming : Cond.code yX7_lastNaming cX7_lastNaming 5 (some .int) ∈ gw := gw_t6 70 rfl rfl
set_option maxRecDepth 20000 in
theorem seX7_lastNaming : Cond.selects RX7 yX7_lastNaming yX7_lastNaming ∈ gw := gw_of (List.mem_of_getElem? (i := 41) (by decide +kernel)) rfl
set_option maxRecDepth 20000 in
theorem yvX7_lastNaming : ab_yV RX7 yX7_lastNaming mdX7_lastNaming 2 := ⟨imX7_lastNaming, seX7_lastNaming, iniX7, coX7_lastNaming, ⟨by decide +kernel, by decide +kernel⟩, by decide +kernel⟩
def mdX7_isFree : ab_M := (RX7, "isFree", cX7_isFree, 9, (some .boolean), [], dlX7_isFree)
set_option maxRecDepth 20000 in
theorem imX7_isFree : Cond.instanceMethod yX7_isFree ∈ gw := gw_t6 74 rfl rfl
set_option maxRecDepth 20000 in
theorem coX7_isFree : Cond.code yX7_isFree cX7_isFree 9 (some .boolean) ∈ gw := gw_t6 75 rfl rfl
set_option maxRecDepth 20000 in
theorem seX7_isFree : Cond.selects RX7 yX7_isFree yX7_isFree ∈ gw := gw_of (List.mem_of_getElem? (i := 42) (by decide +kernel)) rfl
set_option maxRecDepth 20000 in
theorem yvX7_isFree : ab_yV RX7 yX7_isFree mdX7_isFree 5 := ⟨imX7_isFree, seX7_isFree, iniX7, coX7_isFree, ⟨by decide +kernel, by decide +kernel⟩, by decide +kernel⟩
def mdX7_isAloneAt : ab_M := (RX7, "isAloneAt", cX7_isAloneAt, 8, (some .boolean), [], dlX7_isAloneAt)
set_option maxRecDepth 20000 in
theorem imX7_isAloneAt : Cond.instanceMethod yX7_isAloneAt ∈ gw := gw_t6 65 rfl rfl
set_option maxRecDepth 20000 in
theorem coX7_isAloneAt : Cond.code yX7_isAloneAt cX7_isAloneAt 8 (some .boolean) ∈ gw := gw_t6 66 rfl rfl
set_option maxRecDepth 20000 in
theorem seX7_isAloneAt : Cond.selects RX7 yX7_isAloneAt yX7_isAloneAt ∈ gw := gw_of (List.mem_of_getElem? (i := 40) (by decide +kernel)) rfl
set_option maxRecDepth 20000 in
theorem yvX7_isAloneAt : ab_yV RX7 yX7_isAloneAt mdX7_isAloneAt 3 := ⟨imX7_isAloneAt, seX7_isAloneAt, iniX7, coX7_isAloneAt, ⟨by decide +kernel, by decide +kernel⟩, by decide +kernel⟩
def mdX7_kindOf : ab_M := (RX7, "kindOf", cX7_kindOf, 5, (some .int), [], dlX7_kindOf)
set_option maxRecDepth 20000 in
theorem imX7_kindOf : Cond.instanceMethod yX7_kindOf ∈ gw := gw_t6 39 rfl rfl
set_option maxRecDepth 20000 in
theorem coX7_kindOf : Cond.code yX7_kindOf cX7_kindOf 5 (some .int) ∈ gw := gw_t6 40 rfl rfl
set_option maxRecDepth 20000 in
theorem seX7_kindOf : Cond.selects RX7 yX7_kindOf yX7_kindOf ∈ gw := gw_of (List.mem_of_getElem? (i := 36) (by decide +kernel)) rfl
set_option maxRecDepth 20000 in
theorem yvX7_kindOf : ab_yV RX7 yX7_kindOf mdX7_kindOf 2 := ⟨imX7_kindOf, seX7_kindOf, iniX7, coX7_kindOf, ⟨by decide +kernel, by decide +kernel⟩, by decide +kernel⟩
def mdX7_find : ab_M := (RX7, "find", cX7_find, 5, none, [], dlX7_find)
set_option maxRecDepth 20000 in
theorem imX7_find : Cond.instanceMethod yX7_find ∈ gw := gw_t6 0 rfl rfl
set_option maxRecDepth 20000 in
theorem coX7_find : Cond.code yX7_find cX7_find 5 none ∈ gw := gw_t6 2 rfl rfl
set_option maxRecDepth 20000 in
theorem seX7_find : Cond.selects RX7 yX7_find yX7_find ∈ gw := gw_t6 1 rfl rfl
set_option maxRecDepth 20000 in
theorem yvX7_find : ab_yV RX7 yX7_find mdX7_find 1 := ⟨imX7_find, seX7_find, iniX7, coX7_find, ⟨by decide +kernel, by decide +kernel⟩, by decide +kernel⟩
def mdX7_frame : ab_M := (RX7, "frame", cX7_frame, 2, (some .int), [], dlX7_frame)
set_option maxRecDepth 20000 in
theorem imX7_frame : Cond.instanceMethod yX7_frame ∈ gw := gw_t7 140 rfl rfl
set_option maxRecDepth 20000 in
theorem coX7_frame : Cond.code yX7_frame cX7_frame 2 (some .int) ∈ gw := gw_t7 142 rfl rfl
set_option maxRecDepth 20000 in
theorem seX7_frame : Cond.selects RX7 yX7_frame yX7_frame ∈ gw := gw_t7 141 rfl rfl
set_option maxRecDepth 20000 in
theorem yvX7_frame : ab_yV RX7 yX7_frame mdX7_frame 1 := ⟨imX7_frame, seX7_frame, iniX7, coX7_frame, ⟨by decide +kernel, by decide +kernel⟩, by decide +kernel⟩
def mdX8_init : ab_M := (RX8, "<init>", cX8_init, 1, none, [], dlX8_init)
set_option maxRecDepth 20000 in
theorem imX8_init : Cond.instanceMethod yX8_init ∈ gw := gw_t1 46 rfl rfl
set_option maxRecDepth 20000 in
theorem coX8_init : Cond.code yX8_init cX8_init 1 none ∈ gw := gw_t1 47 rfl rfl
def mdX8_allows : ab_M := (RX8, "allows", cX8_allows, 1, (some .boolean), [], dlX8_allows)
set_option maxRecDepth 20000 in
theorem smX8_allows : Cond.static yX8_allows ∈ gw := gw_t6 128 rfl rfl
set_option maxRecDepth 20000 in
theorem coX8_allows : Cond.code yX8_allows cX8_allows 1 (some .boolean) ∈ gw := gw_t6 129 rfl rfl
set_option maxRecDepth 20000 in
theorem yvX8_allows : ab_yS yX8_allows mdX8_allows 1 := ⟨smX8_allows, iniX8, coX8_allows, ⟨by decide +kernel, by decide +kernel⟩, by decide +kernel⟩
def mdX8_append : ab_M := (RX8, "append", cX8_append, 4, none, [], dlX8_append)
set_option maxRecDepth 20000 in
theorem imX8_append : Cond.instanceMethod yX8_append ∈ gw := gw_t6 157 rfl rfl
set_option maxRecDepth 20000 in
theorem coX8_append : Cond.code yX8_append cX8_append 4 none ∈ gw := gw_t6 159 rfl rfl
set_option maxRecDepth 20000 in
theorem seX8_append : Cond.selects RX8 yX8_append yX8_append ∈ gw := gw_t6 158 rfl rfl
set_option maxRecDepth 20000 in
theorem yvX8_append : ab_yV RX8 yX8_append mdX8_append 1 := ⟨imX8_append, seX8_append, iniX8, coX8_append, ⟨by decide +kernel, by decide +kernel⟩, by decide +kernel⟩
def mdX9_init : ab_M := (RX9, "<init>", cX9_init, 1, none, [], dlX9_init)
set_option maxRecDepth 20000 in
theorem imX9_init : Cond.instanceMethod yX9_init ∈ gw := gw_t2 199 rfl rfl
set_option maxRecDepth 20000 in
theorem coX9_init : Cond.code yX9_init cX9_init 1 none ∈ gw := gw_t2 200 rfl rfl
def mdX9_add : ab_M := (RX9, "add", cX9_add, 3, none, [], dlX9_add)
set_option maxRecDepth 20000 in
theorem imX9_add : Cond.instanceMethod yX9_add ∈ gw := gw_t7 23 rfl rfl
set_option maxRecDepth 20000 in
theorem coX9_add : Cond.code yX9_add cX9_add 3 none ∈ gw := gw_t7 25 rfl rfl
set_option maxRecDepth 20000 in
theorem seX9_add : Cond.selects RX9 yX9_add yX9_add ∈ gw := gw_t7 24 rfl rfl
set_option maxRecDepth 20000 in
theorem yvX9_add : ab_yV RX9 yX9_add mdX9_add 2 := ⟨imX9_add, seX9_add, iniX9, coX9_add, ⟨by decide +kernel, by decide +kernel⟩, by decide +kernel⟩
def mdX10_init : ab_M := (RX10, "<init>", cX10_init, 2, none, [], dlX10_init)
set_option maxRecDepth 20000 in
theorem imX10_init : Cond.instanceMethod yX10_init ∈ gw := gw_t1 129 rfl rfl
set_option maxRecDepth 20000 in
theorem coX10_init : Cond.code yX10_init cX10_init 2 none ∈ gw := gw_t1 130 rfl rfl
def mdX10_readLiteral : ab_M := (RX10, "readLiteral", cX10_readLiteral, 2, (some .boolean), [], dlX10_readLiteral)
set_option maxRecDepth 20000 in
theorem imX10_readLiteral : Cond.instanceMethod yX10_readLiteral ∈ gw := gw_t7 29 rfl rfl
set_option maxRecDepth 20000 in
theorem coX10_readLiteral : Cond.code yX10_readLiteral cX10_readLiteral 2 (some .boolean) ∈ gw := gw_t7 30 rfl rfl
set_option maxRecDepth 20000 in
theorem seX10_readLiteral : Cond.selects RX10 yX10_readLiteral yX10_readLiteral ∈ gw := gw_of (List.mem_of_getElem? (i := 56) (by decide +kernel)) rfl
set_option maxRecDepth 20000 in
theorem yvX10_readLiteral : ab_yV RX10 yX10_readLiteral mdX10_readLiteral 0 := ⟨imX10_readLiteral, seX10_readLiteral, iniX10, coX10_readLiteral, ⟨by decide +kernel, by decide +kernel⟩, by decide +kernel⟩
def mdX10_readHead : ab_M := (RX10, "readHead", cX10_readHead, 3, (some .boolean), [], dlX10_readHead)
set_option maxRecDepth 20000 in
theorem imX10_readHead : Cond.instanceMethod yX10_readHead ∈ gw := gw_t7 18 rfl rfl
set_option maxRecDepth 20000 in
theorem coX10_readHead : Cond.code yX10_readHead cX10_readHead 3 (some .boolean) ∈ gw := gw_t7 19 rfl rfl
set_option maxRecDepth 20000 in
theorem seX10_readHead : Cond.selects RX10 yX10_readHead yX10_readHead ∈ gw := gw_of (List.mem_of_getElem? (i := 55) (by decide +kernel)) rfl
set_option maxRecDepth 20000 in
theorem yvX10_readHead : ab_yV RX10 yX10_readHead mdX10_readHead 0 := ⟨imX10_readHead, seX10_readHead, iniX10, coX10_readHead, ⟨by decide +kernel, by decide +kernel⟩, by decide +kernel⟩
def mdX10_closeFull : ab_M := (RX10, "closeFull", cX10_closeFull, 2, (some .boolean), [], dlX10_closeFull)
set_option maxRecDepth 20000 in
theorem imX10_closeFull : Cond.instanceMethod yX10_closeFull ∈ gw := gw_t7 34 rfl rfl
set_option maxRecDepth 20000 in
theorem coX10_closeFull : Cond.code yX10_closeFull cX10_closeFull 2 (some .boolean) ∈ gw := gw_t7 35 rfl rfl
set_option maxRecDepth 20000 in
theorem seX10_closeFull : Cond.selects RX10 yX10_closeFull yX10_closeFull ∈ gw := gw_of (List.mem_of_getElem? (i := 57) (by decide +kernel)) rfl
set_option maxRecDepth 20000 in
theorem yvX10_closeFull : ab_yV RX10 yX10_closeFull mdX10_closeFull 0 := ⟨imX10_closeFull, seX10_closeFull, iniX10, coX10_closeFull, ⟨by decide +kernel, by decide +kernel⟩, by decide +kernel⟩
def mdX10_readNodes : ab_M := (RX10, "readNodes", cX10_readNodes, 2, (some .boolean), [], dlX10_readNodes)
set_option maxRecDepth 20000 in
theorem imX10_readNodes : Cond.instanceMethod yX10_readNodes ∈ gw := gw_t7 14 rfl rfl
set_option maxRecDepth 20000 in
theorem coX10_readNodes : Cond.code yX10_readNodes cX10_readNodes 2 (some .boolean) ∈ gw := gw_t7 15 rfl rfl
set_option maxRecDepth 20000 in
theorem seX10_readNodes : Cond.selects RX10 yX10_readNodes yX10_readNodes ∈ gw := gw_of (List.mem_of_getElem? (i := 54) (by decide +kernel)) rfl
set_option maxRecDepth 20000 in
theorem yvX10_readNodes : ab_yV RX10 yX10_readNodes mdX10_readNodes 0 := ⟨imX10_readNodes, seX10_readNodes, iniX10, coX10_readNodes, ⟨by decide +kernel, by decide +kernel⟩, by decide +kernel⟩
def mdX10_read : ab_M := (RX10, "read", cX10_read, 3, (some .int), [], dlX10_read)
set_option maxRecDepth 20000 in
theorem imX10_read : Cond.instanceMethod yX10_read ∈ gw := gw_t7 8 rfl rfl
set_option maxRecDepth 20000 in
theorem coX10_read : Cond.code yX10_read cX10_read 3 (some .int) ∈ gw := gw_t7 10 rfl rfl
set_option maxRecDepth 20000 in
theorem seX10_read : Cond.selects RX10 yX10_read yX10_read ∈ gw := gw_t7 9 rfl rfl
set_option maxRecDepth 20000 in
theorem yvX10_read : ab_yV RX10 yX10_read mdX10_read 2 := ⟨imX10_read, seX10_read, iniX10, coX10_read, ⟨by decide +kernel, by decide +kernel⟩, by decide +kernel⟩
def mdX11_init : ab_M := (RX11, "<init>", cX11_init, 2, none, [], dlX11_init)
set_option maxRecDepth 20000 in
theorem imX11_init : Cond.instanceMethod yX11_init ∈ gw := gw_t1 38 rfl rfl
set_option maxRecDepth 20000 in
theorem coX11_init : Cond.code yX11_init cX11_init 2 none ∈ gw := gw_t1 39 rfl rfl
def mdX11_put : ab_M := (RX11, "put", cX11_put, 5, (some .int), [], dlX11_put)
set_option maxRecDepth 20000 in
theorem imX11_put : Cond.instanceMethod yX11_put ∈ gw := gw_t6 124 rfl rfl
set_option maxRecDepth 20000 in
theorem coX11_put : Cond.code yX11_put cX11_put 5 (some .int) ∈ gw := gw_t6 126 rfl rfl
set_option maxRecDepth 20000 in
theorem seX11_put : Cond.selects RX11 yX11_put yX11_put ∈ gw := gw_t6 125 rfl rfl
set_option maxRecDepth 20000 in
theorem yvX11_put : ab_yV RX11 yX11_put mdX11_put 1 := ⟨imX11_put, seX11_put, iniX11, coX11_put, ⟨by decide +kernel, by decide +kernel⟩, by decide +kernel⟩
def mdX11_end : ab_M := (RX11, "end", cX11_end, 2, none, [], dlX11_end)
set_option maxRecDepth 20000 in
theorem imX11_end : Cond.instanceMethod yX11_end ∈ gw := gw_t6 164 rfl rfl
set_option maxRecDepth 20000 in
theorem coX11_end : Cond.code yX11_end cX11_end 2 none ∈ gw := gw_t6 166 rfl rfl
set_option maxRecDepth 20000 in
theorem seX11_end : Cond.selects RX11 yX11_end yX11_end ∈ gw := gw_t6 165 rfl rfl
set_option maxRecDepth 20000 in
theorem yvX11_end : ab_yV RX11 yX11_end mdX11_end 1 := ⟨imX11_end, seX11_end, iniX11, coX11_end, ⟨by decide +kernel, by decide +kernel⟩, by decide +kernel⟩
def mdX11_takeGrammar : ab_M := (RX11, "takeGrammar", cX11_takeGrammar, 2, none, [], dlX11_takeGrammar)
set_option maxRecDepth 20000 in
theorem imX11_takeGrammar : Cond.instanceMethod yX11_takeGrammar ∈ gw := gw_t5 199 rfl rfl
set_option maxRecDepth 20000 in
theorem coX11_takeGrammar : Cond.code yX11_takeGrammar cX11_takeGrammar 2 none ∈ gw := gw_t5 200 rfl rfl
set_option maxRecDepth 20000 in
theorem seX11_takeGrammar : Cond.selects RX11 yX11_takeGrammar yX11_takeGrammar ∈ gw := gw_of (List.mem_of_getElem? (i := 27) (by decide +kernel)) rfl
set_option maxRecDepth 20000 in
theorem yvX11_takeGrammar : ab_yV RX11 yX11_takeGrammar mdX11_takeGrammar 1 := ⟨imX11_takeGrammar, seX11_takeGrammar, iniX11, coX11_takeGrammar, ⟨by decide +kernel, by decide +kernel⟩, by decide +kernel⟩
def mdX11_grammar : ab_M := (RX11, "grammar", cX11_grammar, 5, (some .int), [], dlX11_grammar)
set_option maxRecDepth 20000 in
theorem imX11_grammar : Cond.instanceMethod yX11_grammar ∈ gw := gw_t3 48 rfl rfl
set_option maxRecDepth 20000 in
theorem coX11_grammar : Cond.code yX11_grammar cX11_grammar 5 (some .int) ∈ gw := gw_t3 50 rfl rfl
set_option maxRecDepth 20000 in
theorem seX11_grammar : Cond.selects RX11 yX11_grammar yX11_grammar ∈ gw := gw_t3 49 rfl rfl
set_option maxRecDepth 20000 in
theorem yvX11_grammar : ab_yV RX11 yX11_grammar mdX11_grammar 0 := ⟨imX11_grammar, seX11_grammar, iniX11, coX11_grammar, ⟨by decide +kernel, by decide +kernel⟩, by decide +kernel⟩
def mdX11_needGrammar : ab_M := (RX11, "needGrammar", cX11_needGrammar, 1, none, [], dlX11_needGrammar)
set_option maxRecDepth 20000 in
theorem imX11_needGrammar : Cond.instanceMethod yX11_needGrammar ∈ gw := gw_t6 177 rfl rfl
set_option maxRecDepth 20000 in
theorem coX11_needGrammar : Cond.code yX11_needGrammar cX11_needGrammar 1 none ∈ gw := gw_t6 178 rfl rfl
set_option maxRecDepth 20000 in
theorem seX11_needGrammar : Cond.selects RX11 yX11_needGrammar yX11_needGrammar ∈ gw := gw_of (List.mem_of_getElem? (i := 49) (by decide +kernel)) rfl
set_option maxRecDepth 20000 in
theorem yvX11_needGrammar : ab_yV RX11 yX11_needGrammar mdX11_needGrammar 0 := ⟨imX11_needGrammar, seX11_needGrammar, iniX11, coX11_needGrammar, ⟨by decide +kernel, by decide +kernel⟩, by decide +kernel⟩
def mdX11_size : ab_M := (RX11, "size", cX11_size, 2, (some .int), [], dlX11_size)
set_option maxRecDepth 20000 in
theorem imX11_size : Cond.instanceMethod yX11_size ∈ gw := gw_t6 172 rfl rfl
set_option maxRecDepth 20000 in
theorem coX11_size : Cond.code yX11_size cX11_size 2 (some .int) ∈ gw := gw_t6 174 rfl rfl
set_option maxRecDepth 20000 in
theorem seX11_size : Cond.selects RX11 yX11_size yX11_size ∈ gw := gw_t6 173 rfl rfl
set_option maxRecDepth 20000 in
theorem yvX11_size : ab_yV RX11 yX11_size mdX11_size 1 := ⟨imX11_size, seX11_size, iniX11, coX11_size, ⟨by decide +kernel, by decide +kernel⟩, by decide +kernel⟩
def mdX11_needSymbol : ab_M := (RX11, "needSymbol", cX11_needSymbol, 2, none, [], dlX11_needSymbol)
set_option maxRecDepth 20000 in
theorem imX11_needSymbol : Cond.instanceMethod yX11_needSymbol ∈ gw := gw_t6 207 rfl rfl
set_option maxRecDepth 20000 in
theorem coX11_needSymbol : Cond.code yX11_needSymbol cX11_needSymbol 2 none ∈ gw := gw_t6 208 rfl rfl
set_option maxRecDepth 20000 in
theorem seX11_needSymbol : Cond.selects RX11 yX11_needSymbol yX11_needSymbol ∈ gw := gw_of (List.mem_of_getElem? (i := 51) (by decide +kernel)) rfl
set_option maxRecDepth 20000 in
theorem yvX11_needSymbol : ab_yV RX11 yX11_needSymbol mdX11_needSymbol 1 := ⟨imX11_needSymbol, seX11_needSymbol, iniX11, coX11_needSymbol, ⟨by decide +kernel, by decide +kernel⟩, by decide +kernel⟩
def mdX11_needAttribute : ab_M := (RX11, "needAttribute", cX11_needAttribute, 3, none, [], dlX11_needAttribute)
set_option maxRecDepth 20000 in
theorem imX11_needAttribute : Cond.instanceMethod yX11_needAttribute ∈ gw := gw_t6 203 rfl rfl
set_option maxRecDepth 20000 in
theorem coX11_needAttribute : Cond.code yX11_needAttribute cX11_needAttribute 3 none ∈ gw := gw_t6 204 rfl rfl
set_option maxRecDepth 20000 in
theorem seX11_needAttribute : Cond.selects RX11 yX11_needAttribute yX11_needAttribute ∈ gw := gw_of (List.mem_of_getElem? (i := 50) (by decide +kernel)) rfl
set_option maxRecDepth 20000 in
theorem yvX11_needAttribute : ab_yV RX11 yX11_needAttribute mdX11_needAttribute 2 := ⟨imX11_needAttribute, seX11_needAttribute, iniX11, coX11_needAttribute, ⟨by decide +kernel, by decide +kernel⟩, by decide +kernel⟩
def mdX11_depends : ab_M := (RX11, "depends", cX11_depends, 4, (some .boolean), [], dlX11_depends)
set_option maxRecDepth 20000 in
theorem imX11_depends : Cond.instanceMethod yX11_depends ∈ gw := gw_t6 198 rfl rfl
set_option maxRecDepth 20000 in
theorem coX11_depends : Cond.code yX11_depends cX11_depends 4 (some .boolean) ∈ gw := gw_t6 200 rfl rfl
set_option maxRecDepth 20000 in
theorem seX11_depends : Cond.selects RX11 yX11_depends yX11_depends ∈ gw := gw_t6 199 rfl rfl
set_option maxRecDepth 20000 in
theorem yvX11_depends : ab_yV RX11 yX11_depends mdX11_depends 3 := ⟨imX11_depends, seX11_depends, iniX11, coX11_depends, ⟨by decide +kernel, by decide +kernel⟩, by decide +kernel⟩
def mdX11_level : ab_M := (RX11, "level", cX11_level, 3, (some .int), [], dlX11_level)
set_option maxRecDepth 20000 in
theorem imX11_level : Cond.instanceMethod yX11_level ∈ gw := gw_t6 213 rfl rfl
set_option maxRecDepth 20000 in
theorem coX11_level : Cond.code yX11_level cX11_level 3 (some .int) ∈ gw := gw_t6 215 rfl rfl
set_option maxRecDepth 20000 in
theorem seX11_level : Cond.selects RX11 yX11_level yX11_level ∈ gw := gw_t6 214 rfl rfl
set_option maxRecDepth 20000 in
theorem yvX11_level : ab_yV RX11 yX11_level mdX11_level 2 := ⟨imX11_level, seX11_level, iniX11, coX11_level, ⟨by decide +kernel, by decide +kernel⟩, by decide +kernel⟩
def mdX11_needVisit : ab_M := (RX11, "needVisit", cX11_needVisit, 3, none, [], dlX11_needVisit)
set_option maxRecDepth 20000 in
theorem imX11_needVisit : Cond.instanceMethod yX11_needVisit ∈ gw := gw_t6 230 rfl rfl
set_option maxRecDepth 20000 in
theorem coX11_needVisit : Cond.code yX11_needVisit cX11_needVisit 3 none ∈ gw := gw_t6 231 rfl rfl
set_option maxRecDepth 20000 in
theorem seX11_needVisit : Cond.selects RX11 yX11_needVisit yX11_needVisit ∈ gw := gw_of (List.mem_of_getElem? (i := 53) (by decide +kernel)) rfl
set_option maxRecDepth 20000 in
theorem yvX11_needVisit : ab_yV RX11 yX11_needVisit mdX11_needVisit 2 := ⟨imX11_needVisit, seX11_needVisit, iniX11, coX11_needVisit, ⟨by decide +kernel, by decide +kernel⟩, by decide +kernel⟩
def mdX11_needPlan : ab_M := (RX11, "needPlan", cX11_needPlan, 3, none, [], dlX11_needPlan)
set_option maxRecDepth 20000 in
theorem imX11_needPlan : Cond.instanceMethod yX11_needPlan ∈ gw := gw_t6 225 rfl rfl
set_option maxRecDepth 20000 in
theorem coX11_needPlan : Cond.code yX11_needPlan cX11_needPlan 3 none ∈ gw := gw_t6 226 rfl rfl
set_option maxRecDepth 20000 in
theorem seX11_needPlan : Cond.selects RX11 yX11_needPlan yX11_needPlan ∈ gw := gw_of (List.mem_of_getElem? (i := 52) (by decide +kernel)) rfl
set_option maxRecDepth 20000 in
theorem yvX11_needPlan : ab_yV RX11 yX11_needPlan mdX11_needPlan 2 := ⟨imX11_needPlan, seX11_needPlan, iniX11, coX11_needPlan, ⟨by decide +kernel, by decide +kernel⟩, by decide +kernel⟩
def mdX11_plan : ab_M := (RX11, "plan", cX11_plan, 5, (some .int), [], dlX11_plan)
set_option maxRecDepth 20000 in
theorem imX11_plan : Cond.instanceMethod yX11_plan ∈ gw := gw_t6 220 rfl rfl
set_option maxRecDepth 20000 in
theorem coX11_plan : Cond.code yX11_plan cX11_plan 5 (some .int) ∈ gw := gw_t6 222 rfl rfl
set_option maxRecDepth 20000 in
theorem seX11_plan : Cond.selects RX11 yX11_plan yX11_plan ∈ gw := gw_t6 221 rfl rfl
set_option maxRecDepth 20000 in
theorem yvX11_plan : ab_yV RX11 yX11_plan mdX11_plan 3 := ⟨imX11_plan, seX11_plan, iniX11, coX11_plan, ⟨by decide +kernel, by decide +kernel⟩, by decide +kernel⟩
def mdX11_store : ab_M := (RX11, "store", cX11_store, 3, (some .int), [], dlX11_store)
set_option maxRecDepth 20000 in
theorem imX11_store : Cond.instanceMethod yX11_store ∈ gw := gw_t6 237 rfl rfl
set_option maxRecDepth 20000 in
theorem coX11_store : Cond.code yX11_store cX11_store 3 (some .int) ∈ gw := gw_t6 239 rfl rfl
set_option maxRecDepth 20000 in
theorem seX11_store : Cond.selects RX11 yX11_store yX11_store ∈ gw := gw_t6 238 rfl rfl
set_option maxRecDepth 20000 in
theorem yvX11_store : ab_yV RX11 yX11_store mdX11_store 2 := ⟨imX11_store, seX11_store, iniX11, coX11_store, ⟨by decide +kernel, by decide +kernel⟩, by decide +kernel⟩
def mdX11_evaluate : ab_M := (RX11, "evaluate", cX11_evaluate, 1, none, [], dlX11_evaluate)
set_option maxRecDepth 20000 in
theorem imX11_evaluate : Cond.instanceMethod yX11_evaluate ∈ gw := gw_t7 38 rfl rfl
set_option maxRecDepth 20000 in
theorem coX11_evaluate : Cond.code yX11_evaluate cX11_evaluate 1 none ∈ gw := gw_t7 39 rfl rfl
set_option maxRecDepth 20000 in
theorem seX11_evaluate : Cond.selects RX11 yX11_evaluate yX11_evaluate ∈ gw := gw_of (List.mem_of_getElem? (i := 58) (by decide +kernel)) rfl
set_option maxRecDepth 20000 in
theorem yvX11_evaluate : ab_yV RX11 yX11_evaluate mdX11_evaluate 0 := ⟨imX11_evaluate, seX11_evaluate, iniX11, coX11_evaluate, ⟨by decide +kernel, by decide +kernel⟩, by decide +kernel⟩
def mdX11_tree : ab_M := (RX11, "tree", cX11_tree, 3, (some .int), [], dlX11_tree)
set_option maxRecDepth 20000 in
theorem imX11_tree : Cond.instanceMethod yX11_tree ∈ gw := gw_t7 4 rfl rfl
set_option maxRecDepth 20000 in
theorem coX11_tree : Cond.code yX11_tree cX11_tree 3 (some .int) ∈ gw := gw_t7 6 rfl rfl
set_option maxRecDepth 20000 in
theorem seX11_tree : Cond.selects RX11 yX11_tree yX11_tree ∈ gw := gw_t7 5 rfl rfl
set_option maxRecDepth 20000 in
theorem yvX11_tree : ab_yV RX11 yX11_tree mdX11_tree 0 := ⟨imX11_tree, seX11_tree, iniX11, coX11_tree, ⟨by decide +kernel, by decide +kernel⟩, by decide +kernel⟩
def mdX11_needTree : ab_M := (RX11, "needTree", cX11_needTree, 1, none, [], dlX11_needTree)
set_option maxRecDepth 20000 in
theorem imX11_needTree : Cond.instanceMethod yX11_needTree ∈ gw := gw_t7 111 rfl rfl
set_option maxRecDepth 20000 in
theorem coX11_needTree : Cond.code yX11_needTree cX11_needTree 1 none ∈ gw := gw_t7 112 rfl rfl
set_option maxRecDepth 20000 in
theorem seX11_needTree : Cond.selects RX11 yX11_needTree yX11_needTree ∈ gw := gw_of (List.mem_of_getElem? (i := 68) (by decide +kernel)) rfl
set_option maxRecDepth 20000 in
theorem yvX11_needTree : ab_yV RX11 yX11_needTree mdX11_needTree 0 := ⟨imX11_needTree, seX11_needTree, iniX11, coX11_needTree, ⟨by decide +kernel, by decide +kernel⟩, by decide +kernel⟩
def mdX11_symbolOf : ab_M := (RX11, "symbolOf", cX11_symbolOf, 2, (some .int), [], dlX11_symbolOf)
set_option maxRecDepth 20000 in
theorem imX11_symbolOf : Cond.instanceMethod yX11_symbolOf ∈ gw := gw_t7 119 rfl rfl
set_option maxRecDepth 20000 in
theorem coX11_symbolOf : Cond.code yX11_symbolOf cX11_symbolOf 2 (some .int) ∈ gw := gw_t7 120 rfl rfl
set_option maxRecDepth 20000 in
theorem seX11_symbolOf : Cond.selects RX11 yX11_symbolOf yX11_symbolOf ∈ gw := gw_of (List.mem_of_getElem? (i := 70) (by decide +kernel)) rfl
set_option maxRecDepth 20000 in
theorem yvX11_symbolOf : ab_yV RX11 yX11_symbolOf mdX11_symbolOf 1 := ⟨imX11_symbolOf, seX11_symbolOf, iniX11, coX11_symbolOf, ⟨by decide +kernel, by decide +kernel⟩, by decide +kernel⟩
def mdX11_countAttributes : ab_M := (RX11, "countAttributes", cX11_countAttributes, 3, (some .int), [], dlX11_countAttributes)
set_option maxRecDepth 20000 in
theorem imX11_countAttributes : Cond.instanceMethod yX11_countAttributes ∈ gw := gw_t7 115 rfl rfl
set_option maxRecDepth 20000 in
theorem coX11_countAttributes : Cond.code yX11_countAttributes cX11_countAttributes 3 (some .int) ∈ gw := gw_t7 116 rfl rfl
set_option maxRecDepth 20000 in
theorem seX11_countAttributes : Cond.selects RX11 yX11_countAttributes yX11_countAttributes ∈ gw := gw_of (List.mem_of_getElem? (i := 69) (by decide +kernel)) rfl
set_option maxRecDepth 20000 in
theorem yvX11_countAttributes : ab_yV RX11 yX11_countAttributes mdX11_countAttributes 0 := ⟨imX11_countAttributes, seX11_countAttributes, iniX11, coX11_countAttributes, ⟨by decide +kernel, by decide +kernel⟩, by decide +kernel⟩
def mdX11_countVisits : ab_M := (RX11, "countVisits", cX11_countVisits, 3, (some .int), [], dlX11_countVisits)
set_option maxRecDepth 20000 in
theorem imX11_countVisits : Cond.instanceMethod yX11_countVisits ∈ gw := gw_t7 123 rfl rfl
set_option maxRecDepth 20000 in
theorem coX11_countVisits : Cond.code yX11_countVisits cX11_countVisits 3 (some .int) ∈ gw := gw_t7 124 rfl rfl
set_option maxRecDepth 20000 in
theorem seX11_countVisits : Cond.selects RX11 yX11_countVisits yX11_countVisits ∈ gw := gw_of (List.mem_of_getElem? (i := 71) (by decide +kernel)) rfl
set_option maxRecDepth 20000 in
theorem yvX11_countVisits : ab_yV RX11 yX11_countVisits mdX11_countVisits 0 := ⟨imX11_countVisits, seX11_countVisits, iniX11, coX11_countVisits, ⟨by decide +kernel, by decide +kernel⟩, by decide +kernel⟩
def mdX11_countErrors : ab_M := (RX11, "countErrors", cX11_countErrors, 4, (some .int), [], dlX11_countErrors)
set_option maxRecDepth 20000 in
theorem imX11_countErrors : Cond.instanceMethod yX11_countErrors ∈ gw := gw_t7 127 rfl rfl
set_option maxRecDepth 20000 in
theorem coX11_countErrors : Cond.code yX11_countErrors cX11_countErrors 4 (some .int) ∈ gw := gw_t7 128 rfl rfl
set_option maxRecDepth 20000 in
theorem seX11_countErrors : Cond.selects RX11 yX11_countErrors yX11_countErrors ∈ gw := gw_of (List.mem_of_getElem? (i := 72) (by decide +kernel)) rfl
set_option maxRecDepth 20000 in
theorem yvX11_countErrors : ab_yV RX11 yX11_countErrors mdX11_countErrors 0 := ⟨imX11_countErrors, seX11_countErrors, iniX11, coX11_countErrors, ⟨by decide +kernel, by decide +kernel⟩, by decide +kernel⟩
def mdX11_countKept : ab_M := (RX11, "countKept", cX11_countKept, 3, (some .int), [], dlX11_countKept)
set_option maxRecDepth 20000 in
theorem imX11_countKept : Cond.instanceMethod yX11_countKept ∈ gw := gw_t7 132 rfl rfl
set_option maxRecDepth 20000 in
theorem coX11_countKept : Cond.code yX11_countKept cX11_countKept 3 (some .int) ∈ gw := gw_t7 133 rfl rfl
set_option maxRecDepth 20000 in
theorem seX11_countKept : Cond.selects RX11 yX11_countKept yX11_countKept ∈ gw := gw_of (List.mem_of_getElem? (i := 73) (by decide +kernel)) rfl
set_option maxRecDepth 20000 in
theorem yvX11_countKept : ab_yV RX11 yX11_countKept mdX11_countKept 0 := ⟨imX11_countKept, seX11_countKept, iniX11, coX11_countKept, ⟨by decide +kernel, by decide +kernel⟩, by decide +kernel⟩
def mdX11_highestFrames : ab_M := (RX11, "highestFrames", cX11_highestFrames, 4, (some .int), [], dlX11_highestFrames)
set_option maxRecDepth 20000 in
theorem imX11_highestFrames : Cond.instanceMethod yX11_highestFrames ∈ gw := gw_t7 137 rfl rfl
set_option maxRecDepth 20000 in
theorem coX11_highestFrames : Cond.code yX11_highestFrames cX11_highestFrames 4 (some .int) ∈ gw := gw_t7 138 rfl rfl
set_option maxRecDepth 20000 in
theorem seX11_highestFrames : Cond.selects RX11 yX11_highestFrames yX11_highestFrames ∈ gw := gw_of (List.mem_of_getElem? (i := 74) (by decide +kernel)) rfl
set_option maxRecDepth 20000 in
theorem yvX11_highestFrames : ab_yV RX11 yX11_highestFrames mdX11_highestFrames 0 := ⟨imX11_highestFrames, seX11_highestFrames, iniX11, coX11_highestFrames, ⟨by decide +kernel, by decide +kernel⟩, by decide +kernel⟩
def mdX11_count : ab_M := (RX11, "count", cX11_count, 2, (some .int), [], dlX11_count)
set_option maxRecDepth 20000 in
theorem imX11_count : Cond.instanceMethod yX11_count ∈ gw := gw_t7 106 rfl rfl
set_option maxRecDepth 20000 in
theorem coX11_count : Cond.code yX11_count cX11_count 2 (some .int) ∈ gw := gw_t7 108 rfl rfl
set_option maxRecDepth 20000 in
theorem seX11_count : Cond.selects RX11 yX11_count yX11_count ∈ gw := gw_t7 107 rfl rfl
set_option maxRecDepth 20000 in
theorem yvX11_count : ab_yV RX11 yX11_count mdX11_count 1 := ⟨imX11_count, seX11_count, iniX11, coX11_count, ⟨by decide +kernel, by decide +kernel⟩, by decide +kernel⟩
def mdX11_needIndex : ab_M := (RX11, "needIndex", cX11_needIndex, 2, none, [], dlX11_needIndex)
set_option maxRecDepth 20000 in
theorem smX11_needIndex : Cond.static yX11_needIndex ∈ gw := gw_t7 158 rfl rfl
set_option maxRecDepth 20000 in
theorem coX11_needIndex : Cond.code yX11_needIndex cX11_needIndex 2 none ∈ gw := gw_t7 159 rfl rfl
set_option maxRecDepth 20000 in
theorem yvX11_needIndex : ab_yS yX11_needIndex mdX11_needIndex 2 := ⟨smX11_needIndex, iniX11, coX11_needIndex, ⟨by decide +kernel, by decide +kernel⟩, by decide +kernel⟩
def mdX11_needNode : ab_M := (RX11, "needNode", cX11_needNode, 2, none, [], dlX11_needNode)
set_option maxRecDepth 20000 in
theorem imX11_needNode : Cond.instanceMethod yX11_needNode ∈ gw := gw_t7 155 rfl rfl
set_option maxRecDepth 20000 in
theorem coX11_needNode : Cond.code yX11_needNode cX11_needNode 2 none ∈ gw := gw_t7 156 rfl rfl
set_option maxRecDepth 20000 in
theorem seX11_needNode : Cond.selects RX11 yX11_needNode yX11_needNode ∈ gw := gw_of (List.mem_of_getElem? (i := 75) (by decide +kernel)) rfl
set_option maxRecDepth 20000 in
theorem yvX11_needNode : ab_yV RX11 yX11_needNode mdX11_needNode 1 := ⟨imX11_needNode, seX11_needNode, iniX11, coX11_needNode, ⟨by decide +kernel, by decide +kernel⟩, by decide +kernel⟩
def mdX11_node : ab_M := (RX11, "node", cX11_node, 3, (some .int), [], dlX11_node)
set_option maxRecDepth 20000 in
theorem imX11_node : Cond.instanceMethod yX11_node ∈ gw := gw_t7 150 rfl rfl
set_option maxRecDepth 20000 in
theorem coX11_node : Cond.code yX11_node cX11_node 3 (some .int) ∈ gw := gw_t7 152 rfl rfl
set_option maxRecDepth 20000 in
theorem seX11_node : Cond.selects RX11 yX11_node yX11_node ∈ gw := gw_t7 151 rfl rfl
set_option maxRecDepth 20000 in
theorem yvX11_node : ab_yV RX11 yX11_node mdX11_node 2 := ⟨imX11_node, seX11_node, iniX11, coX11_node, ⟨by decide +kernel, by decide +kernel⟩, by decide +kernel⟩
def mdX11_needNodeAttribute : ab_M := (RX11, "needNodeAttribute", cX11_needNodeAttribute, 3, none, [], dlX11_needNodeAttribute)
set_option maxRecDepth 20000 in
theorem imX11_needNodeAttribute : Cond.instanceMethod yX11_needNodeAttribute ∈ gw := gw_t7 185 rfl rfl
set_option maxRecDepth 20000 in
theorem coX11_needNodeAttribute : Cond.code yX11_needNodeAttribute cX11_needNodeAttribute 3 none ∈ gw := gw_t7 186 rfl rfl
set_option maxRecDepth 20000 in
theorem seX11_needNodeAttribute : Cond.selects RX11 yX11_needNodeAttribute yX11_needNodeAttribute ∈ gw := gw_of (List.mem_of_getElem? (i := 76) (by decide +kernel)) rfl
set_option maxRecDepth 20000 in
theorem yvX11_needNodeAttribute : ab_yV RX11 yX11_needNodeAttribute mdX11_needNodeAttribute 2 := ⟨imX11_needNodeAttribute, seX11_needNodeAttribute, iniX11, coX11_needNodeAttribute, ⟨by decide +kernel, by decide +kernel⟩, by decide +kernel⟩
def mdX11_number : ab_M := (RX11, "number", cX11_number, 2, (some .int), [], dlX11_number)
set_option maxRecDepth 20000 in
theorem smX11_number : Cond.static yX11_number ∈ gw := gw_t7 188 rfl rfl
set_option maxRecDepth 20000 in
theorem coX11_number : Cond.code yX11_number cX11_number 2 (some .int) ∈ gw := gw_t7 189 rfl rfl
set_option maxRecDepth 20000 in
theorem yvX11_number : ab_yS yX11_number mdX11_number 1 := ⟨smX11_number, iniX11, coX11_number, ⟨by decide +kernel, by decide +kernel⟩, by decide +kernel⟩
def mdX11_value : ab_M := (RX11, "value", cX11_value, 3, (some .int), [], dlX11_value)
set_option maxRecDepth 20000 in
theorem imX11_value : Cond.instanceMethod yX11_value ∈ gw := gw_t7 180 rfl rfl
set_option maxRecDepth 20000 in
theorem coX11_value : Cond.code yX11_value cX11_value 3 (some .int) ∈ gw := gw_t7 182 rfl rfl
set_option maxRecDepth 20000 in
theorem seX11_value : Cond.selects RX11 yX11_value yX11_value ∈ gw := gw_t7 181 rfl rfl
set_option maxRecDepth 20000 in
theorem yvX11_value : ab_yV RX11 yX11_value mdX11_value 2 := ⟨imX11_value, seX11_value, iniX11, coX11_value, ⟨by decide +kernel, by decide +kernel⟩, by decide +kernel⟩
def mdX11_countChanged : ab_M := (RX11, "countChanged", cX11_countChanged, 5, (some .int), [], dlX11_countChanged)
set_option maxRecDepth 20000 in
theorem imX11_countChanged : Cond.instanceMethod yX11_countChanged ∈ gw := gw_t7 215 rfl rfl
set_option maxRecDepth 20000 in
theorem coX11_countChanged : Cond.code yX11_countChanged cX11_countChanged 5 (some .int) ∈ gw := gw_t7 216 rfl rfl
set_option maxRecDepth 20000 in
theorem seX11_countChanged : Cond.selects RX11 yX11_countChanged yX11_countChanged ∈ gw := gw_of (List.mem_of_getElem? (i := 77) (by decide +kernel)) rfl
set_option maxRecDepth 20000 in
theorem yvX11_countChanged : ab_yV RX11 yX11_countChanged mdX11_countChanged 0 := ⟨imX11_countChanged, seX11_countChanged, iniX11, coX11_countChanged, ⟨by decide +kernel, by decide +kernel⟩, by decide +kernel⟩
def mdX11_change : ab_M := (RX11, "change", cX11_change, 3, (some .int), [], dlX11_change)
set_option maxRecDepth 20000 in
theorem imX11_change : Cond.instanceMethod yX11_change ∈ gw := gw_t7 209 rfl rfl
set_option maxRecDepth 20000 in
theorem coX11_change : Cond.code yX11_change cX11_change 3 (some .int) ∈ gw := gw_t7 211 rfl rfl
set_option maxRecDepth 20000 in
theorem seX11_change : Cond.selects RX11 yX11_change yX11_change ∈ gw := gw_t7 210 rfl rfl
set_option maxRecDepth 20000 in
theorem yvX11_change : ab_yV RX11 yX11_change mdX11_change 2 := ⟨imX11_change, seX11_change, iniX11, coX11_change, ⟨by decide +kernel, by decide +kernel⟩, by decide +kernel⟩
def mdX11_visit : ab_M := (RX11, "visit", cX11_visit, 3, (some .int), [], dlX11_visit)
set_option maxRecDepth 20000 in
theorem imX11_visit : Cond.instanceMethod yX11_visit ∈ gw := gw_t7 221 rfl rfl
set_option maxRecDepth 20000 in
theorem coX11_visit : Cond.code yX11_visit cX11_visit 3 (some .int) ∈ gw := gw_t7 223 rfl rfl
set_option maxRecDepth 20000 in
theorem seX11_visit : Cond.selects RX11 yX11_visit yX11_visit ∈ gw := gw_t7 222 rfl rfl
set_option maxRecDepth 20000 in
theorem yvX11_visit : ab_yV RX11 yX11_visit mdX11_visit 2 := ⟨imX11_visit, seX11_visit, iniX11, coX11_visit, ⟨by decide +kernel, by decide +kernel⟩, by decide +kernel⟩
def mdX11_code : ab_M := (RX11, "code", cX11_code, 3, (some .int), [], dlX11_code)
set_option maxRecDepth 20000 in
theorem imX11_code : Cond.instanceMethod yX11_code ∈ gw := gw_t7 230 rfl rfl
set_option maxRecDepth 20000 in
theorem coX11_code : Cond.code yX11_code cX11_code 3 (some .int) ∈ gw := gw_t7 232 rfl rfl
set_option maxRecDepth 20000 in
theorem seX11_code : Cond.selects RX11 yX11_code yX11_code ∈ gw := gw_t7 231 rfl rfl
set_option maxRecDepth 20000 in
theorem yvX11_code : ab_yV RX11 yX11_code mdX11_code 2 := ⟨imX11_code, seX11_code, iniX11, coX11_code, ⟨by decide +kernel, by decide +kernel⟩, by decide +kernel⟩
def mdX11_start : ab_M := (RX11, "start", cX11_start, 3, (some .int), [], dlX11_start)
set_option maxRecDepth 20000 in
theorem imX11_start : Cond.instanceMethod yX11_start ∈ gw := gw_t7 237 rfl rfl
set_option maxRecDepth 20000 in
theorem coX11_start : Cond.code yX11_start cX11_start 3 (some .int) ∈ gw := gw_t7 239 rfl rfl
set_option maxRecDepth 20000 in
theorem seX11_start : Cond.selects RX11 yX11_start yX11_start ∈ gw := gw_t7 238 rfl rfl
set_option maxRecDepth 20000 in
theorem yvX11_start : ab_yV RX11 yX11_start mdX11_start 2 := ⟨imX11_start, seX11_start, iniX11, coX11_start, ⟨by decide +kernel, by decide +kernel⟩, by decide +kernel⟩
def mdX11_begin : ab_M := (RX11, "begin", cX11_begin, 1, (some .int), [], dlX11_begin)
set_option maxRecDepth 20000 in
theorem imX11_begin : Cond.instanceMethod yX11_begin ∈ gw := gw_t8 5 rfl rfl
set_option maxRecDepth 20000 in
theorem coX11_begin : Cond.code yX11_begin cX11_begin 1 (some .int) ∈ gw := gw_t8 7 rfl rfl
set_option maxRecDepth 20000 in
theorem seX11_begin : Cond.selects RX11 yX11_begin yX11_begin ∈ gw := gw_t8 6 rfl rfl
set_option maxRecDepth 20000 in
theorem yvX11_begin : ab_yV RX11 yX11_begin mdX11_begin 0 := ⟨imX11_begin, seX11_begin, iniX11, coX11_begin, ⟨by decide +kernel, by decide +kernel⟩, by decide +kernel⟩
def mdX11_needMachine : ab_M := (RX11, "needMachine", cX11_needMachine, 1, none, [], dlX11_needMachine)
set_option maxRecDepth 20000 in
theorem imX11_needMachine : Cond.instanceMethod yX11_needMachine ∈ gw := gw_t8 17 rfl rfl
set_option maxRecDepth 20000 in
theorem coX11_needMachine : Cond.code yX11_needMachine cX11_needMachine 1 none ∈ gw := gw_t8 18 rfl rfl
set_option maxRecDepth 20000 in
theorem seX11_needMachine : Cond.selects RX11 yX11_needMachine yX11_needMachine ∈ gw := gw_of (List.mem_of_getElem? (i := 78) (by decide +kernel)) rfl
set_option maxRecDepth 20000 in
theorem yvX11_needMachine : ab_yV RX11 yX11_needMachine mdX11_needMachine 0 := ⟨imX11_needMachine, seX11_needMachine, iniX11, coX11_needMachine, ⟨by decide +kernel, by decide +kernel⟩, by decide +kernel⟩
def mdX11_step : ab_M := (RX11, "step", cX11_step, 2, (some .int), [], dlX11_step)
set_option maxRecDepth 20000 in
theorem imX11_step : Cond.instanceMethod yX11_step ∈ gw := gw_t8 12 rfl rfl
set_option maxRecDepth 20000 in
theorem coX11_step : Cond.code yX11_step cX11_step 2 (some .int) ∈ gw := gw_t8 14 rfl rfl
set_option maxRecDepth 20000 in
theorem seX11_step : Cond.selects RX11 yX11_step yX11_step ∈ gw := gw_t8 13 rfl rfl
set_option maxRecDepth 20000 in
theorem yvX11_step : ab_yV RX11 yX11_step mdX11_step 1 := ⟨imX11_step, seX11_step, iniX11, coX11_step, ⟨by decide +kernel, by decide +kernel⟩, by decide +kernel⟩
def mdX11_machine : ab_M := (RX11, "machine", cX11_machine, 2, (some .int), [], dlX11_machine)
set_option maxRecDepth 20000 in
theorem imX11_machine : Cond.instanceMethod yX11_machine ∈ gw := gw_t8 24 rfl rfl
set_option maxRecDepth 20000 in
theorem coX11_machine : Cond.code yX11_machine cX11_machine 2 (some .int) ∈ gw := gw_t8 26 rfl rfl
set_option maxRecDepth 20000 in
theorem seX11_machine : Cond.selects RX11 yX11_machine yX11_machine ∈ gw := gw_t8 25 rfl rfl
set_option maxRecDepth 20000 in
theorem yvX11_machine : ab_yV RX11 yX11_machine mdX11_machine 1 := ⟨imX11_machine, seX11_machine, iniX11, coX11_machine, ⟨by decide +kernel, by decide +kernel⟩, by decide +kernel⟩
def mdX11_alone : ab_M := (RX11, "alone", cX11_alone, 2, (some .int), [], dlX11_alone)
set_option maxRecDepth 20000 in
theorem imX11_alone : Cond.instanceMethod yX11_alone ∈ gw := gw_t8 35 rfl rfl
set_option maxRecDepth 20000 in
theorem coX11_alone : Cond.code yX11_alone cX11_alone 2 (some .int) ∈ gw := gw_t8 37 rfl rfl
set_option maxRecDepth 20000 in
theorem seX11_alone : Cond.selects RX11 yX11_alone yX11_alone ∈ gw := gw_t8 36 rfl rfl
set_option maxRecDepth 20000 in
theorem yvX11_alone : ab_yV RX11 yX11_alone mdX11_alone 1 := ⟨imX11_alone, seX11_alone, iniX11, coX11_alone, ⟨by decide +kernel, by decide +kernel⟩, by decide +kernel⟩
def mdX11_top : ab_M := (RX11, "top", cX11_top, 2, (some .int), [], dlX11_top)
set_option maxRecDepth 20000 in
theorem imX11_top : Cond.instanceMethod yX11_top ∈ gw := gw_t8 42 rfl rfl
set_option maxRecDepth 20000 in
theorem coX11_top : Cond.code yX11_top cX11_top 2 (some .int) ∈ gw := gw_t8 44 rfl rfl
set_option maxRecDepth 20000 in
theorem seX11_top : Cond.selects RX11 yX11_top yX11_top ∈ gw := gw_t8 43 rfl rfl
set_option maxRecDepth 20000 in
theorem yvX11_top : ab_yV RX11 yX11_top mdX11_top 1 := ⟨imX11_top, seX11_top, iniX11, coX11_top, ⟨by decide +kernel, by decide +kernel⟩, by decide +kernel⟩
def mdX11_held : ab_M := (RX11, "held", cX11_held, 3, (some .int), [], dlX11_held)
set_option maxRecDepth 20000 in
theorem imX11_held : Cond.instanceMethod yX11_held ∈ gw := gw_t8 49 rfl rfl
set_option maxRecDepth 20000 in
theorem coX11_held : Cond.code yX11_held cX11_held 3 (some .int) ∈ gw := gw_t8 51 rfl rfl
set_option maxRecDepth 20000 in
theorem seX11_held : Cond.selects RX11 yX11_held yX11_held ∈ gw := gw_t8 50 rfl rfl
set_option maxRecDepth 20000 in
theorem yvX11_held : ab_yV RX11 yX11_held mdX11_held 2 := ⟨imX11_held, seX11_held, iniX11, coX11_held, ⟨by decide +kernel, by decide +kernel⟩, by decide +kernel⟩
def mdX12_init : ab_M := (RX12, "<init>", cX12_init, 1, none, [], dlX12_init)
set_option maxRecDepth 20000 in
theorem imX12_init : Cond.instanceMethod yX12_init ∈ gw := gw_t8 55 rfl rfl
set_option maxRecDepth 20000 in
theorem coX12_init : Cond.code yX12_init cX12_init 1 none ∈ gw := gw_t8 56 rfl rfl
def mdX12_thrown : ab_M := (RX12, "thrown", cX12_thrown, 1, (some .int), [], dlX12_thrown)
set_option maxRecDepth 20000 in
theorem imX12_thrown : Cond.instanceMethod yX12_thrown ∈ gw := gw_t9 117 rfl rfl
set_option maxRecDepth 20000 in
theorem coX12_thrown : Cond.code yX12_thrown cX12_thrown 1 (some .int) ∈ gw := gw_t9 119 rfl rfl
set_option maxRecDepth 20000 in
theorem seX12_thrown : Cond.selects RX12 yX12_thrown yX12_thrown ∈ gw := gw_t9 118 rfl rfl
set_option maxRecDepth 20000 in
theorem yvX12_thrown : ab_yV RX12 yX12_thrown mdX12_thrown 0 := ⟨imX12_thrown, seX12_thrown, iniX12, coX12_thrown, ⟨by decide +kernel, by decide +kernel⟩, by decide +kernel⟩
def mdX12_refuse : ab_M := (RX12, "refuse", cX12_refuse, 4, (some .boolean), [], dlX12_refuse)
set_option maxRecDepth 20000 in
theorem imX12_refuse : Cond.instanceMethod yX12_refuse ∈ gw := gw_t9 129 rfl rfl
set_option maxRecDepth 20000 in
theorem coX12_refuse : Cond.code yX12_refuse cX12_refuse 4 (some .boolean) ∈ gw := gw_t9 130 rfl rfl
set_option maxRecDepth 20000 in
theorem seX12_refuse : Cond.selects RX12 yX12_refuse yX12_refuse ∈ gw := gw_of (List.mem_of_getElem? (i := 79) (by decide +kernel)) rfl
set_option maxRecDepth 20000 in
theorem yvX12_refuse : ab_yV RX12 yX12_refuse mdX12_refuse 3 := ⟨imX12_refuse, seX12_refuse, iniX12, coX12_refuse, ⟨by decide +kernel, by decide +kernel⟩, by decide +kernel⟩
def mdX12_in : ab_M := (RX12, "in", cX12_in, 3, (some .boolean), [], dlX12_in)
set_option maxRecDepth 20000 in
theorem smX12_in : Cond.static yX12_in ∈ gw := gw_t9 125 rfl rfl
set_option maxRecDepth 20000 in
theorem coX12_in : Cond.code yX12_in cX12_in 3 (some .boolean) ∈ gw := gw_t9 126 rfl rfl
set_option maxRecDepth 20000 in
theorem yvX12_in : ab_yS yX12_in mdX12_in 3 := ⟨smX12_in, iniX12, coX12_in, ⟨by decide +kernel, by decide +kernel⟩, by decide +kernel⟩
def mdX12_put : ab_M := (RX12, "put", cX12_put, 6, (some .int), [], dlX12_put)
set_option maxRecDepth 20000 in
theorem imX12_put : Cond.instanceMethod yX12_put ∈ gw := gw_t9 121 rfl rfl
set_option maxRecDepth 20000 in
theorem coX12_put : Cond.code yX12_put cX12_put 6 (some .int) ∈ gw := gw_t9 123 rfl rfl
set_option maxRecDepth 20000 in
theorem seX12_put : Cond.selects RX12 yX12_put yX12_put ∈ gw := gw_t9 122 rfl rfl
set_option maxRecDepth 20000 in
theorem yvX12_put : ab_yV RX12 yX12_put mdX12_put 1 := ⟨imX12_put, seX12_put, iniX12, coX12_put, ⟨by decide +kernel, by decide +kernel⟩, by decide +kernel⟩
def mdX12_end : ab_M := (RX12, "end", cX12_end, 2, none, [], dlX12_end)
set_option maxRecDepth 20000 in
theorem imX12_end : Cond.instanceMethod yX12_end ∈ gw := gw_t9 132 rfl rfl
set_option maxRecDepth 20000 in
theorem coX12_end : Cond.code yX12_end cX12_end 2 none ∈ gw := gw_t9 134 rfl rfl
set_option maxRecDepth 20000 in
theorem seX12_end : Cond.selects RX12 yX12_end yX12_end ∈ gw := gw_t9 133 rfl rfl
set_option maxRecDepth 20000 in
theorem yvX12_end : ab_yV RX12 yX12_end mdX12_end 1 := ⟨imX12_end, seX12_end, iniX12, coX12_end, ⟨by decide +kernel, by decide +kernel⟩, by decide +kernel⟩
def mdX12_signAt : ab_M := (RX12, "signAt", cX12_signAt, 2, (some .int), [], dlX12_signAt)
set_option maxRecDepth 20000 in
theorem imX12_signAt : Cond.instanceMethod yX12_signAt ∈ gw := gw_t9 165 rfl rfl
set_option maxRecDepth 20000 in
theorem coX12_signAt : Cond.code yX12_signAt cX12_signAt 2 (some .int) ∈ gw := gw_t9 166 rfl rfl
set_option maxRecDepth 20000 in
theorem seX12_signAt : Cond.selects RX12 yX12_signAt yX12_signAt ∈ gw := gw_of (List.mem_of_getElem? (i := 84) (by decide +kernel)) rfl
set_option maxRecDepth 20000 in
theorem yvX12_signAt : ab_yV RX12 yX12_signAt mdX12_signAt 1 := ⟨imX12_signAt, seX12_signAt, iniX12, coX12_signAt, ⟨by decide +kernel, by decide +kernel⟩, by decide +kernel⟩
def mdX12_isSmall : ab_M := (RX12, "isSmall", cX12_isSmall, 1, (some .boolean), [], dlX12_isSmall)
set_option maxRecDepth 20000 in
theorem smX12_isSmall : Cond.static yX12_isSmall ∈ gw := gw_t9 168 rfl rfl
set_option maxRecDepth 20000 in
theorem coX12_isSmall : Cond.code yX12_isSmall cX12_isSmall 1 (some .boolean) ∈ gw := gw_t9 169 rfl rfl
set_option maxRecDepth 20000 in
theorem yvX12_isSmall : ab_yS yX12_isSmall mdX12_isSmall 1 := ⟨smX12_isSmall, iniX12, coX12_isSmall, ⟨by decide +kernel, by decide +kernel⟩, by decide +kernel⟩
def mdX12_isDigit : ab_M := (RX12, "isDigit", cX12_isDigit, 1, (some .boolean), [], dlX12_isDigit)
set_option maxRecDepth 20000 in
theorem smX12_isDigit : Cond.static yX12_isDigit ∈ gw := gw_t9 171 rfl rfl
set_option maxRecDepth 20000 in
theorem coX12_isDigit : Cond.code yX12_isDigit cX12_isDigit 1 (some .boolean) ∈ gw := gw_t9 172 rfl rfl
set_option maxRecDepth 20000 in
theorem yvX12_isDigit : ab_yS yX12_isDigit mdX12_isDigit 1 := ⟨smX12_isDigit, iniX12, coX12_isDigit, ⟨by decide +kernel, by decide +kernel⟩, by decide +kernel⟩
def mdX12_wordHere : ab_M := (RX12, "wordHere", cX12_wordHere, 6, (some .int), [], dlX12_wordHere)
set_option maxRecDepth 20000 in
theorem imX12_wordHere : Cond.instanceMethod yX12_wordHere ∈ gw := gw_t9 175 rfl rfl
set_option maxRecDepth 20000 in
theorem coX12_wordHere : Cond.code yX12_wordHere cX12_wordHere 6 (some .int) ∈ gw := gw_t9 176 rfl rfl
set_option maxRecDepth 20000 in
theorem seX12_wordHere : Cond.selects RX12 yX12_wordHere yX12_wordHere ∈ gw := gw_of (List.mem_of_getElem? (i := 85) (by decide +kernel)) rfl
set_option maxRecDepth 20000 in
theorem yvX12_wordHere : ab_yV RX12 yX12_wordHere mdX12_wordHere 0 := ⟨imX12_wordHere, seX12_wordHere, iniX12, coX12_wordHere, ⟨by decide +kernel, by decide +kernel⟩, by decide +kernel⟩
def mdX12_sign : ab_M := (RX12, "sign", cX12_sign, 1, (some .int), [], dlX12_sign)
set_option maxRecDepth 20000 in
theorem smX12_sign : Cond.static yX12_sign ∈ gw := gw_t9 179 rfl rfl
set_option maxRecDepth 20000 in
theorem coX12_sign : Cond.code yX12_sign cX12_sign 1 (some .int) ∈ gw := gw_t9 180 rfl rfl
set_option maxRecDepth 20000 in
theorem yvX12_sign : ab_yS yX12_sign mdX12_sign 1 := ⟨smX12_sign, iniX12, coX12_sign, ⟨by decide +kernel, by decide +kernel⟩, by decide +kernel⟩
def mdX12_advance : ab_M := (RX12, "advance", cX12_advance, 4, none, [], dlX12_advance)
set_option maxRecDepth 20000 in
theorem imX12_advance : Cond.instanceMethod yX12_advance ∈ gw := gw_t9 161 rfl rfl
set_option maxRecDepth 20000 in
theorem coX12_advance : Cond.code yX12_advance cX12_advance 4 none ∈ gw := gw_t9 162 rfl rfl
set_option maxRecDepth 20000 in
theorem seX12_advance : Cond.selects RX12 yX12_advance yX12_advance ∈ gw := gw_of (List.mem_of_getElem? (i := 83) (by decide +kernel)) rfl
set_option maxRecDepth 20000 in
theorem yvX12_advance : ab_yV RX12 yX12_advance mdX12_advance 0 := ⟨imX12_advance, seX12_advance, iniX12, coX12_advance, ⟨by decide +kernel, by decide +kernel⟩, by decide +kernel⟩
def mdX12_good : ab_M := (RX12, "good", cX12_good, 1, (some .boolean), [], dlX12_good)
set_option maxRecDepth 20000 in
theorem imX12_good : Cond.instanceMethod yX12_good ∈ gw := gw_t9 187 rfl rfl
set_option maxRecDepth 20000 in
theorem coX12_good : Cond.code yX12_good cX12_good 1 (some .boolean) ∈ gw := gw_t9 188 rfl rfl
set_option maxRecDepth 20000 in
theorem seX12_good : Cond.selects RX12 yX12_good yX12_good ∈ gw := gw_of (List.mem_of_getElem? (i := 87) (by decide +kernel)) rfl
set_option maxRecDepth 20000 in
theorem yvX12_good : ab_yV RX12 yX12_good mdX12_good 0 := ⟨imX12_good, seX12_good, iniX12, coX12_good, ⟨by decide +kernel, by decide +kernel⟩, by decide +kernel⟩
def mdX12_fail : ab_M := (RX12, "fail", cX12_fail, 2, none, [], dlX12_fail)
set_option maxRecDepth 20000 in
theorem imX12_fail : Cond.instanceMethod yX12_fail ∈ gw := gw_t9 183 rfl rfl
set_option maxRecDepth 20000 in
theorem coX12_fail : Cond.code yX12_fail cX12_fail 2 none ∈ gw := gw_t9 184 rfl rfl
set_option maxRecDepth 20000 in
theorem seX12_fail : Cond.selects RX12 yX12_fail yX12_fail ∈ gw := gw_of (List.mem_of_getElem? (i := 86) (by decide +kernel)) rfl
set_option maxRecDepth 20000 in
theorem yvX12_fail : ab_yV RX12 yX12_fail mdX12_fail 1 := ⟨imX12_fail, seX12_fail, iniX12, coX12_fail, ⟨by decide +kernel, by decide +kernel⟩, by decide +kernel⟩
def mdX12_need : ab_M := (RX12, "need", cX12_need, 2, none, [], dlX12_need)
set_option maxRecDepth 20000 in
theorem imX12_need : Cond.instanceMethod yX12_need ∈ gw := gw_t9 207 rfl rfl
set_option maxRecDepth 20000 in
theorem coX12_need : Cond.code yX12_need cX12_need 2 none ∈ gw := gw_t9 208 rfl rfl
set_option maxRecDepth 20000 in
theorem seX12_need : Cond.selects RX12 yX12_need yX12_need ∈ gw := gw_of (List.mem_of_getElem? (i := 92) (by decide +kernel)) rfl
set_option maxRecDepth 20000 in
theorem yvX12_need : ab_yV RX12 yX12_need mdX12_need 1 := ⟨imX12_need, seX12_need, iniX12, coX12_need, ⟨by decide +kernel, by decide +kernel⟩, by decide +kernel⟩
def mdX12_numberHere : ab_M := (RX12, "numberHere", cX12_numberHere, 3, (some .int), [], dlX12_numberHere)
set_option maxRecDepth 20000 in
theorem imX12_numberHere : Cond.instanceMethod yX12_numberHere ∈ gw := gw_t9 223 rfl rfl
set_option maxRecDepth 20000 in
theorem coX12_numberHere : Cond.code yX12_numberHere cX12_numberHere 3 (some .int) ∈ gw := gw_t9 224 rfl rfl
set_option maxRecDepth 20000 in
theorem seX12_numberHere : Cond.selects RX12 yX12_numberHere yX12_numberHere ∈ gw := gw_of (List.mem_of_getElem? (i := 96) (by decide +kernel)) rfl
set_option maxRecDepth 20000 in
theorem yvX12_numberHere : ab_yV RX12 yX12_numberHere mdX12_numberHere 0 := ⟨imX12_numberHere, seX12_numberHere, iniX12, coX12_numberHere, ⟨by decide +kernel, by decide +kernel⟩, by decide +kernel⟩
def mdX12_find : ab_M := (RX12, "find", cX12_find, 8, (some .int), [], dlX12_find)
set_option maxRecDepth 20000 in
theorem imX12_find : Cond.instanceMethod yX12_find ∈ gw := gw_t9 199 rfl rfl
set_option maxRecDepth 20000 in
theorem coX12_find : Cond.code yX12_find cX12_find 8 (some .int) ∈ gw := gw_t9 200 rfl rfl
set_option maxRecDepth 20000 in
theorem seX12_find : Cond.selects RX12 yX12_find yX12_find ∈ gw := gw_of (List.mem_of_getElem? (i := 90) (by decide +kernel)) rfl
set_option maxRecDepth 20000 in
theorem yvX12_find : ab_yV RX12 yX12_find mdX12_find 3 := ⟨imX12_find, seX12_find, iniX12, coX12_find, ⟨by decide +kernel, by decide +kernel⟩, by decide +kernel⟩
def mdX12_declare : ab_M := (RX12, "declare", cX12_declare, 5, none, [], dlX12_declare)
set_option maxRecDepth 20000 in
theorem imX12_declare : Cond.instanceMethod yX12_declare ∈ gw := gw_t9 195 rfl rfl
set_option maxRecDepth 20000 in
theorem coX12_declare : Cond.code yX12_declare cX12_declare 5 none ∈ gw := gw_t9 196 rfl rfl
set_option maxRecDepth 20000 in
theorem seX12_declare : Cond.selects RX12 yX12_declare yX12_declare ∈ gw := gw_of (List.mem_of_getElem? (i := 89) (by decide +kernel)) rfl
set_option maxRecDepth 20000 in
theorem yvX12_declare : ab_yV RX12 yX12_declare mdX12_declare 3 := ⟨imX12_declare, seX12_declare, iniX12, coX12_declare, ⟨by decide +kernel, by decide +kernel⟩, by decide +kernel⟩
def mdX12_attributeRow : ab_M := (RX12, "attributeRow", cX12_attributeRow, 4, none, [], dlX12_attributeRow)
set_option maxRecDepth 20000 in
theorem imX12_attributeRow : Cond.instanceMethod yX12_attributeRow ∈ gw := gw_t9 203 rfl rfl
set_option maxRecDepth 20000 in
theorem coX12_attributeRow : Cond.code yX12_attributeRow cX12_attributeRow 4 none ∈ gw := gw_t9 204 rfl rfl
set_option maxRecDepth 20000 in
theorem seX12_attributeRow : Cond.selects RX12 yX12_attributeRow yX12_attributeRow ∈ gw := gw_of (List.mem_of_getElem? (i := 91) (by decide +kernel)) rfl
set_option maxRecDepth 20000 in
theorem yvX12_attributeRow : ab_yV RX12 yX12_attributeRow mdX12_attributeRow 2 := ⟨imX12_attributeRow, seX12_attributeRow, iniX12, coX12_attributeRow, ⟨by decide +kernel, by decide +kernel⟩, by decide +kernel⟩
def mdX12_symbolStatement : ab_M := (RX12, "symbolStatement", cX12_symbolStatement, 2, none, [], dlX12_symbolStatement)
set_option maxRecDepth 20000 in
theorem imX12_symbolStatement : Cond.instanceMethod yX12_symbolStatement ∈ gw := gw_t9 191 rfl rfl
set_option maxRecDepth 20000 in
theorem coX12_symbolStatement : Cond.code yX12_symbolStatement cX12_symbolStatement 2 none ∈ gw := gw_t9 192 rfl rfl
set_option maxRecDepth 20000 in
theorem seX12_symbolStatement : Cond.selects RX12 yX12_symbolStatement yX12_symbolStatement ∈ gw := gw_of (List.mem_of_getElem? (i := 88) (by decide +kernel)) rfl
set_option maxRecDepth 20000 in
theorem yvX12_symbolStatement : ab_yV RX12 yX12_symbolStatement mdX12_symbolStatement 0 := ⟨imX12_symbolStatement, seX12_symbolStatement, iniX12, coX12_symbolStatement, ⟨by decide +kernel, by decide +kernel⟩, by decide +kernel⟩
def mdX12_symbolHere : ab_M := (RX12, "symbolHere", cX12_symbolHere, 2, (some .int), [], dlX12_symbolHere)
set_option maxRecDepth 20000 in
theorem imX12_symbolHere : Cond.instanceMethod yX12_symbolHere ∈ gw := gw_t9 215 rfl rfl
set_option maxRecDepth 20000 in
theorem coX12_symbolHere : Cond.code yX12_symbolHere cX12_symbolHere 2 (some .int) ∈ gw := gw_t9 216 rfl rfl
set_option maxRecDepth 20000 in
theorem seX12_symbolHere : Cond.selects RX12 yX12_symbolHere yX12_symbolHere ∈ gw := gw_of (List.mem_of_getElem? (i := 94) (by decide +kernel)) rfl
set_option maxRecDepth 20000 in
theorem yvX12_symbolHere : ab_yV RX12 yX12_symbolHere mdX12_symbolHere 0 := ⟨imX12_symbolHere, seX12_symbolHere, iniX12, coX12_symbolHere, ⟨by decide +kernel, by decide +kernel⟩, by decide +kernel⟩
def mdX12_isDefined : ab_M := (RX12, "isDefined", cX12_isDefined, 5, (some .boolean), [], dlX12_isDefined)
set_option maxRecDepth 20000 in
theorem imX12_isDefined : Cond.instanceMethod yX12_isDefined ∈ gw := gw_t9 231 rfl rfl
set_option maxRecDepth 20000 in
theorem coX12_isDefined : Cond.code yX12_isDefined cX12_isDefined 5 (some .boolean) ∈ gw := gw_t9 232 rfl rfl
set_option maxRecDepth 20000 in
theorem seX12_isDefined : Cond.selects RX12 yX12_isDefined yX12_isDefined ∈ gw := gw_of (List.mem_of_getElem? (i := 98) (by decide +kernel)) rfl
set_option maxRecDepth 20000 in
theorem yvX12_isDefined : ab_yV RX12 yX12_isDefined mdX12_isDefined 3 := ⟨imX12_isDefined, seX12_isDefined, iniX12, coX12_isDefined, ⟨by decide +kernel, by decide +kernel⟩, by decide +kernel⟩
def mdX12_attributeHere : ab_M := (RX12, "attributeHere", cX12_attributeHere, 8, (some .int), [], dlX12_attributeHere)
set_option maxRecDepth 20000 in
theorem imX12_attributeHere : Cond.instanceMethod yX12_attributeHere ∈ gw := gw_t9 227 rfl rfl
set_option maxRecDepth 20000 in
theorem coX12_attributeHere : Cond.code yX12_attributeHere cX12_attributeHere 8 (some .int) ∈ gw := gw_t9 228 rfl rfl
set_option maxRecDepth 20000 in
theorem seX12_attributeHere : Cond.selects RX12 yX12_attributeHere yX12_attributeHere ∈ gw := gw_of (List.mem_of_getElem? (i := 97) (by decide +kernel)) rfl
set_option maxRecDepth 20000 in
theorem yvX12_attributeHere : ab_yV RX12 yX12_attributeHere mdX12_attributeHere 4 := ⟨imX12_attributeHere, seX12_attributeHere, iniX12, coX12_attributeHere, ⟨by decide +kernel, by decide +kernel⟩, by decide +kernel⟩
def mdX12_frame : ab_M := (RX12, "frame", cX12_frame, 2, none, [], dlX12_frame)
set_option maxRecDepth 20000 in
theorem imX12_frame : Cond.instanceMethod yX12_frame ∈ gw := gw_t9 239 rfl rfl
set_option maxRecDepth 20000 in
theorem coX12_frame : Cond.code yX12_frame cX12_frame 2 none ∈ gw := gw_t10 0 rfl rfl
set_option maxRecDepth 20000 in
theorem seX12_frame : Cond.selects RX12 yX12_frame yX12_frame ∈ gw := gw_of (List.mem_of_getElem? (i := 100) (by decide +kernel)) rfl
set_option maxRecDepth 20000 in
theorem yvX12_frame : ab_yV RX12 yX12_frame mdX12_frame 1 := ⟨imX12_frame, seX12_frame, iniX12, coX12_frame, ⟨by decide +kernel, by decide +kernel⟩, by decide +kernel⟩
def mdX12_deeper : ab_M := (RX12, "deeper", cX12_deeper, 1, none, [], dlX12_deeper)
set_option maxRecDepth 20000 in
theorem imX12_deeper : Cond.instanceMethod yX12_deeper ∈ gw := gw_t10 7 rfl rfl
set_option maxRecDepth 20000 in
theorem coX12_deeper : Cond.code yX12_deeper cX12_deeper 1 none ∈ gw := gw_t10 8 rfl rfl
set_option maxRecDepth 20000 in
theorem seX12_deeper : Cond.selects RX12 yX12_deeper yX12_deeper ∈ gw := gw_of (List.mem_of_getElem? (i := 102) (by decide +kernel)) rfl
set_option maxRecDepth 20000 in
theorem yvX12_deeper : ab_yV RX12 yX12_deeper mdX12_deeper 0 := ⟨imX12_deeper, seX12_deeper, iniX12, coX12_deeper, ⟨by decide +kernel, by decide +kernel⟩, by decide +kernel⟩
def mdX12_hold : ab_M := (RX12, "hold", cX12_hold, 2, none, [], dlX12_hold)
set_option maxRecDepth 20000 in
theorem imX12_hold : Cond.instanceMethod yX12_hold ∈ gw := gw_t10 11 rfl rfl
set_option maxRecDepth 20000 in
theorem coX12_hold : Cond.code yX12_hold cX12_hold 2 none ∈ gw := gw_t10 12 rfl rfl
set_option maxRecDepth 20000 in
theorem seX12_hold : Cond.selects RX12 yX12_hold yX12_hold ∈ gw := gw_of (List.mem_of_getElem? (i := 103) (by decide +kernel)) rfl
set_option maxRecDepth 20000 in
theorem yvX12_hold : ab_yV RX12 yX12_hold mdX12_hold 1 := ⟨imX12_hold, seX12_hold, iniX12, coX12_hold, ⟨by decide +kernel, by decide +kernel⟩, by decide +kernel⟩
def mdX12_emit : ab_M := (RX12, "emit", cX12_emit, 3, none, [], dlX12_emit)
set_option maxRecDepth 20000 in
theorem imX12_emit : Cond.instanceMethod yX12_emit ∈ gw := gw_t10 15 rfl rfl
set_option maxRecDepth 20000 in
theorem coX12_emit : Cond.code yX12_emit cX12_emit 3 none ∈ gw := gw_t10 16 rfl rfl
set_option maxRecDepth 20000 in
theorem seX12_emit : Cond.selects RX12 yX12_emit yX12_emit ∈ gw := gw_of (List.mem_of_getElem? (i := 104) (by decide +kernel)) rfl
set_option maxRecDepth 20000 in
theorem yvX12_emit : ab_yV RX12 yX12_emit mdX12_emit 2 := ⟨imX12_emit, seX12_emit, iniX12, coX12_emit, ⟨by decide +kernel, by decide +kernel⟩, by decide +kernel⟩
def mdX12_strength : ab_M := (RX12, "strength", cX12_strength, 1, (some .int), [], dlX12_strength)
set_option maxRecDepth 20000 in
theorem smX12_strength : Cond.static yX12_strength ∈ gw := gw_t10 22 rfl rfl
set_option maxRecDepth 20000 in
theorem coX12_strength : Cond.code yX12_strength cX12_strength 1 (some .int) ∈ gw := gw_t10 23 rfl rfl
set_option maxRecDepth 20000 in
theorem yvX12_strength : ab_yS yX12_strength mdX12_strength 1 := ⟨smX12_strength, iniX12, coX12_strength, ⟨by decide +kernel, by decide +kernel⟩, by decide +kernel⟩
def mdX12_settle : ab_M := (RX12, "settle", cX12_settle, 2, none, [], dlX12_settle)
set_option maxRecDepth 20000 in
theorem imX12_settle : Cond.instanceMethod yX12_settle ∈ gw := gw_t10 19 rfl rfl
set_option maxRecDepth 20000 in
theorem coX12_settle : Cond.code yX12_settle cX12_settle 2 none ∈ gw := gw_t10 20 rfl rfl
set_option maxRecDepth 20000 in
theorem seX12_settle : Cond.selects RX12 yX12_settle yX12_settle ∈ gw := gw_of (List.mem_of_getElem? (i := 105) (by decide +kernel)) rfl
set_option maxRecDepth 20000 in
theorem yvX12_settle : ab_yV RX12 yX12_settle mdX12_settle 1 := ⟨imX12_settle, seX12_settle, iniX12, coX12_settle, ⟨by decide +kernel, by decide +kernel⟩, by decide +kernel⟩
def mdX12_operand : ab_M := (RX12, "operand", cX12_operand, 5, (some .boolean), [], dlX12_operand)
set_option maxRecDepth 20000 in
theorem imX12_operand : Cond.instanceMethod yX12_operand ∈ gw := gw_t10 3 rfl rfl
set_option maxRecDepth 20000 in
theorem coX12_operand : Cond.code yX12_operand cX12_operand 5 (some .boolean) ∈ gw := gw_t10 4 rfl rfl
set_option maxRecDepth 20000 in
theorem seX12_operand : Cond.selects RX12 yX12_operand yX12_operand ∈ gw := gw_of (List.mem_of_getElem? (i := 101) (by decide +kernel)) rfl
set_option maxRecDepth 20000 in
theorem yvX12_operand : ab_yV RX12 yX12_operand mdX12_operand 2 := ⟨imX12_operand, seX12_operand, iniX12, coX12_operand, ⟨by decide +kernel, by decide +kernel⟩, by decide +kernel⟩
def mdX12_endChoices : ab_M := (RX12, "endChoices", cX12_endChoices, 1, none, [], dlX12_endChoices)
set_option maxRecDepth 20000 in
theorem imX12_endChoices : Cond.instanceMethod yX12_endChoices ∈ gw := gw_t10 30 rfl rfl
set_option maxRecDepth 20000 in
theorem coX12_endChoices : Cond.code yX12_endChoices cX12_endChoices 1 none ∈ gw := gw_t10 31 rfl rfl
set_option maxRecDepth 20000 in
theorem seX12_endChoices : Cond.selects RX12 yX12_endChoices yX12_endChoices ∈ gw := gw_of (List.mem_of_getElem? (i := 107) (by decide +kernel)) rfl
set_option maxRecDepth 20000 in
theorem yvX12_endChoices : ab_yV RX12 yX12_endChoices mdX12_endChoices 0 := ⟨imX12_endChoices, seX12_endChoices, iniX12, coX12_endChoices, ⟨by decide +kernel, by decide +kernel⟩, by decide +kernel⟩
def mdX12_behind : ab_M := (RX12, "behind", cX12_behind, 2, (some .int), [], dlX12_behind)
set_option maxRecDepth 20000 in
theorem imX12_behind : Cond.instanceMethod yX12_behind ∈ gw := gw_t10 26 rfl rfl
set_option maxRecDepth 20000 in
theorem coX12_behind : Cond.code yX12_behind cX12_behind 2 (some .int) ∈ gw := gw_t10 27 rfl rfl
set_option maxRecDepth 20000 in
theorem seX12_behind : Cond.selects RX12 yX12_behind yX12_behind ∈ gw := gw_of (List.mem_of_getElem? (i := 106) (by decide +kernel)) rfl
set_option maxRecDepth 20000 in
theorem yvX12_behind : ab_yV RX12 yX12_behind mdX12_behind 0 := ⟨imX12_behind, seX12_behind, iniX12, coX12_behind, ⟨by decide +kernel, by decide +kernel⟩, by decide +kernel⟩
def mdX12_expression : ab_M := (RX12, "expression", cX12_expression, 7, none, [], dlX12_expression)
set_option maxRecDepth 20000 in
theorem imX12_expression : Cond.instanceMethod yX12_expression ∈ gw := gw_t9 235 rfl rfl
set_option maxRecDepth 20000 in
theorem coX12_expression : Cond.code yX12_expression cX12_expression 7 none ∈ gw := gw_t9 236 rfl rfl
set_option maxRecDepth 20000 in
theorem seX12_expression : Cond.selects RX12 yX12_expression yX12_expression ∈ gw := gw_of (List.mem_of_getElem? (i := 99) (by decide +kernel)) rfl
set_option maxRecDepth 20000 in
theorem yvX12_expression : ab_yV RX12 yX12_expression mdX12_expression 1 := ⟨imX12_expression, seX12_expression, iniX12, coX12_expression, ⟨by decide +kernel, by decide +kernel⟩, by decide +kernel⟩
def mdX12_rule : ab_M := (RX12, "rule", cX12_rule, 5, none, [], dlX12_rule)
set_option maxRecDepth 20000 in
theorem imX12_rule : Cond.instanceMethod yX12_rule ∈ gw := gw_t9 219 rfl rfl
set_option maxRecDepth 20000 in
theorem coX12_rule : Cond.code yX12_rule cX12_rule 5 none ∈ gw := gw_t9 220 rfl rfl
set_option maxRecDepth 20000 in
theorem seX12_rule : Cond.selects RX12 yX12_rule yX12_rule ∈ gw := gw_of (List.mem_of_getElem? (i := 95) (by decide +kernel)) rfl
set_option maxRecDepth 20000 in
theorem yvX12_rule : ab_yV RX12 yX12_rule mdX12_rule 1 := ⟨imX12_rule, seX12_rule, iniX12, coX12_rule, ⟨by decide +kernel, by decide +kernel⟩, by decide +kernel⟩
def mdX12_isWhole : ab_M := (RX12, "isWhole", cX12_isWhole, 5, (some .boolean), [], dlX12_isWhole)
set_option maxRecDepth 20000 in
theorem imX12_isWhole : Cond.instanceMethod yX12_isWhole ∈ gw := gw_t10 34 rfl rfl
set_option maxRecDepth 20000 in
theorem coX12_isWhole : Cond.code yX12_isWhole cX12_isWhole 5 (some .boolean) ∈ gw := gw_t10 35 rfl rfl
set_option maxRecDepth 20000 in
theorem seX12_isWhole : Cond.selects RX12 yX12_isWhole yX12_isWhole ∈ gw := gw_of (List.mem_of_getElem? (i := 108) (by decide +kernel)) rfl
set_option maxRecDepth 20000 in
theorem yvX12_isWhole : ab_yV RX12 yX12_isWhole mdX12_isWhole 1 := ⟨imX12_isWhole, seX12_isWhole, iniX12, coX12_isWhole, ⟨by decide +kernel, by decide +kernel⟩, by decide +kernel⟩
def mdX12_production : ab_M := (RX12, "production", cX12_production, 3, none, [], dlX12_production)
set_option maxRecDepth 20000 in
theorem imX12_production : Cond.instanceMethod yX12_production ∈ gw := gw_t9 211 rfl rfl
set_option maxRecDepth 20000 in
theorem coX12_production : Cond.code yX12_production cX12_production 3 none ∈ gw := gw_t9 212 rfl rfl
set_option maxRecDepth 20000 in
theorem seX12_production : Cond.selects RX12 yX12_production yX12_production ∈ gw := gw_of (List.mem_of_getElem? (i := 93) (by decide +kernel)) rfl
set_option maxRecDepth 20000 in
theorem yvX12_production : ab_yV RX12 yX12_production mdX12_production 0 := ⟨imX12_production, seX12_production, iniX12, coX12_production, ⟨by decide +kernel, by decide +kernel⟩, by decide +kernel⟩
def mdX12_readGrammar : ab_M := (RX12, "readGrammar", cX12_readGrammar, 2, none, [], dlX12_readGrammar)
set_option maxRecDepth 20000 in
theorem imX12_readGrammar : Cond.instanceMethod yX12_readGrammar ∈ gw := gw_t9 157 rfl rfl
set_option maxRecDepth 20000 in
theorem coX12_readGrammar : Cond.code yX12_readGrammar cX12_readGrammar 2 none ∈ gw := gw_t9 158 rfl rfl
set_option maxRecDepth 20000 in
theorem seX12_readGrammar : Cond.selects RX12 yX12_readGrammar yX12_readGrammar ∈ gw := gw_of (List.mem_of_getElem? (i := 82) (by decide +kernel)) rfl
set_option maxRecDepth 20000 in
theorem yvX12_readGrammar : ab_yV RX12 yX12_readGrammar mdX12_readGrammar 0 := ⟨imX12_readGrammar, seX12_readGrammar, iniX12, coX12_readGrammar, ⟨by decide +kernel, by decide +kernel⟩, by decide +kernel⟩
def mdX12_direct : ab_M := (RX12, "direct", cX12_direct, 4, none, [], dlX12_direct)
set_option maxRecDepth 20000 in
theorem imX12_direct : Cond.instanceMethod yX12_direct ∈ gw := gw_t10 50 rfl rfl
set_option maxRecDepth 20000 in
theorem coX12_direct : Cond.code yX12_direct cX12_direct 4 none ∈ gw := gw_t10 51 rfl rfl
set_option maxRecDepth 20000 in
theorem seX12_direct : Cond.selects RX12 yX12_direct yX12_direct ∈ gw := gw_of (List.mem_of_getElem? (i := 112) (by decide +kernel)) rfl
set_option maxRecDepth 20000 in
theorem yvX12_direct : ab_yV RX12 yX12_direct mdX12_direct 1 := ⟨imX12_direct, seX12_direct, iniX12, coX12_direct, ⟨by decide +kernel, by decide +kernel⟩, by decide +kernel⟩
def mdX12_follow : ab_M := (RX12, "follow", cX12_follow, 4, none, [], dlX12_follow)
set_option maxRecDepth 20000 in
theorem imX12_follow : Cond.instanceMethod yX12_follow ∈ gw := gw_t10 58 rfl rfl
set_option maxRecDepth 20000 in
theorem coX12_follow : Cond.code yX12_follow cX12_follow 4 none ∈ gw := gw_t10 59 rfl rfl
set_option maxRecDepth 20000 in
theorem seX12_follow : Cond.selects RX12 yX12_follow yX12_follow ∈ gw := gw_of (List.mem_of_getElem? (i := 114) (by decide +kernel)) rfl
set_option maxRecDepth 20000 in
theorem yvX12_follow : ab_yV RX12 yX12_follow mdX12_follow 1 := ⟨imX12_follow, seX12_follow, iniX12, coX12_follow, ⟨by decide +kernel, by decide +kernel⟩, by decide +kernel⟩
def mdX12_exchange : ab_M := (RX12, "exchange", cX12_exchange, 8, (some .boolean), [], dlX12_exchange)
set_option maxRecDepth 20000 in
theorem imX12_exchange : Cond.instanceMethod yX12_exchange ∈ gw := gw_t10 54 rfl rfl
set_option maxRecDepth 20000 in
theorem coX12_exchange : Cond.code yX12_exchange cX12_exchange 8 (some .boolean) ∈ gw := gw_t10 55 rfl rfl
set_option maxRecDepth 20000 in
theorem seX12_exchange : Cond.selects RX12 yX12_exchange yX12_exchange ∈ gw := gw_of (List.mem_of_getElem? (i := 113) (by decide +kernel)) rfl
set_option maxRecDepth 20000 in
theorem yvX12_exchange : ab_yV RX12 yX12_exchange mdX12_exchange 1 := ⟨imX12_exchange, seX12_exchange, iniX12, coX12_exchange, ⟨by decide +kernel, by decide +kernel⟩, by decide +kernel⟩
def mdX12_induce : ab_M := (RX12, "induce", cX12_induce, 3, none, [], dlX12_induce)
set_option maxRecDepth 20000 in
theorem imX12_induce : Cond.instanceMethod yX12_induce ∈ gw := gw_t10 46 rfl rfl
set_option maxRecDepth 20000 in
theorem coX12_induce : Cond.code yX12_induce cX12_induce 3 none ∈ gw := gw_t10 47 rfl rfl
set_option maxRecDepth 20000 in
theorem seX12_induce : Cond.selects RX12 yX12_induce yX12_induce ∈ gw := gw_of (List.mem_of_getElem? (i := 111) (by decide +kernel)) rfl
set_option maxRecDepth 20000 in
theorem yvX12_induce : ab_yV RX12 yX12_induce mdX12_induce 0 := ⟨imX12_induce, seX12_induce, iniX12, coX12_induce, ⟨by decide +kernel, by decide +kernel⟩, by decide +kernel⟩
def mdX12_turning : ab_M := (RX12, "turning", cX12_turning, 4, (some .int), [], dlX12_turning)
set_option maxRecDepth 20000 in
theorem imX12_turning : Cond.instanceMethod yX12_turning ∈ gw := gw_t10 64 rfl rfl
set_option maxRecDepth 20000 in
theorem coX12_turning : Cond.code yX12_turning cX12_turning 4 (some .int) ∈ gw := gw_t10 65 rfl rfl
set_option maxRecDepth 20000 in
theorem seX12_turning : Cond.selects RX12 yX12_turning yX12_turning ∈ gw := gw_of (List.mem_of_getElem? (i := 115) (by decide +kernel)) rfl
set_option maxRecDepth 20000 in
theorem yvX12_turning : ab_yV RX12 yX12_turning mdX12_turning 0 := ⟨imX12_turning, seX12_turning, iniX12, coX12_turning, ⟨by decide +kernel, by decide +kernel⟩, by decide +kernel⟩
def mdX12_mayHave : ab_M := (RX12, "mayHave", cX12_mayHave, 5, (some .boolean), [], dlX12_mayHave)
set_option maxRecDepth 20000 in
theorem imX12_mayHave : Cond.instanceMethod yX12_mayHave ∈ gw := gw_t10 72 rfl rfl
set_option maxRecDepth 20000 in
theorem coX12_mayHave : Cond.code yX12_mayHave cX12_mayHave 5 (some .boolean) ∈ gw := gw_t10 73 rfl rfl
set_option maxRecDepth 20000 in
theorem seX12_mayHave : Cond.selects RX12 yX12_mayHave yX12_mayHave ∈ gw := gw_of (List.mem_of_getElem? (i := 117) (by decide +kernel)) rfl
set_option maxRecDepth 20000 in
theorem yvX12_mayHave : ab_yV RX12 yX12_mayHave mdX12_mayHave 2 := ⟨imX12_mayHave, seX12_mayHave, iniX12, coX12_mayHave, ⟨by decide +kernel, by decide +kernel⟩, by decide +kernel⟩
def mdX12_giveLevels : ab_M := (RX12, "giveLevels", cX12_giveLevels, 8, none, [], dlX12_giveLevels)
set_option maxRecDepth 20000 in
theorem imX12_giveLevels : Cond.instanceMethod yX12_giveLevels ∈ gw := gw_t10 68 rfl rfl
set_option maxRecDepth 20000 in
theorem coX12_giveLevels : Cond.code yX12_giveLevels cX12_giveLevels 8 none ∈ gw := gw_t10 69 rfl rfl
set_option maxRecDepth 20000 in
theorem seX12_giveLevels : Cond.selects RX12 yX12_giveLevels yX12_giveLevels ∈ gw := gw_of (List.mem_of_getElem? (i := 116) (by decide +kernel)) rfl
set_option maxRecDepth 20000 in
theorem yvX12_giveLevels : ab_yV RX12 yX12_giveLevels mdX12_giveLevels 1 := ⟨imX12_giveLevels, seX12_giveLevels, iniX12, coX12_giveLevels, ⟨by decide +kernel, by decide +kernel⟩, by decide +kernel⟩
def mdX12_cross : ab_M := (RX12, "cross", cX12_cross, 7, none, [], dlX12_cross)
set_option maxRecDepth 20000 in
theorem imX12_cross : Cond.instanceMethod yX12_cross ∈ gw := gw_t10 76 rfl rfl
set_option maxRecDepth 20000 in
theorem coX12_cross : Cond.code yX12_cross cX12_cross 7 none ∈ gw := gw_t10 77 rfl rfl
set_option maxRecDepth 20000 in
theorem seX12_cross : Cond.selects RX12 yX12_cross yX12_cross ∈ gw := gw_of (List.mem_of_getElem? (i := 118) (by decide +kernel)) rfl
set_option maxRecDepth 20000 in
theorem yvX12_cross : ab_yV RX12 yX12_cross mdX12_cross 0 := ⟨imX12_cross, seX12_cross, iniX12, coX12_cross, ⟨by decide +kernel, by decide +kernel⟩, by decide +kernel⟩
def mdX12_order0 : ab_M := (RX12, "order0", cX12_order0, 3, (some .int), [], dlX12_order0)
set_option maxRecDepth 20000 in
theorem imX12_order0 : Cond.instanceMethod yX12_order0 ∈ gw := gw_t10 42 rfl rfl
set_option maxRecDepth 20000 in
theorem coX12_order0 : Cond.code yX12_order0 cX12_order0 3 (some .int) ∈ gw := gw_t10 43 rfl rfl
set_option maxRecDepth 20000 in
theorem seX12_order0 : Cond.selects RX12 yX12_order0 yX12_order0 ∈ gw := gw_of (List.mem_of_getElem? (i := 110) (by decide +kernel)) rfl
set_option maxRecDepth 20000 in
theorem yvX12_order0 : ab_yV RX12 yX12_order0 mdX12_order0 0 := ⟨imX12_order0, seX12_order0, iniX12, coX12_order0, ⟨by decide +kernel, by decide +kernel⟩, by decide +kernel⟩
def mdX12_visitOf : ab_M := (RX12, "visitOf", cX12_visitOf, 3, (some .int), [], dlX12_visitOf)
set_option maxRecDepth 20000 in
theorem imX12_visitOf : Cond.instanceMethod yX12_visitOf ∈ gw := gw_t10 88 rfl rfl
set_option maxRecDepth 20000 in
theorem coX12_visitOf : Cond.code yX12_visitOf cX12_visitOf 3 (some .int) ∈ gw := gw_t10 89 rfl rfl
set_option maxRecDepth 20000 in
theorem seX12_visitOf : Cond.selects RX12 yX12_visitOf yX12_visitOf ∈ gw := gw_of (List.mem_of_getElem? (i := 121) (by decide +kernel)) rfl
set_option maxRecDepth 20000 in
theorem yvX12_visitOf : ab_yV RX12 yX12_visitOf mdX12_visitOf 2 := ⟨imX12_visitOf, seX12_visitOf, iniX12, coX12_visitOf, ⟨by decide +kernel, by decide +kernel⟩, by decide +kernel⟩
def mdX12_comes : ab_M := (RX12, "comes", cX12_comes, 8, none, [], dlX12_comes)
set_option maxRecDepth 20000 in
theorem imX12_comes : Cond.instanceMethod yX12_comes ∈ gw := gw_t10 84 rfl rfl
set_option maxRecDepth 20000 in
theorem coX12_comes : Cond.code yX12_comes cX12_comes 8 none ∈ gw := gw_t10 85 rfl rfl
set_option maxRecDepth 20000 in
theorem seX12_comes : Cond.selects RX12 yX12_comes yX12_comes ∈ gw := gw_of (List.mem_of_getElem? (i := 120) (by decide +kernel)) rfl
set_option maxRecDepth 20000 in
theorem yvX12_comes : ab_yV RX12 yX12_comes mdX12_comes 4 := ⟨imX12_comes, seX12_comes, iniX12, coX12_comes, ⟨by decide +kernel, by decide +kernel⟩, by decide +kernel⟩
def mdX12_canEvaluate : ab_M := (RX12, "canEvaluate", cX12_canEvaluate, 7, (some .boolean), [], dlX12_canEvaluate)
set_option maxRecDepth 20000 in
theorem imX12_canEvaluate : Cond.instanceMethod yX12_canEvaluate ∈ gw := gw_t10 96 rfl rfl
set_option maxRecDepth 20000 in
theorem coX12_canEvaluate : Cond.code yX12_canEvaluate cX12_canEvaluate 7 (some .boolean) ∈ gw := gw_t10 97 rfl rfl
set_option maxRecDepth 20000 in
theorem seX12_canEvaluate : Cond.selects RX12 yX12_canEvaluate yX12_canEvaluate ∈ gw := gw_of (List.mem_of_getElem? (i := 123) (by decide +kernel)) rfl
set_option maxRecDepth 20000 in
theorem yvX12_canEvaluate : ab_yV RX12 yX12_canEvaluate mdX12_canEvaluate 3 := ⟨imX12_canEvaluate, seX12_canEvaluate, iniX12, coX12_canEvaluate, ⟨by decide +kernel, by decide +kernel⟩, by decide +kernel⟩
def mdX12_canVisit : ab_M := (RX12, "canVisit", cX12_canVisit, 7, (some .boolean), [], dlX12_canVisit)
set_option maxRecDepth 20000 in
theorem imX12_canVisit : Cond.instanceMethod yX12_canVisit ∈ gw := gw_t10 100 rfl rfl
set_option maxRecDepth 20000 in
theorem coX12_canVisit : Cond.code yX12_canVisit cX12_canVisit 7 (some .boolean) ∈ gw := gw_t10 101 rfl rfl
set_option maxRecDepth 20000 in
theorem seX12_canVisit : Cond.selects RX12 yX12_canVisit yX12_canVisit ∈ gw := gw_of (List.mem_of_getElem? (i := 124) (by decide +kernel)) rfl
set_option maxRecDepth 20000 in
theorem yvX12_canVisit : ab_yV RX12 yX12_canVisit mdX12_canVisit 3 := ⟨imX12_canVisit, seX12_canVisit, iniX12, coX12_canVisit, ⟨by decide +kernel, by decide +kernel⟩, by decide +kernel⟩
def mdX12_round : ab_M := (RX12, "round", cX12_round, 6, (some .boolean), [], dlX12_round)
set_option maxRecDepth 20000 in
theorem imX12_round : Cond.instanceMethod yX12_round ∈ gw := gw_t10 92 rfl rfl
set_option maxRecDepth 20000 in
theorem coX12_round : Cond.code yX12_round cX12_round 6 (some .boolean) ∈ gw := gw_t10 93 rfl rfl
set_option maxRecDepth 20000 in
theorem seX12_round : Cond.selects RX12 yX12_round yX12_round ∈ gw := gw_of (List.mem_of_getElem? (i := 122) (by decide +kernel)) rfl
set_option maxRecDepth 20000 in
theorem yvX12_round : ab_yV RX12 yX12_round mdX12_round 2 := ⟨imX12_round, seX12_round, iniX12, coX12_round, ⟨by decide +kernel, by decide +kernel⟩, by decide +kernel⟩
def mdX12_makePlans : ab_M := (RX12, "makePlans", cX12_makePlans, 4, none, [], dlX12_makePlans)
set_option maxRecDepth 20000 in
theorem imX12_makePlans : Cond.instanceMethod yX12_makePlans ∈ gw := gw_t10 80 rfl rfl
set_option maxRecDepth 20000 in
theorem coX12_makePlans : Cond.code yX12_makePlans cX12_makePlans 4 none ∈ gw := gw_t10 81 rfl rfl
set_option maxRecDepth 20000 in
theorem seX12_makePlans : Cond.selects RX12 yX12_makePlans yX12_makePlans ∈ gw := gw_of (List.mem_of_getElem? (i := 119) (by decide +kernel)) rfl
set_option maxRecDepth 20000 in
theorem yvX12_makePlans : ab_yV RX12 yX12_makePlans mdX12_makePlans 0 := ⟨imX12_makePlans, seX12_makePlans, iniX12, coX12_makePlans, ⟨by decide +kernel, by decide +kernel⟩, by decide +kernel⟩
def mdX12_callOf : ab_M := (RX12, "callOf", cX12_callOf, 6, (some .int), [], dlX12_callOf)
set_option maxRecDepth 20000 in
theorem imX12_callOf : Cond.instanceMethod yX12_callOf ∈ gw := gw_t10 116 rfl rfl
set_option maxRecDepth 20000 in
theorem coX12_callOf : Cond.code yX12_callOf cX12_callOf 6 (some .int) ∈ gw := gw_t10 117 rfl rfl
set_option maxRecDepth 20000 in
theorem seX12_callOf : Cond.selects RX12 yX12_callOf yX12_callOf ∈ gw := gw_of (List.mem_of_getElem? (i := 128) (by decide +kernel)) rfl
set_option maxRecDepth 20000 in
theorem yvX12_callOf : ab_yV RX12 yX12_callOf mdX12_callOf 2 := ⟨imX12_callOf, seX12_callOf, iniX12, coX12_callOf, ⟨by decide +kernel, by decide +kernel⟩, by decide +kernel⟩
def mdX12_isDefining : ab_M := (RX12, "isDefining", cX12_isDefining, 5, (some .boolean), [], dlX12_isDefining)
set_option maxRecDepth 20000 in
theorem imX12_isDefining : Cond.instanceMethod yX12_isDefining ∈ gw := gw_t10 112 rfl rfl
set_option maxRecDepth 20000 in
theorem coX12_isDefining : Cond.code yX12_isDefining cX12_isDefining 5 (some .boolean) ∈ gw := gw_t10 113 rfl rfl
set_option maxRecDepth 20000 in
theorem seX12_isDefining : Cond.selects RX12 yX12_isDefining yX12_isDefining ∈ gw := gw_of (List.mem_of_getElem? (i := 127) (by decide +kernel)) rfl
set_option maxRecDepth 20000 in
theorem yvX12_isDefining : ab_yV RX12 yX12_isDefining mdX12_isDefining 4 := ⟨imX12_isDefining, seX12_isDefining, iniX12, coX12_isDefining, ⟨by decide +kernel, by decide +kernel⟩, by decide +kernel⟩
def mdX12_anyDefining : ab_M := (RX12, "anyDefining", cX12_anyDefining, 8, (some .boolean), [], dlX12_anyDefining)
set_option maxRecDepth 20000 in
theorem imX12_anyDefining : Cond.instanceMethod yX12_anyDefining ∈ gw := gw_t10 108 rfl rfl
set_option maxRecDepth 20000 in
theorem coX12_anyDefining : Cond.code yX12_anyDefining cX12_anyDefining 8 (some .boolean) ∈ gw := gw_t10 109 rfl rfl
set_option maxRecDepth 20000 in
theorem seX12_anyDefining : Cond.selects RX12 yX12_anyDefining yX12_anyDefining ∈ gw := gw_of (List.mem_of_getElem? (i := 126) (by decide +kernel)) rfl
set_option maxRecDepth 20000 in
theorem yvX12_anyDefining : ab_yV RX12 yX12_anyDefining mdX12_anyDefining 5 := ⟨imX12_anyDefining, seX12_anyDefining, iniX12, coX12_anyDefining, ⟨by decide +kernel, by decide +kernel⟩, by decide +kernel⟩
def mdX12_findDefines : ab_M := (RX12, "findDefines", cX12_findDefines, 7, none, [], dlX12_findDefines)
set_option maxRecDepth 20000 in
theorem imX12_findDefines : Cond.instanceMethod yX12_findDefines ∈ gw := gw_t10 104 rfl rfl
set_option maxRecDepth 20000 in
theorem coX12_findDefines : Cond.code yX12_findDefines cX12_findDefines 7 none ∈ gw := gw_t10 105 rfl rfl
set_option maxRecDepth 20000 in
theorem seX12_findDefines : Cond.selects RX12 yX12_findDefines yX12_findDefines ∈ gw := gw_of (List.mem_of_getElem? (i := 125) (by decide +kernel)) rfl
set_option maxRecDepth 20000 in
theorem yvX12_findDefines : ab_yV RX12 yX12_findDefines mdX12_findDefines 0 := ⟨imX12_findDefines, seX12_findDefines, iniX12, coX12_findDefines, ⟨by decide +kernel, by decide +kernel⟩, by decide +kernel⟩
def mdX12_isNaming : ab_M := (RX12, "isNaming", cX12_isNaming, 7, (some .boolean), [], dlX12_isNaming)
set_option maxRecDepth 20000 in
theorem imX12_isNaming : Cond.instanceMethod yX12_isNaming ∈ gw := gw_t10 132 rfl rfl
set_option maxRecDepth 20000 in
theorem coX12_isNaming : Cond.code yX12_isNaming cX12_isNaming 7 (some .boolean) ∈ gw := gw_t10 133 rfl rfl
set_option maxRecDepth 20000 in
theorem seX12_isNaming : Cond.selects RX12 yX12_isNaming yX12_isNaming ∈ gw := gw_of (List.mem_of_getElem? (i := 132) (by decide +kernel)) rfl
set_option maxRecDepth 20000 in
theorem yvX12_isNaming : ab_yV RX12 yX12_isNaming mdX12_isNaming 4 := ⟨imX12_isNaming, seX12_isNaming, iniX12, coX12_isNaming, ⟨by decide +kernel, by decide +kernel⟩, by decide +kernel⟩
def mdX12_areNamedIn : ab_M := (RX12, "areNamedIn", cX12_areNamedIn, 7, (some .boolean), [], dlX12_areNamedIn)
set_option maxRecDepth 20000 in
theorem imX12_areNamedIn : Cond.instanceMethod yX12_areNamedIn ∈ gw := gw_t10 128 rfl rfl
set_option maxRecDepth 20000 in
theorem coX12_areNamedIn : Cond.code yX12_areNamedIn cX12_areNamedIn 7 (some .boolean) ∈ gw := gw_t10 129 rfl rfl
set_option maxRecDepth 20000 in
theorem seX12_areNamedIn : Cond.selects RX12 yX12_areNamedIn yX12_areNamedIn ∈ gw := gw_of (List.mem_of_getElem? (i := 131) (by decide +kernel)) rfl
set_option maxRecDepth 20000 in
theorem yvX12_areNamedIn : ab_yV RX12 yX12_areNamedIn mdX12_areNamedIn 4 := ⟨imX12_areNamedIn, seX12_areNamedIn, iniX12, coX12_areNamedIn, ⟨by decide +kernel, by decide +kernel⟩, by decide +kernel⟩
def mdX12_isShortAt : ab_M := (RX12, "isShortAt", cX12_isShortAt, 8, (some .boolean), [], dlX12_isShortAt)
set_option maxRecDepth 20000 in
theorem imX12_isShortAt : Cond.instanceMethod yX12_isShortAt ∈ gw := gw_t10 124 rfl rfl
set_option maxRecDepth 20000 in
theorem coX12_isShortAt : Cond.code yX12_isShortAt cX12_isShortAt 8 (some .boolean) ∈ gw := gw_t10 125 rfl rfl
set_option maxRecDepth 20000 in
theorem seX12_isShortAt : Cond.selects RX12 yX12_isShortAt yX12_isShortAt ∈ gw := gw_of (List.mem_of_getElem? (i := 130) (by decide +kernel)) rfl
set_option maxRecDepth 20000 in
theorem yvX12_isShortAt : ab_yV RX12 yX12_isShortAt mdX12_isShortAt 4 := ⟨imX12_isShortAt, seX12_isShortAt, iniX12, coX12_isShortAt, ⟨by decide +kernel, by decide +kernel⟩, by decide +kernel⟩
def mdX12_lastNaming : ab_M := (RX12, "lastNaming", cX12_lastNaming, 6, (some .int), [], dlX12_lastNaming)
set_option maxRecDepth 20000 in
theorem imX12_lastNaming : Cond.instanceMethod yX12_lastNaming ∈ gw := gw_t10 140 rfl rfl
set_option maxRecDepth 20000 in
theorem coX12_lastNaming : Cond.code yX12_lastNaming cX12_lastNaming 6 (some .int) ∈ gw := gw_t10 141 rfl rfl
set_option maxRecDepth 20000 in
theorem seX12_lastNaming : Cond.selects RX12 yX12_lastNaming yX12_lastNaming ∈ gw := gw_of (List.mem_of_getElem? (i := 134) (by decide +kernel)) rfl
set_option maxRecDepth 20000 in
theorem yvX12_lastNaming : ab_yV RX12 yX12_lastNaming mdX12_lastNaming 3 := ⟨imX12_lastNaming, seX12_lastNaming, iniX12, coX12_lastNaming, ⟨by decide +kernel, by decide +kernel⟩, by decide +kernel⟩
def mdX12_isAloneAt : ab_M := (RX12, "isAloneAt", cX12_isAloneAt, 9, (some .boolean), [], dlX12_isAloneAt)
set_option maxRecDepth 20000 in
theorem imX12_isAloneAt : Cond.instanceMethod yX12_isAloneAt ∈ gw := gw_t10 136 rfl rfl
set_option maxRecDepth 20000 in
theorem coX12_isAloneAt : Cond.code yX12_isAloneAt cX12_isAloneAt 9 (some .boolean) ∈ gw := gw_t10 137 rfl rfl
set_option maxRecDepth 20000 in
theorem seX12_isAloneAt : Cond.selects RX12 yX12_isAloneAt yX12_isAloneAt ∈ gw := gw_of (List.mem_of_getElem? (i := 133) (by decide +kernel)) rfl
set_option maxRecDepth 20000 in
theorem yvX12_isAloneAt : ab_yV RX12 yX12_isAloneAt mdX12_isAloneAt 4 := ⟨imX12_isAloneAt, seX12_isAloneAt, iniX12, coX12_isAloneAt, ⟨by decide +kernel, by decide +kernel⟩, by decide +kernel⟩
def mdX12_findStores : ab_M := (RX12, "findStores", cX12_findStores, 8, none, [], dlX12_findStores)
set_option maxRecDepth 20000 in
theorem imX12_findStores : Cond.instanceMethod yX12_findStores ∈ gw := gw_t10 120 rfl rfl
set_option maxRecDepth 20000 in
theorem coX12_findStores : Cond.code yX12_findStores cX12_findStores 8 none ∈ gw := gw_t10 121 rfl rfl
set_option maxRecDepth 20000 in
theorem seX12_findStores : Cond.selects RX12 yX12_findStores yX12_findStores ∈ gw := gw_of (List.mem_of_getElem? (i := 129) (by decide +kernel)) rfl
set_option maxRecDepth 20000 in
theorem yvX12_findStores : ab_yV RX12 yX12_findStores mdX12_findStores 0 := ⟨imX12_findStores, seX12_findStores, iniX12, coX12_findStores, ⟨by decide +kernel, by decide +kernel⟩, by decide +kernel⟩
def mdX12_write : ab_M := (RX12, "write", cX12_write, 3, none, [], dlX12_write)
set_option maxRecDepth 20000 in
theorem imX12_write : Cond.instanceMethod yX12_write ∈ gw := gw_t10 148 rfl rfl
set_option maxRecDepth 20000 in
theorem coX12_write : Cond.code yX12_write cX12_write 3 none ∈ gw := gw_t10 149 rfl rfl
set_option maxRecDepth 20000 in
theorem seX12_write : Cond.selects RX12 yX12_write yX12_write ∈ gw := gw_of (List.mem_of_getElem? (i := 136) (by decide +kernel)) rfl
set_option maxRecDepth 20000 in
theorem yvX12_write : ab_yV RX12 yX12_write mdX12_write 2 := ⟨imX12_write, seX12_write, iniX12, coX12_write, ⟨by decide +kernel, by decide +kernel⟩, by decide +kernel⟩
def mdX12_findParts : ab_M := (RX12, "findParts", cX12_findParts, 6, none, [], dlX12_findParts)
set_option maxRecDepth 20000 in
theorem imX12_findParts : Cond.instanceMethod yX12_findParts ∈ gw := gw_t10 156 rfl rfl
set_option maxRecDepth 20000 in
theorem coX12_findParts : Cond.code yX12_findParts cX12_findParts 6 none ∈ gw := gw_t10 157 rfl rfl
set_option maxRecDepth 20000 in
theorem seX12_findParts : Cond.selects RX12 yX12_findParts yX12_findParts ∈ gw := gw_of (List.mem_of_getElem? (i := 138) (by decide +kernel)) rfl
set_option maxRecDepth 20000 in
theorem yvX12_findParts : ab_yV RX12 yX12_findParts mdX12_findParts 2 := ⟨imX12_findParts, seX12_findParts, iniX12, coX12_findParts, ⟨by decide +kernel, by decide +kernel⟩, by decide +kernel⟩
def mdX12_storeAt : ab_M := (RX12, "storeAt", cX12_storeAt, 3, (some .int), [], dlX12_storeAt)
set_option maxRecDepth 20000 in
theorem imX12_storeAt : Cond.instanceMethod yX12_storeAt ∈ gw := gw_t10 160 rfl rfl
set_option maxRecDepth 20000 in
theorem coX12_storeAt : Cond.code yX12_storeAt cX12_storeAt 3 (some .int) ∈ gw := gw_t10 161 rfl rfl
set_option maxRecDepth 20000 in
theorem seX12_storeAt : Cond.selects RX12 yX12_storeAt yX12_storeAt ∈ gw := gw_of (List.mem_of_getElem? (i := 139) (by decide +kernel)) rfl
set_option maxRecDepth 20000 in
theorem yvX12_storeAt : ab_yV RX12 yX12_storeAt mdX12_storeAt 2 := ⟨imX12_storeAt, seX12_storeAt, iniX12, coX12_storeAt, ⟨by decide +kernel, by decide +kernel⟩, by decide +kernel⟩
def mdX12_storedBelow : ab_M := (RX12, "storedBelow", cX12_storedBelow, 6, (some .int), [], dlX12_storedBelow)
set_option maxRecDepth 20000 in
theorem imX12_storedBelow : Cond.instanceMethod yX12_storedBelow ∈ gw := gw_t10 168 rfl rfl
set_option maxRecDepth 20000 in
theorem coX12_storedBelow : Cond.code yX12_storedBelow cX12_storedBelow 6 (some .int) ∈ gw := gw_t10 169 rfl rfl
set_option maxRecDepth 20000 in
theorem seX12_storedBelow : Cond.selects RX12 yX12_storedBelow yX12_storedBelow ∈ gw := gw_of (List.mem_of_getElem? (i := 141) (by decide +kernel)) rfl
set_option maxRecDepth 20000 in
theorem yvX12_storedBelow : ab_yV RX12 yX12_storedBelow mdX12_storedBelow 3 := ⟨imX12_storedBelow, seX12_storedBelow, iniX12, coX12_storedBelow, ⟨by decide +kernel, by decide +kernel⟩, by decide +kernel⟩
def mdX12_toldBy : ab_M := (RX12, "toldBy", cX12_toldBy, 9, (some .int), [], dlX12_toldBy)
set_option maxRecDepth 20000 in
theorem imX12_toldBy : Cond.instanceMethod yX12_toldBy ∈ gw := gw_t10 164 rfl rfl
set_option maxRecDepth 20000 in
theorem coX12_toldBy : Cond.code yX12_toldBy cX12_toldBy 9 (some .int) ∈ gw := gw_t10 165 rfl rfl
set_option maxRecDepth 20000 in
theorem seX12_toldBy : Cond.selects RX12 yX12_toldBy yX12_toldBy ∈ gw := gw_of (List.mem_of_getElem? (i := 140) (by decide +kernel)) rfl
set_option maxRecDepth 20000 in
theorem yvX12_toldBy : ab_yV RX12 yX12_toldBy mdX12_toldBy 2 := ⟨imX12_toldBy, seX12_toldBy, iniX12, coX12_toldBy, ⟨by decide +kernel, by decide +kernel⟩, by decide +kernel⟩
def mdX12_kindOf : ab_M := (RX12, "kindOf", cX12_kindOf, 1, (some .int), [], dlX12_kindOf)
set_option maxRecDepth 20000 in
theorem smX12_kindOf : Cond.static yX12_kindOf ∈ gw := gw_t10 171 rfl rfl
set_option maxRecDepth 20000 in
theorem coX12_kindOf : Cond.code yX12_kindOf cX12_kindOf 1 (some .int) ∈ gw := gw_t10 172 rfl rfl
set_option maxRecDepth 20000 in
theorem yvX12_kindOf : ab_yS yX12_kindOf mdX12_kindOf 1 := ⟨smX12_kindOf, iniX12, coX12_kindOf, ⟨by decide +kernel, by decide +kernel⟩, by decide +kernel⟩
def mdX12_writeRule : ab_M := (RX12, "writeRule", cX12_writeRule, 8, none, [], dlX12_writeRule)
set_option maxRecDepth 20000 in
theorem imX12_writeRule : Cond.instanceMethod yX12_writeRule ∈ gw := gw_t10 152 rfl rfl
set_option maxRecDepth 20000 in
theorem coX12_writeRule : Cond.code yX12_writeRule cX12_writeRule 8 none ∈ gw := gw_t10 153 rfl rfl
set_option maxRecDepth 20000 in
theorem seX12_writeRule : Cond.selects RX12 yX12_writeRule yX12_writeRule ∈ gw := gw_of (List.mem_of_getElem? (i := 137) (by decide +kernel)) rfl
set_option maxRecDepth 20000 in
theorem yvX12_writeRule : ab_yV RX12 yX12_writeRule mdX12_writeRule 2 := ⟨imX12_writeRule, seX12_writeRule, iniX12, coX12_writeRule, ⟨by decide +kernel, by decide +kernel⟩, by decide +kernel⟩
def mdX12_makeProgram : ab_M := (RX12, "makeProgram", cX12_makeProgram, 4, none, [], dlX12_makeProgram)
set_option maxRecDepth 20000 in
theorem imX12_makeProgram : Cond.instanceMethod yX12_makeProgram ∈ gw := gw_t10 144 rfl rfl
set_option maxRecDepth 20000 in
theorem coX12_makeProgram : Cond.code yX12_makeProgram cX12_makeProgram 4 none ∈ gw := gw_t10 145 rfl rfl
set_option maxRecDepth 20000 in
theorem seX12_makeProgram : Cond.selects RX12 yX12_makeProgram yX12_makeProgram ∈ gw := gw_of (List.mem_of_getElem? (i := 135) (by decide +kernel)) rfl
set_option maxRecDepth 20000 in
theorem yvX12_makeProgram : ab_yV RX12 yX12_makeProgram mdX12_makeProgram 0 := ⟨imX12_makeProgram, seX12_makeProgram, iniX12, coX12_makeProgram, ⟨by decide +kernel, by decide +kernel⟩, by decide +kernel⟩
def mdX12_order : ab_M := (RX12, "order", cX12_order, 2, (some .int), [], dlX12_order)
set_option maxRecDepth 20000 in
theorem imX12_order : Cond.instanceMethod yX12_order ∈ gw := gw_t10 38 rfl rfl
set_option maxRecDepth 20000 in
theorem coX12_order : Cond.code yX12_order cX12_order 2 (some .int) ∈ gw := gw_t10 39 rfl rfl
set_option maxRecDepth 20000 in
theorem seX12_order : Cond.selects RX12 yX12_order yX12_order ∈ gw := gw_of (List.mem_of_getElem? (i := 109) (by decide +kernel)) rfl
set_option maxRecDepth 20000 in
theorem yvX12_order : ab_yV RX12 yX12_order mdX12_order 0 := ⟨imX12_order, seX12_order, iniX12, coX12_order, ⟨by decide +kernel, by decide +kernel⟩, by decide +kernel⟩
def mdX12_plan : ab_M := (RX12, "plan", cX12_plan, 6, (some .int), [], dlX12_plan)
set_option maxRecDepth 20000 in
theorem imX12_plan : Cond.instanceMethod yX12_plan ∈ gw := gw_t9 136 rfl rfl
set_option maxRecDepth 20000 in
theorem coX12_plan : Cond.code yX12_plan cX12_plan 6 (some .int) ∈ gw := gw_t9 138 rfl rfl
set_option maxRecDepth 20000 in
theorem seX12_plan : Cond.selects RX12 yX12_plan yX12_plan ∈ gw := gw_t9 137 rfl rfl
set_option maxRecDepth 20000 in
theorem yvX12_plan : ab_yV RX12 yX12_plan mdX12_plan 3 := ⟨imX12_plan, seX12_plan, iniX12, coX12_plan, ⟨by decide +kernel, by decide +kernel⟩, by decide +kernel⟩
def mdX12_isAttribute : ab_M := (RX12, "isAttribute", cX12_isAttribute, 3, (some .boolean), [], dlX12_isAttribute)
set_option maxRecDepth 20000 in
theorem imX12_isAttribute : Cond.instanceMethod yX12_isAttribute ∈ gw := gw_t9 145 rfl rfl
set_option maxRecDepth 20000 in
theorem coX12_isAttribute : Cond.code yX12_isAttribute cX12_isAttribute 3 (some .boolean) ∈ gw := gw_t9 146 rfl rfl
set_option maxRecDepth 20000 in
theorem seX12_isAttribute : Cond.selects RX12 yX12_isAttribute yX12_isAttribute ∈ gw := gw_of (List.mem_of_getElem? (i := 80) (by decide +kernel)) rfl
set_option maxRecDepth 20000 in
theorem yvX12_isAttribute : ab_yV RX12 yX12_isAttribute mdX12_isAttribute 2 := ⟨imX12_isAttribute, seX12_isAttribute, iniX12, coX12_isAttribute, ⟨by decide +kernel, by decide +kernel⟩, by decide +kernel⟩
def mdX12_store : ab_M := (RX12, "store", cX12_store, 4, (some .int), [], dlX12_store)
set_option maxRecDepth 20000 in
theorem imX12_store : Cond.instanceMethod yX12_store ∈ gw := gw_t9 140 rfl rfl
set_option maxRecDepth 20000 in
theorem coX12_store : Cond.code yX12_store cX12_store 4 (some .int) ∈ gw := gw_t9 142 rfl rfl
set_option maxRecDepth 20000 in
theorem seX12_store : Cond.selects RX12 yX12_store yX12_store ∈ gw := gw_t9 141 rfl rfl
set_option maxRecDepth 20000 in
theorem yvX12_store : ab_yV RX12 yX12_store mdX12_store 2 := ⟨imX12_store, seX12_store, iniX12, coX12_store, ⟨by decide +kernel, by decide +kernel⟩, by decide +kernel⟩
def mdX12_frameOf : ab_M := (RX12, "frameOf", cX12_frameOf, 6, (some .int), [], dlX12_frameOf)
set_option maxRecDepth 20000 in
theorem imX12_frameOf : Cond.instanceMethod yX12_frameOf ∈ gw := gw_t10 239 rfl rfl
set_option maxRecDepth 20000 in
theorem coX12_frameOf : Cond.code yX12_frameOf cX12_frameOf 6 (some .int) ∈ gw := gw_t11 0 rfl rfl
set_option maxRecDepth 20000 in
theorem seX12_frameOf : Cond.selects RX12 yX12_frameOf yX12_frameOf ∈ gw := gw_of (List.mem_of_getElem? (i := 152) (by decide +kernel)) rfl
set_option maxRecDepth 20000 in
theorem yvX12_frameOf : ab_yV RX12 yX12_frameOf mdX12_frameOf 1 := ⟨imX12_frameOf, seX12_frameOf, iniX12, coX12_frameOf, ⟨by decide +kernel, by decide +kernel⟩, by decide +kernel⟩
def mdX12_framesAbove : ab_M := (RX12, "framesAbove", cX12_framesAbove, 4, (some .int), [], dlX12_framesAbove)
set_option maxRecDepth 20000 in
theorem imX12_framesAbove : Cond.instanceMethod yX12_framesAbove ∈ gw := gw_t10 235 rfl rfl
set_option maxRecDepth 20000 in
theorem coX12_framesAbove : Cond.code yX12_framesAbove cX12_framesAbove 4 (some .int) ∈ gw := gw_t10 236 rfl rfl
set_option maxRecDepth 20000 in
theorem seX12_framesAbove : Cond.selects RX12 yX12_framesAbove yX12_framesAbove ∈ gw := gw_of (List.mem_of_getElem? (i := 151) (by decide +kernel)) rfl
set_option maxRecDepth 20000 in
theorem yvX12_framesAbove : ab_yV RX12 yX12_framesAbove mdX12_framesAbove 1 := ⟨imX12_framesAbove, seX12_framesAbove, iniX12, coX12_framesAbove, ⟨by decide +kernel, by decide +kernel⟩, by decide +kernel⟩
def mdX12_takeText : ab_M := (RX12, "takeText", cX12_takeText, 3, none, [], dlX12_takeText)
set_option maxRecDepth 20000 in
theorem imX12_takeText : Cond.instanceMethod yX12_takeText ∈ gw := gw_t9 153 rfl rfl
set_option maxRecDepth 20000 in
theorem coX12_takeText : Cond.code yX12_takeText cX12_takeText 3 none ∈ gw := gw_t9 154 rfl rfl
set_option maxRecDepth 20000 in
theorem seX12_takeText : Cond.selects RX12 yX12_takeText yX12_takeText ∈ gw := gw_of (List.mem_of_getElem? (i := 81) (by decide +kernel)) rfl
set_option maxRecDepth 20000 in
theorem yvX12_takeText : ab_yV RX12 yX12_takeText mdX12_takeText 1 := ⟨imX12_takeText, seX12_takeText, iniX12, coX12_takeText, ⟨by decide +kernel, by decide +kernel⟩, by decide +kernel⟩
def mdX12_grammar : ab_M := (RX12, "grammar", cX12_grammar, 3, (some .int), [], dlX12_grammar)
set_option maxRecDepth 20000 in
theorem imX12_grammar : Cond.instanceMethod yX12_grammar ∈ gw := gw_t9 148 rfl rfl
set_option maxRecDepth 20000 in
theorem coX12_grammar : Cond.code yX12_grammar cX12_grammar 3 (some .int) ∈ gw := gw_t9 150 rfl rfl
set_option maxRecDepth 20000 in
theorem seX12_grammar : Cond.selects RX12 yX12_grammar yX12_grammar ∈ gw := gw_t9 149 rfl rfl
set_option maxRecDepth 20000 in
theorem yvX12_grammar : ab_yV RX12 yX12_grammar mdX12_grammar 0 := ⟨imX12_grammar, seX12_grammar, iniX12, coX12_grammar, ⟨by decide +kernel, by decide +kernel⟩, by decide +kernel⟩
def mdX12_size : ab_M := (RX12, "size", cX12_size, 2, (some .int), [], dlX12_size)
set_option maxRecDepth 20000 in
theorem imX12_size : Cond.instanceMethod yX12_size ∈ gw := gw_t10 174 rfl rfl
set_option maxRecDepth 20000 in
theorem coX12_size : Cond.code yX12_size cX12_size 2 (some .int) ∈ gw := gw_t10 176 rfl rfl
set_option maxRecDepth 20000 in
theorem seX12_size : Cond.selects RX12 yX12_size yX12_size ∈ gw := gw_t10 175 rfl rfl
set_option maxRecDepth 20000 in
theorem yvX12_size : ab_yV RX12 yX12_size mdX12_size 1 := ⟨imX12_size, seX12_size, iniX12, coX12_size, ⟨by decide +kernel, by decide +kernel⟩, by decide +kernel⟩
def mdX12_depends : ab_M := (RX12, "depends", cX12_depends, 5, (some .boolean), [], dlX12_depends)
set_option maxRecDepth 20000 in
theorem imX12_depends : Cond.instanceMethod yX12_depends ∈ gw := gw_t10 178 rfl rfl
set_option maxRecDepth 20000 in
theorem coX12_depends : Cond.code yX12_depends cX12_depends 5 (some .boolean) ∈ gw := gw_t10 180 rfl rfl
set_option maxRecDepth 20000 in
theorem seX12_depends : Cond.selects RX12 yX12_depends yX12_depends ∈ gw := gw_t10 179 rfl rfl
set_option maxRecDepth 20000 in
theorem yvX12_depends : ab_yV RX12 yX12_depends mdX12_depends 3 := ⟨imX12_depends, seX12_depends, iniX12, coX12_depends, ⟨by decide +kernel, by decide +kernel⟩, by decide +kernel⟩
def mdX12_level : ab_M := (RX12, "level", cX12_level, 4, (some .int), [], dlX12_level)
set_option maxRecDepth 20000 in
theorem imX12_level : Cond.instanceMethod yX12_level ∈ gw := gw_t10 182 rfl rfl
set_option maxRecDepth 20000 in
theorem coX12_level : Cond.code yX12_level cX12_level 4 (some .int) ∈ gw := gw_t10 184 rfl rfl
set_option maxRecDepth 20000 in
theorem seX12_level : Cond.selects RX12 yX12_level yX12_level ∈ gw := gw_t10 183 rfl rfl
set_option maxRecDepth 20000 in
theorem yvX12_level : ab_yV RX12 yX12_level mdX12_level 2 := ⟨imX12_level, seX12_level, iniX12, coX12_level, ⟨by decide +kernel, by decide +kernel⟩, by decide +kernel⟩
def mdX12_visit : ab_M := (RX12, "visit", cX12_visit, 8, (some .int), [], dlX12_visit)
set_option maxRecDepth 20000 in
theorem imX12_visit : Cond.instanceMethod yX12_visit ∈ gw := gw_t10 186 rfl rfl
set_option maxRecDepth 20000 in
theorem coX12_visit : Cond.code yX12_visit cX12_visit 8 (some .int) ∈ gw := gw_t10 188 rfl rfl
set_option maxRecDepth 20000 in
theorem seX12_visit : Cond.selects RX12 yX12_visit yX12_visit ∈ gw := gw_t10 187 rfl rfl
set_option maxRecDepth 20000 in
theorem yvX12_visit : ab_yV RX12 yX12_visit mdX12_visit 2 := ⟨imX12_visit, seX12_visit, iniX12, coX12_visit, ⟨by decide +kernel, by decide +kernel⟩, by decide +kernel⟩
def mdX12_treeNode : ab_M := (RX12, "treeNode", cX12_treeNode, 7, none, [], dlX12_treeNode)
set_option maxRecDepth 20000 in
theorem imX12_treeNode : Cond.instanceMethod yX12_treeNode ∈ gw := gw_t10 199 rfl rfl
set_option maxRecDepth 20000 in
theorem coX12_treeNode : Cond.code yX12_treeNode cX12_treeNode 7 none ∈ gw := gw_t10 200 rfl rfl
set_option maxRecDepth 20000 in
theorem seX12_treeNode : Cond.selects RX12 yX12_treeNode yX12_treeNode ∈ gw := gw_of (List.mem_of_getElem? (i := 143) (by decide +kernel)) rfl
set_option maxRecDepth 20000 in
theorem yvX12_treeNode : ab_yV RX12 yX12_treeNode mdX12_treeNode 3 := ⟨imX12_treeNode, seX12_treeNode, iniX12, coX12_treeNode, ⟨by decide +kernel, by decide +kernel⟩, by decide +kernel⟩
def mdX12_readTree : ab_M := (RX12, "readTree", cX12_readTree, 4, none, [], dlX12_readTree)
set_option maxRecDepth 20000 in
theorem imX12_readTree : Cond.instanceMethod yX12_readTree ∈ gw := gw_t10 195 rfl rfl
set_option maxRecDepth 20000 in
theorem coX12_readTree : Cond.code yX12_readTree cX12_readTree 4 none ∈ gw := gw_t10 196 rfl rfl
set_option maxRecDepth 20000 in
theorem seX12_readTree : Cond.selects RX12 yX12_readTree yX12_readTree ∈ gw := gw_of (List.mem_of_getElem? (i := 142) (by decide +kernel)) rfl
set_option maxRecDepth 20000 in
theorem yvX12_readTree : ab_yV RX12 yX12_readTree mdX12_readTree 0 := ⟨imX12_readTree, seX12_readTree, iniX12, coX12_readTree, ⟨by decide +kernel, by decide +kernel⟩, by decide +kernel⟩
def mdX12_valueAt : ab_M := (RX12, "valueAt", cX12_valueAt, 4, (some .int), [], dlX12_valueAt)
set_option maxRecDepth 20000 in
theorem imX12_valueAt : Cond.instanceMethod yX12_valueAt ∈ gw := gw_t10 211 rfl rfl
set_option maxRecDepth 20000 in
theorem coX12_valueAt : Cond.code yX12_valueAt cX12_valueAt 4 (some .int) ∈ gw := gw_t10 212 rfl rfl
set_option maxRecDepth 20000 in
theorem seX12_valueAt : Cond.selects RX12 yX12_valueAt yX12_valueAt ∈ gw := gw_of (List.mem_of_getElem? (i := 146) (by decide +kernel)) rfl
set_option maxRecDepth 20000 in
theorem yvX12_valueAt : ab_yV RX12 yX12_valueAt mdX12_valueAt 2 := ⟨imX12_valueAt, seX12_valueAt, iniX12, coX12_valueAt, ⟨by decide +kernel, by decide +kernel⟩, by decide +kernel⟩
def mdX12_isReady : ab_M := (RX12, "isReady", cX12_isReady, 6, (some .boolean), [], dlX12_isReady)
set_option maxRecDepth 20000 in
theorem imX12_isReady : Cond.instanceMethod yX12_isReady ∈ gw := gw_t10 215 rfl rfl
set_option maxRecDepth 20000 in
theorem coX12_isReady : Cond.code yX12_isReady cX12_isReady 6 (some .boolean) ∈ gw := gw_t10 216 rfl rfl
set_option maxRecDepth 20000 in
theorem seX12_isReady : Cond.selects RX12 yX12_isReady yX12_isReady ∈ gw := gw_of (List.mem_of_getElem? (i := 147) (by decide +kernel)) rfl
set_option maxRecDepth 20000 in
theorem yvX12_isReady : ab_yV RX12 yX12_isReady mdX12_isReady 2 := ⟨imX12_isReady, seX12_isReady, iniX12, coX12_isReady, ⟨by decide +kernel, by decide +kernel⟩, by decide +kernel⟩
def mdX12_two : ab_M := (RX12, "two", cX12_two, 4, (some .int), [], dlX12_two)
set_option maxRecDepth 20000 in
theorem imX12_two : Cond.instanceMethod yX12_two ∈ gw := gw_t10 223 rfl rfl
set_option maxRecDepth 20000 in
theorem coX12_two : Cond.code yX12_two cX12_two 4 (some .int) ∈ gw := gw_t10 224 rfl rfl
set_option maxRecDepth 20000 in
theorem seX12_two : Cond.selects RX12 yX12_two yX12_two ∈ gw := gw_of (List.mem_of_getElem? (i := 149) (by decide +kernel)) rfl
set_option maxRecDepth 20000 in
theorem yvX12_two : ab_yV RX12 yX12_two mdX12_two 3 := ⟨imX12_two, seX12_two, iniX12, coX12_two, ⟨by decide +kernel, by decide +kernel⟩, by decide +kernel⟩
def mdX12_workOut : ab_M := (RX12, "workOut", cX12_workOut, 8, none, [], dlX12_workOut)
set_option maxRecDepth 20000 in
theorem imX12_workOut : Cond.instanceMethod yX12_workOut ∈ gw := gw_t10 219 rfl rfl
set_option maxRecDepth 20000 in
theorem coX12_workOut : Cond.code yX12_workOut cX12_workOut 8 none ∈ gw := gw_t10 220 rfl rfl
set_option maxRecDepth 20000 in
theorem seX12_workOut : Cond.selects RX12 yX12_workOut yX12_workOut ∈ gw := gw_of (List.mem_of_getElem? (i := 148) (by decide +kernel)) rfl
set_option maxRecDepth 20000 in
theorem yvX12_workOut : ab_yV RX12 yX12_workOut mdX12_workOut 2 := ⟨imX12_workOut, seX12_workOut, iniX12, coX12_workOut, ⟨by decide +kernel, by decide +kernel⟩, by decide +kernel⟩
def mdX12_tryNode : ab_M := (RX12, "tryNode", cX12_tryNode, 7, (some .boolean), [], dlX12_tryNode)
set_option maxRecDepth 20000 in
theorem imX12_tryNode : Cond.instanceMethod yX12_tryNode ∈ gw := gw_t10 207 rfl rfl
set_option maxRecDepth 20000 in
theorem coX12_tryNode : Cond.code yX12_tryNode cX12_tryNode 7 (some .boolean) ∈ gw := gw_t10 208 rfl rfl
set_option maxRecDepth 20000 in
theorem seX12_tryNode : Cond.selects RX12 yX12_tryNode yX12_tryNode ∈ gw := gw_of (List.mem_of_getElem? (i := 145) (by decide +kernel)) rfl
set_option maxRecDepth 20000 in
theorem yvX12_tryNode : ab_yV RX12 yX12_tryNode mdX12_tryNode 1 := ⟨imX12_tryNode, seX12_tryNode, iniX12, coX12_tryNode, ⟨by decide +kernel, by decide +kernel⟩, by decide +kernel⟩
def mdX12_evaluate : ab_M := (RX12, "evaluate", cX12_evaluate, 3, none, [], dlX12_evaluate)
set_option maxRecDepth 20000 in
theorem imX12_evaluate : Cond.instanceMethod yX12_evaluate ∈ gw := gw_t10 203 rfl rfl
set_option maxRecDepth 20000 in
theorem coX12_evaluate : Cond.code yX12_evaluate cX12_evaluate 3 none ∈ gw := gw_t10 204 rfl rfl
set_option maxRecDepth 20000 in
theorem seX12_evaluate : Cond.selects RX12 yX12_evaluate yX12_evaluate ∈ gw := gw_of (List.mem_of_getElem? (i := 144) (by decide +kernel)) rfl
set_option maxRecDepth 20000 in
theorem yvX12_evaluate : ab_yV RX12 yX12_evaluate mdX12_evaluate 0 := ⟨imX12_evaluate, seX12_evaluate, iniX12, coX12_evaluate, ⟨by decide +kernel, by decide +kernel⟩, by decide +kernel⟩
def mdX12_tree : ab_M := (RX12, "tree", cX12_tree, 2, (some .int), [], dlX12_tree)
set_option maxRecDepth 20000 in
theorem imX12_tree : Cond.instanceMethod yX12_tree ∈ gw := gw_t10 190 rfl rfl
set_option maxRecDepth 20000 in
theorem coX12_tree : Cond.code yX12_tree cX12_tree 2 (some .int) ∈ gw := gw_t10 192 rfl rfl
set_option maxRecDepth 20000 in
theorem seX12_tree : Cond.selects RX12 yX12_tree yX12_tree ∈ gw := gw_t10 191 rfl rfl
set_option maxRecDepth 20000 in
theorem yvX12_tree : ab_yV RX12 yX12_tree mdX12_tree 0 := ⟨imX12_tree, seX12_tree, iniX12, coX12_tree, ⟨by decide +kernel, by decide +kernel⟩, by decide +kernel⟩
def mdX12_symbolOf : ab_M := (RX12, "symbolOf", cX12_symbolOf, 2, (some .int), [], dlX12_symbolOf)
set_option maxRecDepth 20000 in
theorem imX12_symbolOf : Cond.instanceMethod yX12_symbolOf ∈ gw := gw_t10 231 rfl rfl
set_option maxRecDepth 20000 in
theorem coX12_symbolOf : Cond.code yX12_symbolOf cX12_symbolOf 2 (some .int) ∈ gw := gw_t10 232 rfl rfl
set_option maxRecDepth 20000 in
theorem seX12_symbolOf : Cond.selects RX12 yX12_symbolOf yX12_symbolOf ∈ gw := gw_of (List.mem_of_getElem? (i := 150) (by decide +kernel)) rfl
set_option maxRecDepth 20000 in
theorem yvX12_symbolOf : ab_yV RX12 yX12_symbolOf mdX12_symbolOf 1 := ⟨imX12_symbolOf, seX12_symbolOf, iniX12, coX12_symbolOf, ⟨by decide +kernel, by decide +kernel⟩, by decide +kernel⟩
def mdX12_count : ab_M := (RX12, "count", cX12_count, 5, (some .int), [], dlX12_count)
set_option maxRecDepth 20000 in
theorem imX12_count : Cond.instanceMethod yX12_count ∈ gw := gw_t10 226 rfl rfl
set_option maxRecDepth 20000 in
theorem coX12_count : Cond.code yX12_count cX12_count 5 (some .int) ∈ gw := gw_t10 228 rfl rfl
set_option maxRecDepth 20000 in
theorem seX12_count : Cond.selects RX12 yX12_count yX12_count ∈ gw := gw_t10 227 rfl rfl
set_option maxRecDepth 20000 in
theorem yvX12_count : ab_yV RX12 yX12_count mdX12_count 1 := ⟨imX12_count, seX12_count, iniX12, coX12_count, ⟨by decide +kernel, by decide +kernel⟩, by decide +kernel⟩
def mdX12_isNode : ab_M := (RX12, "isNode", cX12_isNode, 2, (some .boolean), [], dlX12_isNode)
set_option maxRecDepth 20000 in
theorem imX12_isNode : Cond.instanceMethod yX12_isNode ∈ gw := gw_t11 7 rfl rfl
set_option maxRecDepth 20000 in
theorem coX12_isNode : Cond.code yX12_isNode cX12_isNode 2 (some .boolean) ∈ gw := gw_t11 8 rfl rfl
set_option maxRecDepth 20000 in
theorem seX12_isNode : Cond.selects RX12 yX12_isNode yX12_isNode ∈ gw := gw_of (List.mem_of_getElem? (i := 153) (by decide +kernel)) rfl
set_option maxRecDepth 20000 in
theorem yvX12_isNode : ab_yV RX12 yX12_isNode mdX12_isNode 1 := ⟨imX12_isNode, seX12_isNode, iniX12, coX12_isNode, ⟨by decide +kernel, by decide +kernel⟩, by decide +kernel⟩
def mdX12_node : ab_M := (RX12, "node", cX12_node, 4, (some .int), [], dlX12_node)
set_option maxRecDepth 20000 in
theorem imX12_node : Cond.instanceMethod yX12_node ∈ gw := gw_t11 2 rfl rfl
set_option maxRecDepth 20000 in
theorem coX12_node : Cond.code yX12_node cX12_node 4 (some .int) ∈ gw := gw_t11 4 rfl rfl
set_option maxRecDepth 20000 in
theorem seX12_node : Cond.selects RX12 yX12_node yX12_node ∈ gw := gw_t11 3 rfl rfl
set_option maxRecDepth 20000 in
theorem yvX12_node : ab_yV RX12 yX12_node mdX12_node 2 := ⟨imX12_node, seX12_node, iniX12, coX12_node, ⟨by decide +kernel, by decide +kernel⟩, by decide +kernel⟩
def mdX12_value : ab_M := (RX12, "value", cX12_value, 4, (some .int), [], dlX12_value)
set_option maxRecDepth 20000 in
theorem imX12_value : Cond.instanceMethod yX12_value ∈ gw := gw_t11 10 rfl rfl
set_option maxRecDepth 20000 in
theorem coX12_value : Cond.code yX12_value cX12_value 4 (some .int) ∈ gw := gw_t11 12 rfl rfl
set_option maxRecDepth 20000 in
theorem seX12_value : Cond.selects RX12 yX12_value yX12_value ∈ gw := gw_t11 11 rfl rfl
set_option maxRecDepth 20000 in
theorem yvX12_value : ab_yV RX12 yX12_value mdX12_value 2 := ⟨imX12_value, seX12_value, iniX12, coX12_value, ⟨by decide +kernel, by decide +kernel⟩, by decide +kernel⟩
def mdX12_change : ab_M := (RX12, "change", cX12_change, 6, (some .int), [], dlX12_change)
set_option maxRecDepth 20000 in
theorem imX12_change : Cond.instanceMethod yX12_change ∈ gw := gw_t11 14 rfl rfl
set_option maxRecDepth 20000 in
theorem coX12_change : Cond.code yX12_change cX12_change 6 (some .int) ∈ gw := gw_t11 16 rfl rfl
set_option maxRecDepth 20000 in
theorem seX12_change : Cond.selects RX12 yX12_change yX12_change ∈ gw := gw_t11 15 rfl rfl
set_option maxRecDepth 20000 in
theorem yvX12_change : ab_yV RX12 yX12_change mdX12_change 2 := ⟨imX12_change, seX12_change, iniX12, coX12_change, ⟨by decide +kernel, by decide +kernel⟩, by decide +kernel⟩
def mdX12_code : ab_M := (RX12, "code", cX12_code, 4, (some .int), [], dlX12_code)
set_option maxRecDepth 20000 in
theorem imX12_code : Cond.instanceMethod yX12_code ∈ gw := gw_t11 18 rfl rfl
set_option maxRecDepth 20000 in
theorem coX12_code : Cond.code yX12_code cX12_code 4 (some .int) ∈ gw := gw_t11 20 rfl rfl
set_option maxRecDepth 20000 in
theorem seX12_code : Cond.selects RX12 yX12_code yX12_code ∈ gw := gw_t11 19 rfl rfl
set_option maxRecDepth 20000 in
theorem yvX12_code : ab_yV RX12 yX12_code mdX12_code 2 := ⟨imX12_code, seX12_code, iniX12, coX12_code, ⟨by decide +kernel, by decide +kernel⟩, by decide +kernel⟩
def mdX12_start : ab_M := (RX12, "start", cX12_start, 5, (some .int), [], dlX12_start)
set_option maxRecDepth 20000 in
theorem imX12_start : Cond.instanceMethod yX12_start ∈ gw := gw_t11 22 rfl rfl
set_option maxRecDepth 20000 in
theorem coX12_start : Cond.code yX12_start cX12_start 5 (some .int) ∈ gw := gw_t11 24 rfl rfl
set_option maxRecDepth 20000 in
theorem seX12_start : Cond.selects RX12 yX12_start yX12_start ∈ gw := gw_t11 23 rfl rfl
set_option maxRecDepth 20000 in
theorem yvX12_start : ab_yV RX12 yX12_start mdX12_start 2 := ⟨imX12_start, seX12_start, iniX12, coX12_start, ⟨by decide +kernel, by decide +kernel⟩, by decide +kernel⟩
def mdX12_visits : ab_M := (RX12, "visits", cX12_visits, 2, none, [], dlX12_visits)
set_option maxRecDepth 20000 in
theorem imX12_visits : Cond.instanceMethod yX12_visits ∈ gw := gw_t11 31 rfl rfl
set_option maxRecDepth 20000 in
theorem coX12_visits : Cond.code yX12_visits cX12_visits 2 none ∈ gw := gw_t11 32 rfl rfl
set_option maxRecDepth 20000 in
theorem seX12_visits : Cond.selects RX12 yX12_visits yX12_visits ∈ gw := gw_of (List.mem_of_getElem? (i := 154) (by decide +kernel)) rfl
set_option maxRecDepth 20000 in
theorem yvX12_visits : ab_yV RX12 yX12_visits mdX12_visits 1 := ⟨imX12_visits, seX12_visits, iniX12, coX12_visits, ⟨by decide +kernel, by decide +kernel⟩, by decide +kernel⟩
def mdX12_begin : ab_M := (RX12, "begin", cX12_begin, 2, (some .int), [], dlX12_begin)
set_option maxRecDepth 20000 in
theorem imX12_begin : Cond.instanceMethod yX12_begin ∈ gw := gw_t11 26 rfl rfl
set_option maxRecDepth 20000 in
theorem coX12_begin : Cond.code yX12_begin cX12_begin 2 (some .int) ∈ gw := gw_t11 28 rfl rfl
set_option maxRecDepth 20000 in
theorem seX12_begin : Cond.selects RX12 yX12_begin yX12_begin ∈ gw := gw_t11 27 rfl rfl
set_option maxRecDepth 20000 in
theorem yvX12_begin : ab_yV RX12 yX12_begin mdX12_begin 0 := ⟨imX12_begin, seX12_begin, iniX12, coX12_begin, ⟨by decide +kernel, by decide +kernel⟩, by decide +kernel⟩
def mdX12_pushes : ab_M := (RX12, "pushes", cX12_pushes, 3, none, [], dlX12_pushes)
set_option maxRecDepth 20000 in
theorem imX12_pushes : Cond.instanceMethod yX12_pushes ∈ gw := gw_t11 52 rfl rfl
set_option maxRecDepth 20000 in
theorem coX12_pushes : Cond.code yX12_pushes cX12_pushes 3 none ∈ gw := gw_t11 53 rfl rfl
set_option maxRecDepth 20000 in
theorem seX12_pushes : Cond.selects RX12 yX12_pushes yX12_pushes ∈ gw := gw_of (List.mem_of_getElem? (i := 158) (by decide +kernel)) rfl
set_option maxRecDepth 20000 in
theorem yvX12_pushes : ab_yV RX12 yX12_pushes mdX12_pushes 2 := ⟨imX12_pushes, seX12_pushes, iniX12, coX12_pushes, ⟨by decide +kernel, by decide +kernel⟩, by decide +kernel⟩
def mdX12_inFrame : ab_M := (RX12, "inFrame", cX12_inFrame, 9, (some .int), [], dlX12_inFrame)
set_option maxRecDepth 20000 in
theorem imX12_inFrame : Cond.instanceMethod yX12_inFrame ∈ gw := gw_t11 60 rfl rfl
set_option maxRecDepth 20000 in
theorem coX12_inFrame : Cond.code yX12_inFrame cX12_inFrame 9 (some .int) ∈ gw := gw_t11 61 rfl rfl
set_option maxRecDepth 20000 in
theorem seX12_inFrame : Cond.selects RX12 yX12_inFrame yX12_inFrame ∈ gw := gw_of (List.mem_of_getElem? (i := 160) (by decide +kernel)) rfl
set_option maxRecDepth 20000 in
theorem yvX12_inFrame : ab_yV RX12 yX12_inFrame mdX12_inFrame 2 := ⟨imX12_inFrame, seX12_inFrame, iniX12, coX12_inFrame, ⟨by decide +kernel, by decide +kernel⟩, by decide +kernel⟩
def mdX12_above : ab_M := (RX12, "above", cX12_above, 8, (some .int), [], dlX12_above)
set_option maxRecDepth 20000 in
theorem imX12_above : Cond.instanceMethod yX12_above ∈ gw := gw_t11 64 rfl rfl
set_option maxRecDepth 20000 in
theorem coX12_above : Cond.code yX12_above cX12_above 8 (some .int) ∈ gw := gw_t11 65 rfl rfl
set_option maxRecDepth 20000 in
theorem seX12_above : Cond.selects RX12 yX12_above yX12_above ∈ gw := gw_of (List.mem_of_getElem? (i := 161) (by decide +kernel)) rfl
set_option maxRecDepth 20000 in
theorem yvX12_above : ab_yV RX12 yX12_above mdX12_above 2 := ⟨imX12_above, seX12_above, iniX12, coX12_above, ⟨by decide +kernel, by decide +kernel⟩, by decide +kernel⟩
def mdX12_placeOf : ab_M := (RX12, "placeOf", cX12_placeOf, 4, (some .int), [], dlX12_placeOf)
set_option maxRecDepth 20000 in
theorem imX12_placeOf : Cond.instanceMethod yX12_placeOf ∈ gw := gw_t11 56 rfl rfl
set_option maxRecDepth 20000 in
theorem coX12_placeOf : Cond.code yX12_placeOf cX12_placeOf 4 (some .int) ∈ gw := gw_t11 57 rfl rfl
set_option maxRecDepth 20000 in
theorem seX12_placeOf : Cond.selects RX12 yX12_placeOf yX12_placeOf ∈ gw := gw_of (List.mem_of_getElem? (i := 159) (by decide +kernel)) rfl
set_option maxRecDepth 20000 in
theorem yvX12_placeOf : ab_yV RX12 yX12_placeOf mdX12_placeOf 3 := ⟨imX12_placeOf, seX12_placeOf, iniX12, coX12_placeOf, ⟨by decide +kernel, by decide +kernel⟩, by decide +kernel⟩
def mdX12_backs : ab_M := (RX12, "backs", cX12_backs, 2, none, [], dlX12_backs)
set_option maxRecDepth 20000 in
theorem imX12_backs : Cond.instanceMethod yX12_backs ∈ gw := gw_t11 48 rfl rfl
set_option maxRecDepth 20000 in
theorem coX12_backs : Cond.code yX12_backs cX12_backs 2 none ∈ gw := gw_t11 49 rfl rfl
set_option maxRecDepth 20000 in
theorem seX12_backs : Cond.selects RX12 yX12_backs yX12_backs ∈ gw := gw_of (List.mem_of_getElem? (i := 157) (by decide +kernel)) rfl
set_option maxRecDepth 20000 in
theorem yvX12_backs : ab_yV RX12 yX12_backs mdX12_backs 0 := ⟨imX12_backs, seX12_backs, iniX12, coX12_backs, ⟨by decide +kernel, by decide +kernel⟩, by decide +kernel⟩
def mdX12_test : ab_M := (RX12, "test", cX12_test, 2, none, [], dlX12_test)
set_option maxRecDepth 20000 in
theorem imX12_test : Cond.instanceMethod yX12_test ∈ gw := gw_t11 44 rfl rfl
set_option maxRecDepth 20000 in
theorem coX12_test : Cond.code yX12_test cX12_test 2 none ∈ gw := gw_t11 45 rfl rfl
set_option maxRecDepth 20000 in
theorem seX12_test : Cond.selects RX12 yX12_test yX12_test ∈ gw := gw_of (List.mem_of_getElem? (i := 156) (by decide +kernel)) rfl
set_option maxRecDepth 20000 in
theorem yvX12_test : ab_yV RX12 yX12_test mdX12_test 1 := ⟨imX12_test, seX12_test, iniX12, coX12_test, ⟨by decide +kernel, by decide +kernel⟩, by decide +kernel⟩
def mdX12_works : ab_M := (RX12, "works", cX12_works, 4, none, [], dlX12_works)
set_option maxRecDepth 20000 in
theorem imX12_works : Cond.instanceMethod yX12_works ∈ gw := gw_t11 68 rfl rfl
set_option maxRecDepth 20000 in
theorem coX12_works : Cond.code yX12_works cX12_works 4 none ∈ gw := gw_t11 69 rfl rfl
set_option maxRecDepth 20000 in
theorem seX12_works : Cond.selects RX12 yX12_works yX12_works ∈ gw := gw_of (List.mem_of_getElem? (i := 162) (by decide +kernel)) rfl
set_option maxRecDepth 20000 in
theorem yvX12_works : ab_yV RX12 yX12_works mdX12_works 1 := ⟨imX12_works, seX12_works, iniX12, coX12_works, ⟨by decide +kernel, by decide +kernel⟩, by decide +kernel⟩
def mdX12_one : ab_M := (RX12, "one", cX12_one, 6, none, [], dlX12_one)
set_option maxRecDepth 20000 in
theorem imX12_one : Cond.instanceMethod yX12_one ∈ gw := gw_t11 40 rfl rfl
set_option maxRecDepth 20000 in
theorem coX12_one : Cond.code yX12_one cX12_one 6 none ∈ gw := gw_t11 41 rfl rfl
set_option maxRecDepth 20000 in
theorem seX12_one : Cond.selects RX12 yX12_one yX12_one ∈ gw := gw_of (List.mem_of_getElem? (i := 155) (by decide +kernel)) rfl
set_option maxRecDepth 20000 in
theorem yvX12_one : ab_yV RX12 yX12_one mdX12_one 0 := ⟨imX12_one, seX12_one, iniX12, coX12_one, ⟨by decide +kernel, by decide +kernel⟩, by decide +kernel⟩
def mdX12_step : ab_M := (RX12, "step", cX12_step, 3, (some .int), [], dlX12_step)
set_option maxRecDepth 20000 in
theorem imX12_step : Cond.instanceMethod yX12_step ∈ gw := gw_t11 34 rfl rfl
set_option maxRecDepth 20000 in
theorem coX12_step : Cond.code yX12_step cX12_step 3 (some .int) ∈ gw := gw_t11 36 rfl rfl
set_option maxRecDepth 20000 in
theorem seX12_step : Cond.selects RX12 yX12_step yX12_step ∈ gw := gw_t11 35 rfl rfl
set_option maxRecDepth 20000 in
theorem yvX12_step : ab_yV RX12 yX12_step mdX12_step 1 := ⟨imX12_step, seX12_step, iniX12, coX12_step, ⟨by decide +kernel, by decide +kernel⟩, by decide +kernel⟩
def mdX12_machine : ab_M := (RX12, "machine", cX12_machine, 2, (some .int), [], dlX12_machine)
set_option maxRecDepth 20000 in
theorem imX12_machine : Cond.instanceMethod yX12_machine ∈ gw := gw_t11 71 rfl rfl
set_option maxRecDepth 20000 in
theorem coX12_machine : Cond.code yX12_machine cX12_machine 2 (some .int) ∈ gw := gw_t11 73 rfl rfl
set_option maxRecDepth 20000 in
theorem seX12_machine : Cond.selects RX12 yX12_machine yX12_machine ∈ gw := gw_t11 72 rfl rfl
set_option maxRecDepth 20000 in
theorem yvX12_machine : ab_yV RX12 yX12_machine mdX12_machine 1 := ⟨imX12_machine, seX12_machine, iniX12, coX12_machine, ⟨by decide +kernel, by decide +kernel⟩, by decide +kernel⟩
def mdX12_alone : ab_M := (RX12, "alone", cX12_alone, 4, (some .int), [], dlX12_alone)
set_option maxRecDepth 20000 in
theorem imX12_alone : Cond.instanceMethod yX12_alone ∈ gw := gw_t11 75 rfl rfl
set_option maxRecDepth 20000 in
theorem coX12_alone : Cond.code yX12_alone cX12_alone 4 (some .int) ∈ gw := gw_t11 77 rfl rfl
set_option maxRecDepth 20000 in
theorem seX12_alone : Cond.selects RX12 yX12_alone yX12_alone ∈ gw := gw_t11 76 rfl rfl
set_option maxRecDepth 20000 in
theorem yvX12_alone : ab_yV RX12 yX12_alone mdX12_alone 1 := ⟨imX12_alone, seX12_alone, iniX12, coX12_alone, ⟨by decide +kernel, by decide +kernel⟩, by decide +kernel⟩
def mdX12_top : ab_M := (RX12, "top", cX12_top, 3, (some .int), [], dlX12_top)
set_option maxRecDepth 20000 in
theorem imX12_top : Cond.instanceMethod yX12_top ∈ gw := gw_t11 79 rfl rfl
set_option maxRecDepth 20000 in
theorem coX12_top : Cond.code yX12_top cX12_top 3 (some .int) ∈ gw := gw_t11 81 rfl rfl
set_option maxRecDepth 20000 in
theorem seX12_top : Cond.selects RX12 yX12_top yX12_top ∈ gw := gw_t11 80 rfl rfl
set_option maxRecDepth 20000 in
theorem yvX12_top : ab_yV RX12 yX12_top mdX12_top 1 := ⟨imX12_top, seX12_top, iniX12, coX12_top, ⟨by decide +kernel, by decide +kernel⟩, by decide +kernel⟩
def mdX12_held : ab_M := (RX12, "held", cX12_held, 5, (some .int), [], dlX12_held)
set_option maxRecDepth 20000 in
theorem imX12_held : Cond.instanceMethod yX12_held ∈ gw := gw_t11 83 rfl rfl
set_option maxRecDepth 20000 in
theorem coX12_held : Cond.code yX12_held cX12_held 5 (some .int) ∈ gw := gw_t11 85 rfl rfl
set_option maxRecDepth 20000 in
theorem seX12_held : Cond.selects RX12 yX12_held yX12_held ∈ gw := gw_t11 84 rfl rfl
set_option maxRecDepth 20000 in
theorem yvX12_held : ab_yV RX12 yX12_held mdX12_held 2 := ⟨imX12_held, seX12_held, iniX12, coX12_held, ⟨by decide +kernel, by decide +kernel⟩, by decide +kernel⟩
def mdJ7_copyOf_9075b : ab_M := (RJ7, "copyOf", cJ7_copyOf_9075b, 3, (some (.array .byte)), [], dlJ7_copyOf_9075b)
set_option maxRecDepth 20000 in
theorem smJ7_copyOf_9075b : Cond.static yJ7_copyOf_9075b ∈ gw := gw_t4 125 rfl rfl
set_option maxRecDepth 20000 in
theorem coJ7_copyOf_9075b : Cond.code yJ7_copyOf_9075b cJ7_copyOf_9075b 3 (some (.array .byte)) ∈ gw := gw_t4 126 rfl rfl
set_option maxRecDepth 20000 in
theorem yvJ7_copyOf_9075b : ab_yS yJ7_copyOf_9075b mdJ7_copyOf_9075b 2 := ⟨smJ7_copyOf_9075b, iniJ7, coJ7_copyOf_9075b, ⟨by decide +kernel, by decide +kernel⟩, by decide +kernel⟩
def mdJ7_checkLength_df160 : ab_M := (RJ7, "checkLength", cJ7_checkLength_df160, 2, none, [], dlJ7_checkLength_df160)
set_option maxRecDepth 20000 in
theorem smJ7_checkLength_df160 : Cond.static yJ7_checkLength_df160 ∈ gw := gw_t5 5 rfl rfl
set_option maxRecDepth 20000 in
theorem coJ7_checkLength_df160 : Cond.code yJ7_checkLength_df160 cJ7_checkLength_df160 2 none ∈ gw := gw_t5 6 rfl rfl
set_option maxRecDepth 20000 in
theorem yvJ7_checkLength_df160 : ab_yS yJ7_checkLength_df160 mdJ7_checkLength_df160 2 := ⟨smJ7_checkLength_df160, iniJ7, coJ7_checkLength_df160, ⟨by decide +kernel, by decide +kernel⟩, by decide +kernel⟩
def mdJ7_copyOfRangeByte_39247 : ab_M := (RJ7, "copyOfRangeByte", cJ7_copyOfRangeByte_39247, 5, (some (.array .byte)), [], dlJ7_copyOfRangeByte_39247)
set_option maxRecDepth 20000 in
theorem smJ7_copyOfRangeByte_39247 : Cond.static yJ7_copyOfRangeByte_39247 ∈ gw := gw_t5 2 rfl rfl
set_option maxRecDepth 20000 in
theorem coJ7_copyOfRangeByte_39247 : Cond.code yJ7_copyOfRangeByte_39247 cJ7_copyOfRangeByte_39247 5 (some (.array .byte)) ∈ gw := gw_t5 3 rfl rfl
set_option maxRecDepth 20000 in
theorem yvJ7_copyOfRangeByte_39247 : ab_yS yJ7_copyOfRangeByte_39247 mdJ7_copyOfRangeByte_39247 3 := ⟨smJ7_copyOfRangeByte_39247, iniJ7, coJ7_copyOfRangeByte_39247, ⟨by decide +kernel, by decide +kernel⟩, by decide +kernel⟩
def mdJ7_copyOfRange_39247 : ab_M := (RJ7, "copyOfRange", cJ7_copyOfRange_39247, 3, (some (.array .byte)), [], dlJ7_copyOfRange_39247)
set_option maxRecDepth 20000 in
theorem smJ7_copyOfRange_39247 : Cond.static yJ7_copyOfRange_39247 ∈ gw := gw_t4 239 rfl rfl
set_option maxRecDepth 20000 in
theorem coJ7_copyOfRange_39247 : Cond.code yJ7_copyOfRange_39247 cJ7_copyOfRange_39247 3 (some (.array .byte)) ∈ gw := gw_t5 0 rfl rfl
set_option maxRecDepth 20000 in
theorem yvJ7_copyOfRange_39247 : ab_yS yJ7_copyOfRange_39247 mdJ7_copyOfRange_39247 3 := ⟨smJ7_copyOfRange_39247, iniJ7, coJ7_copyOfRange_39247, ⟨by decide +kernel, by decide +kernel⟩, by decide +kernel⟩
def mdL_put : ab_M := (RL, "put", cL_put, 4, (some .int), [(0, 9, 12, 13), (0, 9, 15, 15)], dlL_put)
set_option maxRecDepth 20000 in
theorem smL_put : Cond.static yL_put ∈ gw := gw_t6 119 rfl rfl
set_option maxRecDepth 20000 in
theorem coL_put : Cond.codeWith yL_put cL_put 4 (some .int) [(0, 9, 12, 13), (0, 9, 15, 15)] ∈ gw := gw_t6 120 rfl rfl
set_option maxRecDepth 20000 in
theorem yvL_put : ab_yX yL_put mdL_put 3 := ⟨smL_put, iniL, coL_put, ⟨by decide +kernel, by decide +kernel⟩, by decide +kernel⟩
def mdL_end : ab_M := (RL, "end", cL_end, 3, (some .int), [(0, 5, 8, 13)], dlL_end)
set_option maxRecDepth 20000 in
theorem smL_end : Cond.static yL_end ∈ gw := gw_t6 161 rfl rfl
set_option maxRecDepth 20000 in
theorem coL_end : Cond.codeWith yL_end cL_end 3 (some .int) [(0, 5, 8, 13)] ∈ gw := gw_t6 162 rfl rfl
set_option maxRecDepth 20000 in
theorem yvL_end : ab_yX yL_end mdL_end 2 := ⟨smL_end, iniL, coL_end, ⟨by decide +kernel, by decide +kernel⟩, by decide +kernel⟩
def mdL_size : ab_M := (RL, "size", cL_size, 4, (some .int), [(0, 9, 12, 24), (0, 9, 15, 13)], dlL_size)
set_option maxRecDepth 20000 in
theorem smL_size : Cond.static yL_size ∈ gw := gw_t6 168 rfl rfl
set_option maxRecDepth 20000 in
theorem coL_size : Cond.codeWith yL_size cL_size 4 (some .int) [(0, 9, 12, 24), (0, 9, 15, 13)] ∈ gw := gw_t6 169 rfl rfl
set_option maxRecDepth 20000 in
theorem yvL_size : ab_yX yL_size mdL_size 3 := ⟨smL_size, iniL, coL_size, ⟨by decide +kernel, by decide +kernel⟩, by decide +kernel⟩
def mdL_depends : ab_M := (RL, "depends", cL_depends, 6, (some .int), [(0, 19, 22, 24), (0, 19, 26, 13)], dlL_depends)
set_option maxRecDepth 20000 in
theorem smL_depends : Cond.static yL_depends ∈ gw := gw_t6 195 rfl rfl
set_option maxRecDepth 20000 in
theorem coL_depends : Cond.codeWith yL_depends cL_depends 6 (some .int) [(0, 19, 22, 24), (0, 19, 26, 13)] ∈ gw := gw_t6 196 rfl rfl
set_option maxRecDepth 20000 in
theorem yvL_depends : ab_yX yL_depends mdL_depends 5 := ⟨smL_depends, iniL, coL_depends, ⟨by decide +kernel, by decide +kernel⟩, by decide +kernel⟩
def mdL_level : ab_M := (RL, "level", cL_level, 5, (some .int), [(0, 10, 13, 24), (0, 10, 17, 13)], dlL_level)
set_option maxRecDepth 20000 in
theorem smL_level : Cond.static yL_level ∈ gw := gw_t6 210 rfl rfl
set_option maxRecDepth 20000 in
theorem coL_level : Cond.codeWith yL_level cL_level 5 (some .int) [(0, 10, 13, 24), (0, 10, 17, 13)] ∈ gw := gw_t6 211 rfl rfl
set_option maxRecDepth 20000 in
theorem yvL_level : ab_yX yL_level mdL_level 4 := ⟨smL_level, iniL, coL_level, ⟨by decide +kernel, by decide +kernel⟩, by decide +kernel⟩
def mdL_plan : ab_M := (RL, "plan", cL_plan, 6, (some .int), [(0, 12, 15, 24), (0, 12, 19, 13)], dlL_plan)
set_option maxRecDepth 20000 in
theorem smL_plan : Cond.static yL_plan ∈ gw := gw_t6 217 rfl rfl
set_option maxRecDepth 20000 in
theorem coL_plan : Cond.codeWith yL_plan cL_plan 6 (some .int) [(0, 12, 15, 24), (0, 12, 19, 13)] ∈ gw := gw_t6 218 rfl rfl
set_option maxRecDepth 20000 in
theorem yvL_plan : ab_yX yL_plan mdL_plan 5 := ⟨smL_plan, iniL, coL_plan, ⟨by decide +kernel, by decide +kernel⟩, by decide +kernel⟩
def mdL_store : ab_M := (RL, "store", cL_store, 5, (some .int), [(0, 10, 13, 24), (0, 10, 17, 13)], dlL_store)
set_option maxRecDepth 20000 in
theorem smL_store : Cond.static yL_store ∈ gw := gw_t6 234 rfl rfl
set_option maxRecDepth 20000 in
theorem coL_store : Cond.codeWith yL_store cL_store 5 (some .int) [(0, 10, 13, 24), (0, 10, 17, 13)] ∈ gw := gw_t6 235 rfl rfl
set_option maxRecDepth 20000 in
theorem yvL_store : ab_yX yL_store mdL_store 4 := ⟨smL_store, iniL, coL_store, ⟨by decide +kernel, by decide +kernel⟩, by decide +kernel⟩
def mdL_tree : ab_M := (RL, "tree", cL_tree, 3, (some .int), [(0, 8, 11, 24)], dlL_tree)
set_option maxRecDepth 20000 in
theorem smL_tree : Cond.static yL_tree ∈ gw := gw_t7 1 rfl rfl
set_option maxRecDepth 20000 in
theorem coL_tree : Cond.codeWith yL_tree cL_tree 3 (some .int) [(0, 8, 11, 24)] ∈ gw := gw_t7 2 rfl rfl
set_option maxRecDepth 20000 in
theorem yvL_tree : ab_yX yL_tree mdL_tree 2 := ⟨smL_tree, iniL, coL_tree, ⟨by decide +kernel, by decide +kernel⟩, by decide +kernel⟩
def mdL_count : ab_M := (RL, "count", cL_count, 4, (some .int), [(0, 9, 12, 24), (0, 9, 15, 13)], dlL_count)
set_option maxRecDepth 20000 in
theorem smL_count : Cond.static yL_count ∈ gw := gw_t7 103 rfl rfl
set_option maxRecDepth 20000 in
theorem coL_count : Cond.codeWith yL_count cL_count 4 (some .int) [(0, 9, 12, 24), (0, 9, 15, 13)] ∈ gw := gw_t7 104 rfl rfl
set_option maxRecDepth 20000 in
theorem yvL_count : ab_yX yL_count mdL_count 3 := ⟨smL_count, iniL, coL_count, ⟨by decide +kernel, by decide +kernel⟩, by decide +kernel⟩
def mdL_node : ab_M := (RL, "node", cL_node, 5, (some .int), [(0, 10, 13, 24), (0, 10, 17, 51), (0, 10, 21, 13)], dlL_node)
set_option maxRecDepth 20000 in
theorem smL_node : Cond.static yL_node ∈ gw := gw_t7 146 rfl rfl
set_option maxRecDepth 20000 in
theorem coL_node : Cond.codeWith yL_node cL_node 5 (some .int) [(0, 10, 13, 24), (0, 10, 17, 51), (0, 10, 21, 13)] ∈ gw := gw_t7 147 rfl rfl
set_option maxRecDepth 20000 in
theorem yvL_node : ab_yX yL_node mdL_node 4 := ⟨smL_node, iniL, coL_node, ⟨by decide +kernel, by decide +kernel⟩, by decide +kernel⟩
def mdL_value : ab_M := (RL, "value", cL_value, 5, (some .int), [(0, 10, 13, 24), (0, 10, 17, 51), (0, 10, 21, 56)], dlL_value)
set_option maxRecDepth 20000 in
theorem smL_value : Cond.static yL_value ∈ gw := gw_t7 176 rfl rfl
set_option maxRecDepth 20000 in
theorem coL_value : Cond.codeWith yL_value cL_value 5 (some .int) [(0, 10, 13, 24), (0, 10, 17, 51), (0, 10, 21, 56)] ∈ gw := gw_t7 177 rfl rfl
set_option maxRecDepth 20000 in
theorem yvL_value : ab_yX yL_value mdL_value 4 := ⟨smL_value, iniL, coL_value, ⟨by decide +kernel, by decide +kernel⟩, by decide +kernel⟩
def mdL_change : ab_M := (RL, "change", cL_change, 5, (some .int), [(0, 10, 13, 24), (0, 10, 17, 51), (0, 10, 21, 13)], dlL_change)
set_option maxRecDepth 20000 in
theorem smL_change : Cond.static yL_change ∈ gw := gw_t7 206 rfl rfl
set_option maxRecDepth 20000 in
theorem coL_change : Cond.codeWith yL_change cL_change 5 (some .int) [(0, 10, 13, 24), (0, 10, 17, 51), (0, 10, 21, 13)] ∈ gw := gw_t7 207 rfl rfl
set_option maxRecDepth 20000 in
theorem yvL_change : ab_yX yL_change mdL_change 4 := ⟨smL_change, iniL, coL_change, ⟨by decide +kernel, by decide +kernel⟩, by decide +kernel⟩
def mdL_visit : ab_M := (RL, "visit", cL_visit, 5, (some .int), [(0, 10, 13, 24), (0, 10, 17, 13)], dlL_visit)
set_option maxRecDepth 20000 in
theorem smL_visit : Cond.static yL_visit ∈ gw := gw_t7 218 rfl rfl
set_option maxRecDepth 20000 in
theorem coL_visit : Cond.codeWith yL_visit cL_visit 5 (some .int) [(0, 10, 13, 24), (0, 10, 17, 13)] ∈ gw := gw_t7 219 rfl rfl
set_option maxRecDepth 20000 in
theorem yvL_visit : ab_yX yL_visit mdL_visit 4 := ⟨smL_visit, iniL, coL_visit, ⟨by decide +kernel, by decide +kernel⟩, by decide +kernel⟩
def mdL_code : ab_M := (RL, "code", cL_code, 5, (some .int), [(0, 10, 13, 24), (0, 10, 17, 51), (0, 10, 21, 13)], dlL_code)
set_option maxRecDepth 20000 in
theorem smL_code : Cond.static yL_code ∈ gw := gw_t7 227 rfl rfl
set_option maxRecDepth 20000 in
theorem coL_code : Cond.codeWith yL_code cL_code 5 (some .int) [(0, 10, 13, 24), (0, 10, 17, 51), (0, 10, 21, 13)] ∈ gw := gw_t7 228 rfl rfl
set_option maxRecDepth 20000 in
theorem yvL_code : ab_yX yL_code mdL_code 4 := ⟨smL_code, iniL, coL_code, ⟨by decide +kernel, by decide +kernel⟩, by decide +kernel⟩
def mdL_start : ab_M := (RL, "start", cL_start, 5, (some .int), [(0, 10, 13, 24), (0, 10, 17, 13)], dlL_start)
set_option maxRecDepth 20000 in
theorem smL_start : Cond.static yL_start ∈ gw := gw_t7 234 rfl rfl
set_option maxRecDepth 20000 in
theorem coL_start : Cond.codeWith yL_start cL_start 5 (some .int) [(0, 10, 13, 24), (0, 10, 17, 13)] ∈ gw := gw_t7 235 rfl rfl
set_option maxRecDepth 20000 in
theorem yvL_start : ab_yX yL_start mdL_start 4 := ⟨smL_start, iniL, coL_start, ⟨by decide +kernel, by decide +kernel⟩, by decide +kernel⟩
def mdL_begin : ab_M := (RL, "begin", cL_begin, 3, (some .int), [(0, 8, 11, 24)], dlL_begin)
set_option maxRecDepth 20000 in
theorem smL_begin : Cond.static yL_begin ∈ gw := gw_t8 2 rfl rfl
set_option maxRecDepth 20000 in
theorem coL_begin : Cond.codeWith yL_begin cL_begin 3 (some .int) [(0, 8, 11, 24)] ∈ gw := gw_t8 3 rfl rfl
set_option maxRecDepth 20000 in
theorem yvL_begin : ab_yX yL_begin mdL_begin 2 := ⟨smL_begin, iniL, coL_begin, ⟨by decide +kernel, by decide +kernel⟩, by decide +kernel⟩
def mdL_step : ab_M := (RL, "step", cL_step, 4, (some .int), [(0, 9, 12, 24), (0, 9, 15, 13)], dlL_step)
set_option maxRecDepth 20000 in
theorem smL_step : Cond.static yL_step ∈ gw := gw_t8 9 rfl rfl
set_option maxRecDepth 20000 in
theorem coL_step : Cond.codeWith yL_step cL_step 4 (some .int) [(0, 9, 12, 24), (0, 9, 15, 13)] ∈ gw := gw_t8 10 rfl rfl
set_option maxRecDepth 20000 in
theorem yvL_step : ab_yX yL_step mdL_step 3 := ⟨smL_step, iniL, coL_step, ⟨by decide +kernel, by decide +kernel⟩, by decide +kernel⟩
def mdL_machine : ab_M := (RL, "machine", cL_machine, 4, (some .int), [(0, 9, 12, 24), (0, 9, 15, 13)], dlL_machine)
set_option maxRecDepth 20000 in
theorem smL_machine : Cond.static yL_machine ∈ gw := gw_t8 21 rfl rfl
set_option maxRecDepth 20000 in
theorem coL_machine : Cond.codeWith yL_machine cL_machine 4 (some .int) [(0, 9, 12, 24), (0, 9, 15, 13)] ∈ gw := gw_t8 22 rfl rfl
set_option maxRecDepth 20000 in
theorem yvL_machine : ab_yX yL_machine mdL_machine 3 := ⟨smL_machine, iniL, coL_machine, ⟨by decide +kernel, by decide +kernel⟩, by decide +kernel⟩
def mdL_alone : ab_M := (RL, "alone", cL_alone, 4, (some .int), [(0, 9, 12, 24), (0, 9, 15, 51), (0, 9, 18, 56)], dlL_alone)
set_option maxRecDepth 20000 in
theorem smL_alone : Cond.static yL_alone ∈ gw := gw_t8 32 rfl rfl
set_option maxRecDepth 20000 in
theorem coL_alone : Cond.codeWith yL_alone cL_alone 4 (some .int) [(0, 9, 12, 24), (0, 9, 15, 51), (0, 9, 18, 56)] ∈ gw := gw_t8 33 rfl rfl
set_option maxRecDepth 20000 in
theorem yvL_alone : ab_yX yL_alone mdL_alone 3 := ⟨smL_alone, iniL, coL_alone, ⟨by decide +kernel, by decide +kernel⟩, by decide +kernel⟩
def mdL_top : ab_M := (RL, "top", cL_top, 4, (some .int), [(0, 9, 12, 24), (0, 9, 15, 51), (0, 9, 18, 56)], dlL_top)
set_option maxRecDepth 20000 in
theorem smL_top : Cond.static yL_top ∈ gw := gw_t8 39 rfl rfl
set_option maxRecDepth 20000 in
theorem coL_top : Cond.codeWith yL_top cL_top 4 (some .int) [(0, 9, 12, 24), (0, 9, 15, 51), (0, 9, 18, 56)] ∈ gw := gw_t8 40 rfl rfl
set_option maxRecDepth 20000 in
theorem yvL_top : ab_yX yL_top mdL_top 3 := ⟨smL_top, iniL, coL_top, ⟨by decide +kernel, by decide +kernel⟩, by decide +kernel⟩
def mdL_held : ab_M := (RL, "held", cL_held, 5, (some .int), [(0, 10, 13, 24), (0, 10, 17, 51), (0, 10, 21, 13), (0, 10, 25, 56)], dlL_held)
set_option maxRecDepth 20000 in
theorem smL_held : Cond.static yL_held ∈ gw := gw_t8 46 rfl rfl
set_option maxRecDepth 20000 in
theorem coL_held : Cond.codeWith yL_held cL_held 5 (some .int) [(0, 10, 13, 24), (0, 10, 17, 51), (0, 10, 21, 13), (0, 10, 25, 56)] ∈ gw := gw_t8 47 rfl rfl
set_option maxRecDepth 20000 in
theorem yvL_held : ab_yX yL_held mdL_held 4 := ⟨smL_held, iniL, coL_held, ⟨by decide +kernel, by decide +kernel⟩, by decide +kernel⟩
set_option maxRecDepth 20000 in
theorem ac_n : Cond.native arraycopyName ∈ gw := gw_t4 137 rfl rfl
set_option maxRecDepth 20000 in
theorem ac_s : Cond.static arraycopyName ∈ gw := gw_t4 136 rfl rfl
set_option maxRecDepth 20000 in
theorem ac_i : Cond.initialized "java/lang/System" ∈ gw := gw_t1 29 rfl rfl
set_option maxRecDepth 20000 in
theorem ca_IllegalState : Cond.castable "java/lang/IllegalStateException" "java/lang/IllegalStateException" ∈ ngw := List.mem_filter.mpr ⟨List.mem_of_getElem? (i := 1544) (by decide +kernel), rfl⟩
set_option maxRecDepth 20000 in
theorem ca_IllegalArgument : Cond.castable "java/lang/IllegalArgumentException" "java/lang/IllegalArgumentException" ∈ ngw := List.mem_filter.mpr ⟨List.mem_of_getElem? (i := 905) (by decide +kernel), rfl⟩
set_option maxRecDepth 20000 in
theorem ca_IndexOutOfBounds : Cond.castable "java/lang/IndexOutOfBoundsException" "java/lang/IndexOutOfBoundsException" ∈ ngw := List.mem_filter.mpr ⟨List.mem_of_getElem? (i := 1765) (by decide +kernel), rfl⟩
set_option maxRecDepth 20000 in
theorem ca_Arithmetic : Cond.castable "java/lang/ArithmeticException" "java/lang/ArithmeticException" ∈ ngw := List.mem_filter.mpr ⟨List.mem_of_getElem? (i := 1795) (by decide +kernel), rfl⟩
set_option maxRecDepth 20000 in
theorem ca_UnsupportedOperation : Cond.castable "java/lang/UnsupportedOperationException" "java/lang/UnsupportedOperationException" ∈ ngw := List.mem_filter.mpr ⟨List.mem_of_getElem? (i := 1506) (by decide +kernel), rfl⟩
set_option maxRecDepth 20000 in
theorem mx_1 : Cond.static Lib.Math.max.name ∈ gw := gw_t3 166 rfl rfl
set_option maxRecDepth 20000 in
theorem mx_2 : Cond.initialized "java/lang/Math" ∈ gw := gw_t1 23 rfl rfl
set_option maxRecDepth 20000 in
theorem mn_1 : Cond.static Lib.Math.min.name ∈ gw := gw_t3 169 rfl rfl
set_option maxRecDepth 20000 in
theorem mn_3 : Cond.code Lib.Math.min.name Lib.Math.min.code 2 (some .int) ∈ gw := gw_t3 170 rfl rfl
set_option maxRecDepth 20000 in
theorem mx_3 : Cond.code Lib.Math.max.name Lib.Math.max.code 2 (some .int) ∈ gw := gw_t3 167 rfl rfl
set_option maxRecDepth 20000 in
theorem ixX11_115 : Cond.initialized "java/lang/IllegalArgumentException" ∈ gw := gw_t1 17 rfl rfl
set_option maxRecDepth 20000 in
theorem xtX11_115 : vx_at0 RX11 117 "java/lang/IllegalArgumentException" ["java/lang/RuntimeException", "java/lang/Exception"] = [177, 925, 934, 941, 944, 946, 926, 927, 204, 205, 928, 933, 942, 1145, 915, 1146, 917, 1147, 919, 929, 931, 921, 1495, 1496, 1497, 1498, 906, 1498, 1499, 1500, 1501, 908, 1501, 1502, 1503, 926, 910, 1494, 904, 905, 912, 913, 914, 916, 918, 920, 924, 923, 922].filterMap (fun i => lw_tbl[i]?) := by decide +kernel
set_option maxRecDepth 20000 in
theorem xgX11_115 : (vx_at0 RX11 117 "java/lang/IllegalArgumentException" ["java/lang/RuntimeException", "java/lang/Exception"]).all (fun w => goodWord w || ngp w) = true := by decide +kernel
set_option maxRecDepth 20000 in
theorem xwX11_115_117 : ab_xw RX11 115 117 "java/lang/IllegalArgumentException" ["java/lang/RuntimeException", "java/lang/Exception"] := ⟨⟨klX11_115, ixX11_115, fun w h => by
  have h9 := List.all_eq_true.mp xgX11_115 w h
  have h8 : w ∈ lw_tbl := by
    rw [xtX11_115] at h
    obtain ⟨i, -, hi⟩ := List.mem_filterMap.mp h
    exact List.mem_of_getElem? hi
  simp only [Bool.or_eq_true] at h9
  exact h9.imp (fun g => gw_of h8 g) (fun g => List.mem_filter.mpr ⟨h8, g⟩)⟩, by decide +kernel, by decide +kernel, by decide +kernel⟩
set_option maxRecDepth 20000 in
theorem ixX11_122 : Cond.initialized "java/lang/UnsupportedOperationException" ∈ gw := gw_t1 18 rfl rfl
set_option maxRecDepth 20000 in
theorem xtX11_122 : vx_at0 RX11 124 "java/lang/UnsupportedOperationException" ["java/lang/RuntimeException", "java/lang/Exception"] = [177, 925, 934, 941, 944, 946, 926, 927, 204, 205, 928, 933, 942, 1145, 915, 1146, 917, 1147, 919, 929, 931, 921, 1514, 1515, 1516, 1498, 906, 1498, 1499, 1500, 1501, 908, 1501, 1502, 1503, 926, 910, 1513, 1505, 1506, 1507, 940, 1508, 1509, 1510, 1511, 924, 923, 1512].filterMap (fun i => lw_tbl[i]?) := by decide +kernel
set_option maxRecDepth 20000 in
theorem xgX11_122 : (vx_at0 RX11 124 "java/lang/UnsupportedOperationException" ["java/lang/RuntimeException", "java/lang/Exception"]).all (fun w => goodWord w || ngp w) = true := by decide +kernel
set_option maxRecDepth 20000 in
theorem xwX11_122_124 : ab_xw RX11 122 124 "java/lang/UnsupportedOperationException" ["java/lang/RuntimeException", "java/lang/Exception"] := ⟨⟨klX11_122, ixX11_122, fun w h => by
  have h9 := List.all_eq_true.mp xgX11_122 w h
  have h8 : w ∈ lw_tbl := by
    rw [xtX11_122] at h
    obtain ⟨i, -, hi⟩ := List.mem_filterMap.mp h
    exact List.mem_of_getElem? hi
  simp only [Bool.or_eq_true] at h9
  exact h9.imp (fun g => gw_of h8 g) (fun g => List.mem_filter.mpr ⟨h8, g⟩)⟩, by decide +kernel, by decide +kernel, by decide +kernel⟩
set_option maxRecDepth 20000 in
theorem ixX11_348 : Cond.initialized "java/lang/IllegalStateException" ∈ gw := gw_t1 33 rfl rfl
set_option maxRecDepth 20000 in
theorem xtX11_348 : vx_at0 RX11 350 "java/lang/IllegalStateException" ["java/lang/RuntimeException", "java/lang/Exception"] = [177, 925, 934, 941, 944, 946, 926, 927, 204, 205, 928, 933, 942, 1145, 915, 1146, 917, 1147, 919, 929, 931, 921, 1552, 1553, 1554, 1498, 906, 1498, 1499, 1500, 1501, 908, 1501, 1502, 1503, 926, 910, 1551, 1543, 1544, 1545, 938, 1546, 1547, 1548, 1549, 924, 923, 1550].filterMap (fun i => lw_tbl[i]?) := by decide +kernel
set_option maxRecDepth 20000 in
theorem xgX11_348 : (vx_at0 RX11 350 "java/lang/IllegalStateException" ["java/lang/RuntimeException", "java/lang/Exception"]).all (fun w => goodWord w || ngp w) = true := by decide +kernel
set_option maxRecDepth 20000 in
theorem xwX11_348_350 : ab_xw RX11 348 350 "java/lang/IllegalStateException" ["java/lang/RuntimeException", "java/lang/Exception"] := ⟨⟨klX11_348, ixX11_348, fun w h => by
  have h9 := List.all_eq_true.mp xgX11_348 w h
  have h8 : w ∈ lw_tbl := by
    rw [xtX11_348] at h
    obtain ⟨i, -, hi⟩ := List.mem_filterMap.mp h
    exact List.mem_of_getElem? hi
  simp only [Bool.or_eq_true] at h9
  exact h9.imp (fun g => gw_of h8 g) (fun g => List.mem_filter.mpr ⟨h8, g⟩)⟩, by decide +kernel, by decide +kernel, by decide +kernel⟩
set_option maxRecDepth 20000 in
theorem ixX11_351 : Cond.initialized "java/lang/IndexOutOfBoundsException" ∈ gw := gw_t1 31 rfl rfl
set_option maxRecDepth 20000 in
theorem xtX11_351 : vx_at0 RX11 353 "java/lang/IndexOutOfBoundsException" ["java/lang/RuntimeException", "java/lang/Exception"] = [177, 925, 934, 941, 944, 946, 926, 927, 204, 205, 928, 933, 942, 1145, 915, 1146, 917, 1147, 919, 929, 931, 921, 1773, 1774, 1775, 1498, 906, 1498, 1499, 1500, 1501, 908, 1501, 1502, 1503, 926, 910, 1772, 1764, 1765, 1766, 939, 1767, 1768, 1769, 1770, 924, 923, 1771].filterMap (fun i => lw_tbl[i]?) := by decide +kernel
set_option maxRecDepth 20000 in
theorem xgX11_351 : (vx_at0 RX11 353 "java/lang/IndexOutOfBoundsException" ["java/lang/RuntimeException", "java/lang/Exception"]).all (fun w => goodWord w || ngp w) = true := by decide +kernel
set_option maxRecDepth 20000 in
theorem xwX11_351_353 : ab_xw RX11 351 353 "java/lang/IndexOutOfBoundsException" ["java/lang/RuntimeException", "java/lang/Exception"] := ⟨⟨klX11_351, ixX11_351, fun w h => by
  have h9 := List.all_eq_true.mp xgX11_351 w h
  have h8 : w ∈ lw_tbl := by
    rw [xtX11_351] at h
    obtain ⟨i, -, hi⟩ := List.mem_filterMap.mp h
    exact List.mem_of_getElem? hi
  simp only [Bool.or_eq_true] at h9
  exact h9.imp (fun g => gw_of h8 g) (fun g => List.mem_filter.mpr ⟨h8, g⟩)⟩, by decide +kernel, by decide +kernel, by decide +kernel⟩
set_option maxRecDepth 20000 in
theorem ixX11_345 : Cond.initialized "java/lang/ArithmeticException" ∈ gw := gw_t1 34 rfl rfl
set_option maxRecDepth 20000 in
theorem xtX11_345 : vx_at0 RX11 347 "java/lang/ArithmeticException" ["java/lang/RuntimeException", "java/lang/Exception"] = [177, 925, 934, 941, 944, 946, 926, 927, 204, 205, 928, 933, 942, 1145, 915, 1146, 917, 1147, 919, 929, 931, 921, 1803, 1804, 1805, 1498, 906, 1498, 1499, 1500, 1501, 908, 1501, 1502, 1503, 926, 910, 1802, 1794, 1795, 1796, 936, 1797, 1798, 1799, 1800, 924, 923, 1801].filterMap (fun i => lw_tbl[i]?) := by decide +kernel
set_option maxRecDepth 20000 in
theorem xgX11_345 : (vx_at0 RX11 347 "java/lang/ArithmeticException" ["java/lang/RuntimeException", "java/lang/Exception"]).all (fun w => goodWord w || ngp w) = true := by decide +kernel
set_option maxRecDepth 20000 in
theorem xwX11_345_347 : ab_xw RX11 345 347 "java/lang/ArithmeticException" ["java/lang/RuntimeException", "java/lang/Exception"] := ⟨⟨klX11_345, ixX11_345, fun w h => by
  have h9 := List.all_eq_true.mp xgX11_345 w h
  have h8 : w ∈ lw_tbl := by
    rw [xtX11_345] at h
    obtain ⟨i, -, hi⟩ := List.mem_filterMap.mp h
    exact List.mem_of_getElem? hi
  simp only [Bool.or_eq_true] at h9
  exact h9.imp (fun g => gw_of h8 g) (fun g => List.mem_filter.mpr ⟨h8, g⟩)⟩, by decide +kernel, by decide +kernel, by decide +kernel⟩
