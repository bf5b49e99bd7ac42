/-- links to private fields of nest mates -/
def nF : List (String × Nat × String × String × String × String) := [("ShapeTool$Past", 20, "ShapeTool$Tree", "bytes", "[I", "ShapeTool"), ("ShapeTool$Putter", 41, "ShapeTool$Tree", "bytes", "[I", "ShapeTool"), ("ShapeTool$Reader", 34, "ShapeTool$Tree", "bytes", "[I", "ShapeTool"), ("ShapeTool", 199, "ShapeTool$Tree", "bytes", "[I", "ShapeTool"), ("ShapeTool$Putter", 26, "ShapeTool$Tree", "length", "I", "ShapeTool"), ("ShapeTool$Reader", 15, "ShapeTool$Tree", "length", "I", "ShapeTool"), ("ShapeTool$Past", 29, "ShapeTool$Tree", "length", "I", "ShapeTool"), ("ShapeTool", 189, "ShapeTool$Tree", "length", "I", "ShapeTool"), ("ShapeTool$Chooser", 33, "ShapeTool$Tree", "count", "I", "ShapeTool"), ("ShapeTool$Reader", 58, "ShapeTool$Tree", "count", "I", "ShapeTool"), ("ShapeTool$Putter", 87, "ShapeTool$Tree", "count", "I", "ShapeTool"), ("ShapeTool", 112, "ShapeTool$Tree", "count", "I", "ShapeTool"), ("ShapeTool$Finder", 60, "ShapeTool$Tree", "count", "I", "ShapeTool"), ("ShapeTool$Putter", 90, "ShapeTool$Tree", "kind", "[I", "ShapeTool"), ("ShapeTool$Reader", 99, "ShapeTool$Tree", "kind", "[I", "ShapeTool"), ("ShapeTool$Finder", 77, "ShapeTool$Tree", "kind", "[I", "ShapeTool"), ("ShapeTool$Putter", 44, "ShapeTool$Tree", "from", "[I", "ShapeTool"), ("ShapeTool", 118, "ShapeTool$Tree", "from", "[I", "ShapeTool"), ("ShapeTool$Reader", 116, "ShapeTool$Tree", "from", "[I", "ShapeTool"), ("ShapeTool$Reader", 119, "ShapeTool$Tree", "atomBehind", "[I", "ShapeTool"), ("ShapeTool$Putter", 61, "ShapeTool$Tree", "behind", "[I", "ShapeTool"), ("ShapeTool", 121, "ShapeTool$Tree", "behind", "[I", "ShapeTool"), ("ShapeTool$Reader", 122, "ShapeTool$Tree", "behind", "[I", "ShapeTool"), ("ShapeTool$Chooser", 48, "ShapeTool$Tree", "parent", "[I", "ShapeTool"), ("ShapeTool$Putter", 100, "ShapeTool$Tree", "parent", "[I", "ShapeTool"), ("ShapeTool", 132, "ShapeTool$Tree", "parent", "[I", "ShapeTool"), ("ShapeTool$Finder", 80, "ShapeTool$Tree", "parent", "[I", "ShapeTool"), ("ShapeTool$Reader", 125, "ShapeTool$Tree", "parent", "[I", "ShapeTool"), ("ShapeTool", 124, "ShapeTool$Tree", "terms", "[I", "ShapeTool"), ("ShapeTool$Reader", 128, "ShapeTool$Tree", "terms", "[I", "ShapeTool"), ("ShapeTool$Finder", 120, "ShapeTool$Tree", "terms", "[I", "ShapeTool"), ("ShapeTool$Reader", 131, "ShapeTool$Tree", "size", "[I", "ShapeTool"), ("ShapeTool$Finder", 114, "ShapeTool$Tree", "size", "[I", "ShapeTool"), ("ShapeTool$Putter", 93, "ShapeTool$Tree", "letter", "[I", "ShapeTool"), ("ShapeTool$Reader", 113, "ShapeTool$Tree", "letter", "[I", "ShapeTool"), ("ShapeTool$Finder", 127, "ShapeTool$Tree", "letter", "[I", "ShapeTool"), ("ShapeTool$Reader", 61, "ShapeTool$Tree", "firstOf", "[I", "ShapeTool"), ("ShapeTool$Finder", 55, "ShapeTool$Tree", "firstOf", "[I", "ShapeTool"), ("ShapeTool", 135, "ShapeTool$Tree", "same", "[I", "ShapeTool"), ("ShapeTool$Finder", 130, "ShapeTool$Tree", "same", "[I", "ShapeTool"), ("ShapeTool$Chooser", 38, "ShapeTool$Finder", "isMatched", "[Z", "ShapeTool"), ("ShapeTool$Putter", 37, "ShapeTool$Chooser", "chosen", "[I", "ShapeTool"), ("ShapeTool", 166, "ShapeTool$Chooser", "chosen", "[I", "ShapeTool"), ("ShapeTool$Putter", 32, "ShapeTool$Chooser", "many", "I", "ShapeTool"), ("ShapeTool", 163, "ShapeTool$Chooser", "many", "I", "ShapeTool"), ("ShapeTool", 202, "ShapeTool$Past", "kept", "I", "ShapeTool"), ("ShapeToolModel", 113, "ShapeToolModel$Tree", "bytes", "[B", "ShapeToolModel"), ("ShapeToolModel", 112, "ShapeToolModel$Tree", "length", "I", "ShapeToolModel"), ("ShapeToolModel", 122, "ShapeToolModel$Tree", "many", "I", "ShapeToolModel"), ("ShapeToolModel", 125, "ShapeToolModel$Tree", "kind", "[I", "ShapeToolModel"), ("ShapeToolModel", 128, "ShapeToolModel$Tree", "first", "[I", "ShapeToolModel"), ("ShapeToolModel", 154, "ShapeToolModel$Tree", "behind", "[I", "ShapeToolModel"), ("ShapeToolModel", 191, "ShapeToolModel$Tree", "atomEnd", "[I", "ShapeToolModel"), ("ShapeToolModel", 134, "ShapeToolModel$Tree", "terms", "[I", "ShapeToolModel"), ("ShapeToolModel", 131, "ShapeToolModel$Tree", "in", "[I", "ShapeToolModel"), ("ShapeToolModel", 140, "ShapeToolModel$Tree", "letter", "[I", "ShapeToolModel"), ("ShapeToolModel", 137, "ShapeToolModel$Tree", "open", "[Z", "ShapeToolModel")]
/-- and to private methods -/
def nM : List (String × Nat × MethodName × String) := [("ShapeTool", 15, ⟨"ShapeTool$Tree", "<init>", "()V"⟩, "ShapeTool"), ("ShapeTool", 31, ⟨"ShapeTool$Reader", "<init>", "()V"⟩, "ShapeTool"), ("ShapeTool", 65, ⟨"ShapeTool$Past", "<init>", "()V"⟩, "ShapeTool"), ("ShapeTool$Reader", 64, ⟨"ShapeTool", "isBlank", "(I)Z"⟩, "ShapeTool"), ("ShapeTool$Reader", 81, ⟨"ShapeTool", "isAtomByte", "(I)Z"⟩, "ShapeTool"), ("ShapeTool$Reader", 106, ⟨"ShapeTool", "isSmall", "(I)Z"⟩, "ShapeTool"), ("ShapeToolModel", 15, ⟨"ShapeToolModel$Tree", "<init>", "()V"⟩, "ShapeToolModel")]
set_option maxRecDepth 100000 in
theorem nF_in : nF.all (fun e => decide (Cond.fieldLinkNest e.1 e.2.1 e.2.2.1 e.2.2.2.1 e.2.2.2.2.1 e.2.2.2.2.2 ∈ lw_tbl)) = true := by decide +kernel
set_option maxRecDepth 100000 in
theorem nM_in : nM.all (fun e => decide (Cond.methodLinkNest e.1 e.2.1 e.2.2.1 e.2.2.2 ∈ lw_tbl)) = true := by decide +kernel
def FOk (own idx ci k : Nat) : Prop := ci < 9 ∧ k < cF ci ∧ (Cond.fieldLink (cN own) idx (cT ci k).1 (cT ci k).2.1 (cT ci k).2.2.1 ∈ lw_g ∨ ∃ host : String, (cN own, idx, (cT ci k).1, (cT ci k).2.1, (cT ci k).2.2.1, host) ∈ nF)
def COk (own idx : Nat) (q : MI) : Prop := Cond.methodLink (cN own) idx q.2.1 ∈ lw_g ∨ ∃ host : String, (cN own, idx, q.2.1, host) ∈ nM
def NOk (own idx ci : Nat) : Prop := ci < 9 ∧ Cond.classLink (cN own) idx (cN ci) ∈ lw_g ∧ Cond.instantiable (cN ci) (cF ci) ∈ lw_g ∧ Cond.initialized (cN ci) ∈ lw_g
set_option maxRecDepth 100000 in
theorem fO_5_9 : FOk 5 9 5 0 := ⟨by decide, by decide, Or.inl (mem_g 96 (by decide +kernel) (by decide +kernel))⟩
set_option maxRecDepth 100000 in
theorem fO_5_45 : FOk 5 45 5 1 := ⟨by decide, by decide, Or.inl (mem_g 101 (by decide +kernel) (by decide +kernel))⟩
set_option maxRecDepth 100000 in
theorem fO_5_53 : FOk 5 53 5 2 := ⟨by decide, by decide, Or.inl (mem_g 107 (by decide +kernel) (by decide +kernel))⟩
set_option maxRecDepth 100000 in
theorem fO_5_15 : FOk 5 15 5 3 := ⟨by decide, by decide, Or.inl (mem_g 112 (by decide +kernel) (by decide +kernel))⟩
set_option maxRecDepth 100000 in
theorem fO_5_18 : FOk 5 18 5 4 := ⟨by decide, by decide, Or.inl (mem_g 116 (by decide +kernel) (by decide +kernel))⟩
set_option maxRecDepth 100000 in
theorem fO_5_21 : FOk 5 21 5 5 := ⟨by decide, by decide, Or.inl (mem_g 120 (by decide +kernel) (by decide +kernel))⟩
set_option maxRecDepth 100000 in
theorem fO_5_24 : FOk 5 24 5 6 := ⟨by decide, by decide, Or.inl (mem_g 122 (by decide +kernel) (by decide +kernel))⟩
set_option maxRecDepth 100000 in
theorem fO_5_27 : FOk 5 27 5 7 := ⟨by decide, by decide, Or.inl (mem_g 126 (by decide +kernel) (by decide +kernel))⟩
set_option maxRecDepth 100000 in
theorem fO_5_30 : FOk 5 30 5 8 := ⟨by decide, by decide, Or.inl (mem_g 132 (by decide +kernel) (by decide +kernel))⟩
set_option maxRecDepth 100000 in
theorem fO_5_33 : FOk 5 33 5 9 := ⟨by decide, by decide, Or.inl (mem_g 136 (by decide +kernel) (by decide +kernel))⟩
set_option maxRecDepth 100000 in
theorem fO_5_36 : FOk 5 36 5 10 := ⟨by decide, by decide, Or.inl (mem_g 139 (by decide +kernel) (by decide +kernel))⟩
set_option maxRecDepth 100000 in
theorem fO_5_39 : FOk 5 39 5 11 := ⟨by decide, by decide, Or.inl (mem_g 143 (by decide +kernel) (by decide +kernel))⟩
set_option maxRecDepth 100000 in
theorem fO_5_42 : FOk 5 42 5 12 := ⟨by decide, by decide, Or.inl (mem_g 146 (by decide +kernel) (by decide +kernel))⟩
set_option maxRecDepth 100000 in
theorem fO_4_42 : FOk 4 42 4 0 := ⟨by decide, by decide, Or.inl (mem_g 183 (by decide +kernel) (by decide +kernel))⟩
set_option maxRecDepth 100000 in
theorem fO_4_25 : FOk 4 25 4 1 := ⟨by decide, by decide, Or.inl (mem_g 184 (by decide +kernel) (by decide +kernel))⟩
set_option maxRecDepth 100000 in
theorem fO_4_31 : FOk 4 31 4 2 := ⟨by decide, by decide, Or.inl (mem_g 185 (by decide +kernel) (by decide +kernel))⟩
set_option maxRecDepth 100000 in
theorem fO_4_28 : FOk 4 28 4 3 := ⟨by decide, by decide, Or.inl (mem_g 186 (by decide +kernel) (by decide +kernel))⟩
set_option maxRecDepth 100000 in
theorem fO_4_45 : FOk 4 45 4 4 := ⟨by decide, by decide, Or.inl (mem_g 187 (by decide +kernel) (by decide +kernel))⟩
set_option maxRecDepth 100000 in
theorem fO_4_48 : FOk 4 48 4 5 := ⟨by decide, by decide, Or.inl (mem_g 188 (by decide +kernel) (by decide +kernel))⟩
set_option maxRecDepth 100000 in
theorem fO_4_51 : FOk 4 51 4 6 := ⟨by decide, by decide, Or.inl (mem_g 189 (by decide +kernel) (by decide +kernel))⟩
set_option maxRecDepth 100000 in
theorem fO_4_54 : FOk 4 54 4 7 := ⟨by decide, by decide, Or.inl (mem_g 190 (by decide +kernel) (by decide +kernel))⟩
set_option maxRecDepth 100000 in
theorem fO_1_37 : FOk 1 37 1 0 := ⟨by decide, by decide, Or.inl (mem_g 214 (by decide +kernel) (by decide +kernel))⟩
set_option maxRecDepth 100000 in
theorem fO_1_41 : FOk 1 41 1 1 := ⟨by decide, by decide, Or.inl (mem_g 215 (by decide +kernel) (by decide +kernel))⟩
set_option maxRecDepth 100000 in
theorem fO_1_9 : FOk 1 9 1 2 := ⟨by decide, by decide, Or.inl (mem_g 216 (by decide +kernel) (by decide +kernel))⟩
set_option maxRecDepth 100000 in
theorem fO_1_15 : FOk 1 15 1 3 := ⟨by decide, by decide, Or.inl (mem_g 217 (by decide +kernel) (by decide +kernel))⟩
set_option maxRecDepth 100000 in
theorem fO_1_18 : FOk 1 18 1 4 := ⟨by decide, by decide, Or.inl (mem_g 218 (by decide +kernel) (by decide +kernel))⟩
set_option maxRecDepth 100000 in
theorem fO_1_21 : FOk 1 21 1 5 := ⟨by decide, by decide, Or.inl (mem_g 219 (by decide +kernel) (by decide +kernel))⟩
set_option maxRecDepth 100000 in
theorem fO_1_24 : FOk 1 24 1 6 := ⟨by decide, by decide, Or.inl (mem_g 220 (by decide +kernel) (by decide +kernel))⟩
set_option maxRecDepth 100000 in
theorem fO_1_67 : FOk 1 67 1 7 := ⟨by decide, by decide, Or.inl (mem_g 221 (by decide +kernel) (by decide +kernel))⟩
set_option maxRecDepth 100000 in
theorem fO_1_70 : FOk 1 70 1 8 := ⟨by decide, by decide, Or.inl (mem_g 222 (by decide +kernel) (by decide +kernel))⟩
set_option maxRecDepth 100000 in
theorem fO_1_92 : FOk 1 92 1 9 := ⟨by decide, by decide, Or.inl (mem_g 223 (by decide +kernel) (by decide +kernel))⟩
set_option maxRecDepth 100000 in
theorem fO_1_95 : FOk 1 95 1 10 := ⟨by decide, by decide, Or.inl (mem_g 224 (by decide +kernel) (by decide +kernel))⟩
set_option maxRecDepth 100000 in
theorem fO_1_27 : FOk 1 27 1 11 := ⟨by decide, by decide, Or.inl (mem_g 225 (by decide +kernel) (by decide +kernel))⟩
set_option maxRecDepth 100000 in
theorem fO_1_30 : FOk 1 30 1 12 := ⟨by decide, by decide, Or.inl (mem_g 226 (by decide +kernel) (by decide +kernel))⟩
set_option maxRecDepth 100000 in
theorem fO_1_51 : FOk 1 51 1 13 := ⟨by decide, by decide, Or.inl (mem_g 227 (by decide +kernel) (by decide +kernel))⟩
set_option maxRecDepth 100000 in
theorem fO_1_33 : FOk 1 33 1 14 := ⟨by decide, by decide, Or.inl (mem_g 228 (by decide +kernel) (by decide +kernel))⟩
set_option maxRecDepth 100000 in
theorem fO_1_44 : FOk 1 44 1 15 := ⟨by decide, by decide, Or.inl (mem_g 230 (by decide +kernel) (by decide +kernel))⟩
set_option maxRecDepth 100000 in
theorem fO_0_18 : FOk 0 18 0 0 := ⟨by decide, by decide, Or.inl (mem_g 271 (by decide +kernel) (by decide +kernel))⟩
set_option maxRecDepth 100000 in
theorem fO_0_22 : FOk 0 22 0 1 := ⟨by decide, by decide, Or.inl (mem_g 272 (by decide +kernel) (by decide +kernel))⟩
set_option maxRecDepth 100000 in
theorem fO_0_9 : FOk 0 9 0 2 := ⟨by decide, by decide, Or.inl (mem_g 273 (by decide +kernel) (by decide +kernel))⟩
set_option maxRecDepth 100000 in
theorem fO_0_29 : FOk 0 29 0 3 := ⟨by decide, by decide, Or.inl (mem_g 277 (by decide +kernel) (by decide +kernel))⟩
set_option maxRecDepth 100000 in
theorem fO_0_15 : FOk 0 15 0 4 := ⟨by decide, by decide, Or.inl (mem_g 279 (by decide +kernel) (by decide +kernel))⟩
set_option maxRecDepth 100000 in
theorem fO_3_15 : FOk 3 15 3 0 := ⟨by decide, by decide, Or.inl (mem_g 297 (by decide +kernel) (by decide +kernel))⟩
set_option maxRecDepth 100000 in
theorem fO_3_19 : FOk 3 19 3 1 := ⟨by decide, by decide, Or.inl (mem_g 298 (by decide +kernel) (by decide +kernel))⟩
set_option maxRecDepth 100000 in
theorem fO_3_22 : FOk 3 22 3 2 := ⟨by decide, by decide, Or.inl (mem_g 299 (by decide +kernel) (by decide +kernel))⟩
set_option maxRecDepth 100000 in
theorem fO_3_9 : FOk 3 9 3 3 := ⟨by decide, by decide, Or.inl (mem_g 300 (by decide +kernel) (by decide +kernel))⟩
set_option maxRecDepth 100000 in
theorem fO_2_13 : FOk 2 13 2 0 := ⟨by decide, by decide, Or.inl (mem_g 318 (by decide +kernel) (by decide +kernel))⟩
set_option maxRecDepth 100000 in
theorem fO_2_16 : FOk 2 16 2 1 := ⟨by decide, by decide, Or.inl (mem_g 319 (by decide +kernel) (by decide +kernel))⟩
set_option maxRecDepth 100000 in
theorem fO_2_25 : FOk 2 25 2 2 := ⟨by decide, by decide, Or.inl (mem_g 320 (by decide +kernel) (by decide +kernel))⟩
set_option maxRecDepth 100000 in
theorem fO_2_38 : FOk 2 38 2 3 := ⟨by decide, by decide, Or.inl (mem_g 321 (by decide +kernel) (by decide +kernel))⟩
set_option maxRecDepth 100000 in
theorem fO_6_9 : FOk 6 9 6 0 := ⟨by decide, by decide, Or.inl (mem_g 447 (by decide +kernel) (by decide +kernel))⟩
set_option maxRecDepth 100000 in
theorem fO_6_82 : FOk 6 82 6 1 := ⟨by decide, by decide, Or.inl (mem_g 448 (by decide +kernel) (by decide +kernel))⟩
set_option maxRecDepth 100000 in
theorem fO_6_16 : FOk 6 16 6 2 := ⟨by decide, by decide, Or.inl (mem_g 449 (by decide +kernel) (by decide +kernel))⟩
set_option maxRecDepth 100000 in
theorem fO_6_20 : FOk 6 20 6 3 := ⟨by decide, by decide, Or.inl (mem_g 450 (by decide +kernel) (by decide +kernel))⟩
set_option maxRecDepth 100000 in
theorem fO_6_23 : FOk 6 23 6 4 := ⟨by decide, by decide, Or.inl (mem_g 451 (by decide +kernel) (by decide +kernel))⟩
set_option maxRecDepth 100000 in
theorem fO_6_26 : FOk 6 26 6 5 := ⟨by decide, by decide, Or.inl (mem_g 452 (by decide +kernel) (by decide +kernel))⟩
set_option maxRecDepth 100000 in
theorem fO_6_32 : FOk 6 32 6 6 := ⟨by decide, by decide, Or.inl (mem_g 453 (by decide +kernel) (by decide +kernel))⟩
set_option maxRecDepth 100000 in
theorem fO_6_41 : FOk 6 41 6 7 := ⟨by decide, by decide, Or.inl (mem_g 454 (by decide +kernel) (by decide +kernel))⟩
set_option maxRecDepth 100000 in
theorem fO_6_50 : FOk 6 50 6 8 := ⟨by decide, by decide, Or.inl (mem_g 455 (by decide +kernel) (by decide +kernel))⟩
set_option maxRecDepth 100000 in
theorem fO_6_59 : FOk 6 59 6 9 := ⟨by decide, by decide, Or.inl (mem_g 456 (by decide +kernel) (by decide +kernel))⟩
set_option maxRecDepth 100000 in
theorem fO_6_66 : FOk 6 66 6 10 := ⟨by decide, by decide, Or.inl (mem_g 457 (by decide +kernel) (by decide +kernel))⟩
set_option maxRecDepth 100000 in
theorem fO_7_9 : FOk 7 9 7 0 := ⟨by decide, by decide, Or.inl (mem_g 819 (by decide +kernel) (by decide +kernel))⟩
set_option maxRecDepth 100000 in
theorem fO_7_15 : FOk 7 15 7 3 := ⟨by decide, by decide, Or.inl (mem_g 823 (by decide +kernel) (by decide +kernel))⟩
set_option maxRecDepth 100000 in
theorem fO_7_19 : FOk 7 19 7 4 := ⟨by decide, by decide, Or.inl (mem_g 825 (by decide +kernel) (by decide +kernel))⟩
set_option maxRecDepth 100000 in
theorem fO_7_22 : FOk 7 22 7 5 := ⟨by decide, by decide, Or.inl (mem_g 827 (by decide +kernel) (by decide +kernel))⟩
set_option maxRecDepth 100000 in
theorem fO_7_25 : FOk 7 25 7 6 := ⟨by decide, by decide, Or.inl (mem_g 829 (by decide +kernel) (by decide +kernel))⟩
set_option maxRecDepth 100000 in
theorem fO_7_28 : FOk 7 28 7 7 := ⟨by decide, by decide, Or.inl (mem_g 831 (by decide +kernel) (by decide +kernel))⟩
set_option maxRecDepth 100000 in
theorem fO_7_31 : FOk 7 31 7 8 := ⟨by decide, by decide, Or.inl (mem_g 833 (by decide +kernel) (by decide +kernel))⟩
set_option maxRecDepth 100000 in
theorem fO_7_34 : FOk 7 34 7 9 := ⟨by decide, by decide, Or.inl (mem_g 835 (by decide +kernel) (by decide +kernel))⟩
set_option maxRecDepth 100000 in
theorem fO_7_37 : FOk 7 37 7 10 := ⟨by decide, by decide, Or.inl (mem_g 837 (by decide +kernel) (by decide +kernel))⟩
set_option maxRecDepth 100000 in
theorem fO_8_103 : FOk 8 103 8 0 := ⟨by decide, by decide, Or.inl (mem_g 912 (by decide +kernel) (by decide +kernel))⟩
set_option maxRecDepth 100000 in
theorem fO_8_9 : FOk 8 9 8 1 := ⟨by decide, by decide, Or.inl (mem_g 913 (by decide +kernel) (by decide +kernel))⟩
set_option maxRecDepth 100000 in
theorem fO_8_95 : FOk 8 95 8 2 := ⟨by decide, by decide, Or.inl (mem_g 914 (by decide +kernel) (by decide +kernel))⟩
set_option maxRecDepth 100000 in
theorem fO_8_16 : FOk 8 16 8 3 := ⟨by decide, by decide, Or.inl (mem_g 915 (by decide +kernel) (by decide +kernel))⟩
set_option maxRecDepth 100000 in
theorem fO_8_20 : FOk 8 20 8 4 := ⟨by decide, by decide, Or.inl (mem_g 916 (by decide +kernel) (by decide +kernel))⟩
set_option maxRecDepth 100000 in
theorem fO_8_23 : FOk 8 23 8 5 := ⟨by decide, by decide, Or.inl (mem_g 917 (by decide +kernel) (by decide +kernel))⟩
set_option maxRecDepth 100000 in
theorem fO_8_26 : FOk 8 26 8 6 := ⟨by decide, by decide, Or.inl (mem_g 918 (by decide +kernel) (by decide +kernel))⟩
set_option maxRecDepth 100000 in
theorem fO_8_29 : FOk 8 29 8 7 := ⟨by decide, by decide, Or.inl (mem_g 919 (by decide +kernel) (by decide +kernel))⟩
set_option maxRecDepth 100000 in
theorem fO_8_32 : FOk 8 32 8 8 := ⟨by decide, by decide, Or.inl (mem_g 920 (by decide +kernel) (by decide +kernel))⟩
set_option maxRecDepth 100000 in
theorem fO_8_35 : FOk 8 35 8 9 := ⟨by decide, by decide, Or.inl (mem_g 921 (by decide +kernel) (by decide +kernel))⟩
set_option maxRecDepth 100000 in
theorem fO_8_212 : FOk 8 212 8 10 := ⟨by decide, by decide, Or.inl (mem_g 922 (by decide +kernel) (by decide +kernel))⟩
set_option maxRecDepth 100000 in
theorem fO_8_39 : FOk 8 39 8 11 := ⟨by decide, by decide, Or.inl (mem_g 923 (by decide +kernel) (by decide +kernel))⟩
set_option maxRecDepth 100000 in
theorem fO_8_109 : FOk 8 109 8 12 := ⟨by decide, by decide, Or.inl (mem_g 924 (by decide +kernel) (by decide +kernel))⟩
set_option maxRecDepth 100000 in
theorem fO_8_167 : FOk 8 167 8 13 := ⟨by decide, by decide, Or.inl (mem_g 925 (by decide +kernel) (by decide +kernel))⟩
set_option maxRecDepth 100000 in
theorem fO_8_106 : FOk 8 106 8 14 := ⟨by decide, by decide, Or.inl (mem_g 926 (by decide +kernel) (by decide +kernel))⟩
set_option maxRecDepth 100000 in
theorem fO_8_119 : FOk 8 119 8 15 := ⟨by decide, by decide, Or.inl (mem_g 927 (by decide +kernel) (by decide +kernel))⟩
set_option maxRecDepth 100000 in
theorem fO_8_143 : FOk 8 143 8 16 := ⟨by decide, by decide, Or.inl (mem_g 928 (by decide +kernel) (by decide +kernel))⟩
set_option maxRecDepth 100000 in
theorem fO_8_178 : FOk 8 178 8 17 := ⟨by decide, by decide, Or.inl (mem_g 929 (by decide +kernel) (by decide +kernel))⟩
set_option maxRecDepth 100000 in
theorem fO_8_181 : FOk 8 181 8 18 := ⟨by decide, by decide, Or.inl (mem_g 930 (by decide +kernel) (by decide +kernel))⟩
set_option maxRecDepth 100000 in
theorem fO_8_174 : FOk 8 174 8 19 := ⟨by decide, by decide, Or.inl (mem_g 931 (by decide +kernel) (by decide +kernel))⟩
set_option maxRecDepth 100000 in
theorem fO_8_43 : FOk 8 43 8 20 := ⟨by decide, by decide, Or.inl (mem_g 932 (by decide +kernel) (by decide +kernel))⟩
set_option maxRecDepth 100000 in
theorem fO_8_46 : FOk 8 46 8 21 := ⟨by decide, by decide, Or.inl (mem_g 933 (by decide +kernel) (by decide +kernel))⟩
set_option maxRecDepth 100000 in
theorem fO_8_49 : FOk 8 49 8 22 := ⟨by decide, by decide, Or.inl (mem_g 934 (by decide +kernel) (by decide +kernel))⟩
set_option maxRecDepth 100000 in
theorem fO_8_52 : FOk 8 52 8 23 := ⟨by decide, by decide, Or.inl (mem_g 935 (by decide +kernel) (by decide +kernel))⟩
set_option maxRecDepth 100000 in
theorem fO_8_55 : FOk 8 55 8 24 := ⟨by decide, by decide, Or.inl (mem_g 936 (by decide +kernel) (by decide +kernel))⟩
set_option maxRecDepth 100000 in
theorem fO_8_58 : FOk 8 58 8 25 := ⟨by decide, by decide, Or.inl (mem_g 937 (by decide +kernel) (by decide +kernel))⟩
set_option maxRecDepth 100000 in
theorem fO_8_227 : FOk 8 227 8 26 := ⟨by decide, by decide, Or.inl (mem_g 938 (by decide +kernel) (by decide +kernel))⟩
set_option maxRecDepth 100000 in
theorem fO_8_61 : FOk 8 61 8 27 := ⟨by decide, by decide, Or.inl (mem_g 939 (by decide +kernel) (by decide +kernel))⟩
set_option maxRecDepth 100000 in
theorem fO_8_64 : FOk 8 64 8 28 := ⟨by decide, by decide, Or.inl (mem_g 940 (by decide +kernel) (by decide +kernel))⟩
set_option maxRecDepth 100000 in
theorem fO_8_67 : FOk 8 67 8 29 := ⟨by decide, by decide, Or.inl (mem_g 941 (by decide +kernel) (by decide +kernel))⟩
set_option maxRecDepth 100000 in
theorem fO_8_70 : FOk 8 70 8 30 := ⟨by decide, by decide, Or.inl (mem_g 942 (by decide +kernel) (by decide +kernel))⟩
set_option maxRecDepth 100000 in
theorem fO_8_73 : FOk 8 73 8 31 := ⟨by decide, by decide, Or.inl (mem_g 943 (by decide +kernel) (by decide +kernel))⟩
set_option maxRecDepth 100000 in
theorem fO_8_76 : FOk 8 76 8 32 := ⟨by decide, by decide, Or.inl (mem_g 944 (by decide +kernel) (by decide +kernel))⟩
set_option maxRecDepth 100000 in
theorem fO_8_79 : FOk 8 79 8 33 := ⟨by decide, by decide, Or.inl (mem_g 945 (by decide +kernel) (by decide +kernel))⟩
set_option maxRecDepth 100000 in
theorem fO_8_82 : FOk 8 82 8 34 := ⟨by decide, by decide, Or.inl (mem_g 946 (by decide +kernel) (by decide +kernel))⟩
set_option maxRecDepth 100000 in
theorem fO_8_86 : FOk 8 86 8 35 := ⟨by decide, by decide, Or.inl (mem_g 947 (by decide +kernel) (by decide +kernel))⟩
set_option maxRecDepth 100000 in
theorem fO_8_266 : FOk 8 266 8 36 := ⟨by decide, by decide, Or.inl (mem_g 948 (by decide +kernel) (by decide +kernel))⟩
set_option maxRecDepth 100000 in
theorem fO_8_89 : FOk 8 89 8 37 := ⟨by decide, by decide, Or.inl (mem_g 949 (by decide +kernel) (by decide +kernel))⟩
set_option maxRecDepth 100000 in
theorem fO_8_92 : FOk 8 92 8 38 := ⟨by decide, by decide, Or.inl (mem_g 950 (by decide +kernel) (by decide +kernel))⟩
set_option maxRecDepth 100000 in
theorem fO_2_20 : FOk 2 20 5 0 := ⟨by decide, by decide, Or.inr ⟨"ShapeTool", List.mem_of_getElem? (i := 0) rfl⟩⟩
set_option maxRecDepth 100000 in
theorem fO_3_41 : FOk 3 41 5 0 := ⟨by decide, by decide, Or.inr ⟨"ShapeTool", List.mem_of_getElem? (i := 1) rfl⟩⟩
set_option maxRecDepth 100000 in
theorem fO_4_34 : FOk 4 34 5 0 := ⟨by decide, by decide, Or.inr ⟨"ShapeTool", List.mem_of_getElem? (i := 2) rfl⟩⟩
set_option maxRecDepth 100000 in
theorem fO_6_199 : FOk 6 199 5 0 := ⟨by decide, by decide, Or.inr ⟨"ShapeTool", List.mem_of_getElem? (i := 3) rfl⟩⟩
set_option maxRecDepth 100000 in
theorem fO_3_26 : FOk 3 26 5 1 := ⟨by decide, by decide, Or.inr ⟨"ShapeTool", List.mem_of_getElem? (i := 4) rfl⟩⟩
set_option maxRecDepth 100000 in
theorem fO_4_15 : FOk 4 15 5 1 := ⟨by decide, by decide, Or.inr ⟨"ShapeTool", List.mem_of_getElem? (i := 5) rfl⟩⟩
set_option maxRecDepth 100000 in
theorem fO_2_29 : FOk 2 29 5 1 := ⟨by decide, by decide, Or.inr ⟨"ShapeTool", List.mem_of_getElem? (i := 6) rfl⟩⟩
set_option maxRecDepth 100000 in
theorem fO_6_189 : FOk 6 189 5 1 := ⟨by decide, by decide, Or.inr ⟨"ShapeTool", List.mem_of_getElem? (i := 7) rfl⟩⟩
set_option maxRecDepth 100000 in
theorem fO_0_33 : FOk 0 33 5 2 := ⟨by decide, by decide, Or.inr ⟨"ShapeTool", List.mem_of_getElem? (i := 8) rfl⟩⟩
set_option maxRecDepth 100000 in
theorem fO_4_58 : FOk 4 58 5 2 := ⟨by decide, by decide, Or.inr ⟨"ShapeTool", List.mem_of_getElem? (i := 9) rfl⟩⟩
set_option maxRecDepth 100000 in
theorem fO_3_87 : FOk 3 87 5 2 := ⟨by decide, by decide, Or.inr ⟨"ShapeTool", List.mem_of_getElem? (i := 10) rfl⟩⟩
set_option maxRecDepth 100000 in
theorem fO_6_112 : FOk 6 112 5 2 := ⟨by decide, by decide, Or.inr ⟨"ShapeTool", List.mem_of_getElem? (i := 11) rfl⟩⟩
set_option maxRecDepth 100000 in
theorem fO_1_60 : FOk 1 60 5 2 := ⟨by decide, by decide, Or.inr ⟨"ShapeTool", List.mem_of_getElem? (i := 12) rfl⟩⟩
set_option maxRecDepth 100000 in
theorem fO_3_90 : FOk 3 90 5 3 := ⟨by decide, by decide, Or.inr ⟨"ShapeTool", List.mem_of_getElem? (i := 13) rfl⟩⟩
set_option maxRecDepth 100000 in
theorem fO_4_99 : FOk 4 99 5 3 := ⟨by decide, by decide, Or.inr ⟨"ShapeTool", List.mem_of_getElem? (i := 14) rfl⟩⟩
set_option maxRecDepth 100000 in
theorem fO_1_77 : FOk 1 77 5 3 := ⟨by decide, by decide, Or.inr ⟨"ShapeTool", List.mem_of_getElem? (i := 15) rfl⟩⟩
set_option maxRecDepth 100000 in
theorem fO_3_44 : FOk 3 44 5 4 := ⟨by decide, by decide, Or.inr ⟨"ShapeTool", List.mem_of_getElem? (i := 16) rfl⟩⟩
set_option maxRecDepth 100000 in
theorem fO_6_118 : FOk 6 118 5 4 := ⟨by decide, by decide, Or.inr ⟨"ShapeTool", List.mem_of_getElem? (i := 17) rfl⟩⟩
set_option maxRecDepth 100000 in
theorem fO_4_116 : FOk 4 116 5 4 := ⟨by decide, by decide, Or.inr ⟨"ShapeTool", List.mem_of_getElem? (i := 18) rfl⟩⟩
set_option maxRecDepth 100000 in
theorem fO_4_119 : FOk 4 119 5 5 := ⟨by decide, by decide, Or.inr ⟨"ShapeTool", List.mem_of_getElem? (i := 19) rfl⟩⟩
set_option maxRecDepth 100000 in
theorem fO_3_61 : FOk 3 61 5 6 := ⟨by decide, by decide, Or.inr ⟨"ShapeTool", List.mem_of_getElem? (i := 20) rfl⟩⟩
set_option maxRecDepth 100000 in
theorem fO_6_121 : FOk 6 121 5 6 := ⟨by decide, by decide, Or.inr ⟨"ShapeTool", List.mem_of_getElem? (i := 21) rfl⟩⟩
set_option maxRecDepth 100000 in
theorem fO_4_122 : FOk 4 122 5 6 := ⟨by decide, by decide, Or.inr ⟨"ShapeTool", List.mem_of_getElem? (i := 22) rfl⟩⟩
set_option maxRecDepth 100000 in
theorem fO_0_48 : FOk 0 48 5 7 := ⟨by decide, by decide, Or.inr ⟨"ShapeTool", List.mem_of_getElem? (i := 23) rfl⟩⟩
set_option maxRecDepth 100000 in
theorem fO_3_100 : FOk 3 100 5 7 := ⟨by decide, by decide, Or.inr ⟨"ShapeTool", List.mem_of_getElem? (i := 24) rfl⟩⟩
set_option maxRecDepth 100000 in
theorem fO_6_132 : FOk 6 132 5 7 := ⟨by decide, by decide, Or.inr ⟨"ShapeTool", List.mem_of_getElem? (i := 25) rfl⟩⟩
set_option maxRecDepth 100000 in
theorem fO_1_80 : FOk 1 80 5 7 := ⟨by decide, by decide, Or.inr ⟨"ShapeTool", List.mem_of_getElem? (i := 26) rfl⟩⟩
set_option maxRecDepth 100000 in
theorem fO_4_125 : FOk 4 125 5 7 := ⟨by decide, by decide, Or.inr ⟨"ShapeTool", List.mem_of_getElem? (i := 27) rfl⟩⟩
set_option maxRecDepth 100000 in
theorem fO_6_124 : FOk 6 124 5 8 := ⟨by decide, by decide, Or.inr ⟨"ShapeTool", List.mem_of_getElem? (i := 28) rfl⟩⟩
set_option maxRecDepth 100000 in
theorem fO_4_128 : FOk 4 128 5 8 := ⟨by decide, by decide, Or.inr ⟨"ShapeTool", List.mem_of_getElem? (i := 29) rfl⟩⟩
set_option maxRecDepth 100000 in
theorem fO_1_120 : FOk 1 120 5 8 := ⟨by decide, by decide, Or.inr ⟨"ShapeTool", List.mem_of_getElem? (i := 30) rfl⟩⟩
set_option maxRecDepth 100000 in
theorem fO_4_131 : FOk 4 131 5 9 := ⟨by decide, by decide, Or.inr ⟨"ShapeTool", List.mem_of_getElem? (i := 31) rfl⟩⟩
set_option maxRecDepth 100000 in
theorem fO_1_114 : FOk 1 114 5 9 := ⟨by decide, by decide, Or.inr ⟨"ShapeTool", List.mem_of_getElem? (i := 32) rfl⟩⟩
set_option maxRecDepth 100000 in
theorem fO_3_93 : FOk 3 93 5 10 := ⟨by decide, by decide, Or.inr ⟨"ShapeTool", List.mem_of_getElem? (i := 33) rfl⟩⟩
set_option maxRecDepth 100000 in
theorem fO_4_113 : FOk 4 113 5 10 := ⟨by decide, by decide, Or.inr ⟨"ShapeTool", List.mem_of_getElem? (i := 34) rfl⟩⟩
set_option maxRecDepth 100000 in
theorem fO_1_127 : FOk 1 127 5 10 := ⟨by decide, by decide, Or.inr ⟨"ShapeTool", List.mem_of_getElem? (i := 35) rfl⟩⟩
set_option maxRecDepth 100000 in
theorem fO_4_61 : FOk 4 61 5 11 := ⟨by decide, by decide, Or.inr ⟨"ShapeTool", List.mem_of_getElem? (i := 36) rfl⟩⟩
set_option maxRecDepth 100000 in
theorem fO_1_55 : FOk 1 55 5 11 := ⟨by decide, by decide, Or.inr ⟨"ShapeTool", List.mem_of_getElem? (i := 37) rfl⟩⟩
set_option maxRecDepth 100000 in
theorem fO_6_135 : FOk 6 135 5 12 := ⟨by decide, by decide, Or.inr ⟨"ShapeTool", List.mem_of_getElem? (i := 38) rfl⟩⟩
set_option maxRecDepth 100000 in
theorem fO_1_130 : FOk 1 130 5 12 := ⟨by decide, by decide, Or.inr ⟨"ShapeTool", List.mem_of_getElem? (i := 39) rfl⟩⟩
set_option maxRecDepth 100000 in
theorem fO_0_38 : FOk 0 38 1 14 := ⟨by decide, by decide, Or.inr ⟨"ShapeTool", List.mem_of_getElem? (i := 40) rfl⟩⟩
set_option maxRecDepth 100000 in
theorem fO_3_37 : FOk 3 37 0 2 := ⟨by decide, by decide, Or.inr ⟨"ShapeTool", List.mem_of_getElem? (i := 41) rfl⟩⟩
set_option maxRecDepth 100000 in
theorem fO_6_166 : FOk 6 166 0 2 := ⟨by decide, by decide, Or.inr ⟨"ShapeTool", List.mem_of_getElem? (i := 42) rfl⟩⟩
set_option maxRecDepth 100000 in
theorem fO_3_32 : FOk 3 32 0 3 := ⟨by decide, by decide, Or.inr ⟨"ShapeTool", List.mem_of_getElem? (i := 43) rfl⟩⟩
set_option maxRecDepth 100000 in
theorem fO_6_163 : FOk 6 163 0 3 := ⟨by decide, by decide, Or.inr ⟨"ShapeTool", List.mem_of_getElem? (i := 44) rfl⟩⟩
set_option maxRecDepth 100000 in
theorem fO_6_202 : FOk 6 202 2 3 := ⟨by decide, by decide, Or.inr ⟨"ShapeTool", List.mem_of_getElem? (i := 45) rfl⟩⟩
set_option maxRecDepth 100000 in
theorem fO_8_113 : FOk 8 113 7 0 := ⟨by decide, by decide, Or.inr ⟨"ShapeToolModel", List.mem_of_getElem? (i := 46) rfl⟩⟩
set_option maxRecDepth 100000 in
theorem fO_8_112 : FOk 8 112 7 1 := ⟨by decide, by decide, Or.inr ⟨"ShapeToolModel", List.mem_of_getElem? (i := 47) rfl⟩⟩
set_option maxRecDepth 100000 in
theorem fO_8_122 : FOk 8 122 7 2 := ⟨by decide, by decide, Or.inr ⟨"ShapeToolModel", List.mem_of_getElem? (i := 48) rfl⟩⟩
set_option maxRecDepth 100000 in
theorem fO_8_125 : FOk 8 125 7 3 := ⟨by decide, by decide, Or.inr ⟨"ShapeToolModel", List.mem_of_getElem? (i := 49) rfl⟩⟩
set_option maxRecDepth 100000 in
theorem fO_8_128 : FOk 8 128 7 4 := ⟨by decide, by decide, Or.inr ⟨"ShapeToolModel", List.mem_of_getElem? (i := 50) rfl⟩⟩
set_option maxRecDepth 100000 in
theorem fO_8_154 : FOk 8 154 7 5 := ⟨by decide, by decide, Or.inr ⟨"ShapeToolModel", List.mem_of_getElem? (i := 51) rfl⟩⟩
set_option maxRecDepth 100000 in
theorem fO_8_191 : FOk 8 191 7 6 := ⟨by decide, by decide, Or.inr ⟨"ShapeToolModel", List.mem_of_getElem? (i := 52) rfl⟩⟩
set_option maxRecDepth 100000 in
theorem fO_8_134 : FOk 8 134 7 7 := ⟨by decide, by decide, Or.inr ⟨"ShapeToolModel", List.mem_of_getElem? (i := 53) rfl⟩⟩
set_option maxRecDepth 100000 in
theorem fO_8_131 : FOk 8 131 7 8 := ⟨by decide, by decide, Or.inr ⟨"ShapeToolModel", List.mem_of_getElem? (i := 54) rfl⟩⟩
set_option maxRecDepth 100000 in
theorem fO_8_140 : FOk 8 140 7 9 := ⟨by decide, by decide, Or.inr ⟨"ShapeToolModel", List.mem_of_getElem? (i := 55) rfl⟩⟩
set_option maxRecDepth 100000 in
theorem fO_8_137 : FOk 8 137 7 10 := ⟨by decide, by decide, Or.inr ⟨"ShapeToolModel", List.mem_of_getElem? (i := 56) rfl⟩⟩
abbrev mX0_init : MI := (0, yX0_init, cX0_init, 3, none, 2, 2)
set_option maxRecDepth 100000 in
theorem oX0_init : MOk mX0_init := ⟨mem_g 269 (by decide +kernel) (by decide +kernel), fun h => absurd h (by decide), fun _ => mem_g 268 (by decide +kernel) (by decide +kernel), fun h => absurd h (by decide), mem_g 71 (by decide +kernel) (by decide +kernel), rfl, ⟨by decide +kernel, by decide +kernel⟩, by decide +kernel, by decide +kernel, by decide, by decide, fun _ => ⟨rfl, rfl⟩⟩
abbrev mX0_choose : MI := (0, yX0_choose, cX0_choose, 5, none, 1, 0)
set_option maxRecDepth 100000 in
theorem oX0_choose : MOk mX0_choose := ⟨mem_g 639 (by decide +kernel) (by decide +kernel), fun h => absurd h (by decide), fun _ => mem_g 637 (by decide +kernel) (by decide +kernel), fun _ => mem_g 638 (by decide +kernel) (by decide +kernel), mem_g 71 (by decide +kernel) (by decide +kernel), rfl, ⟨by decide +kernel, by decide +kernel⟩, by decide +kernel, by decide +kernel, by decide, by decide, fun h => absurd h (by decide)⟩
abbrev mX0_countWithin : MI := (0, yX0_countWithin, cX0_countWithin, 3, none, 0, 0)
set_option maxRecDepth 100000 in
theorem oX0_countWithin : MOk mX0_countWithin := ⟨mem_g 643 (by decide +kernel) (by decide +kernel), fun h => absurd h (by decide), fun _ => mem_g 642 (by decide +kernel) (by decide +kernel), fun _ => mem_g 27 (by decide +kernel) (by decide +kernel), mem_g 71 (by decide +kernel) (by decide +kernel), rfl, ⟨by decide +kernel, by decide +kernel⟩, by decide +kernel, by decide +kernel, by decide, by decide, fun h => absurd h (by decide)⟩
abbrev mX1_init : MI := (1, yX1_init, cX1_init, 3, none, 2, 2)
set_option maxRecDepth 100000 in
theorem oX1_init : MOk mX1_init := ⟨mem_g 212 (by decide +kernel) (by decide +kernel), fun h => absurd h (by decide), fun _ => mem_g 211 (by decide +kernel) (by decide +kernel), fun h => absurd h (by decide), mem_g 70 (by decide +kernel) (by decide +kernel), rfl, ⟨by decide +kernel, by decide +kernel⟩, by decide +kernel, by decide +kernel, by decide, by decide, fun _ => ⟨rfl, rfl⟩⟩
abbrev mX1_forgetMatched : MI := (1, yX1_forgetMatched, cX1_forgetMatched, 1, none, 0, 0)
set_option maxRecDepth 100000 in
theorem oX1_forgetMatched : MOk mX1_forgetMatched := ⟨mem_g 446 (by decide +kernel) (by decide +kernel), fun h => absurd h (by decide), fun _ => mem_g 444 (by decide +kernel) (by decide +kernel), fun _ => mem_g 445 (by decide +kernel) (by decide +kernel), mem_g 70 (by decide +kernel) (by decide +kernel), rfl, ⟨by decide +kernel, by decide +kernel⟩, by decide +kernel, by decide +kernel, by decide, by decide, fun h => absurd h (by decide)⟩
abbrev mX1_forgetDifferences : MI := (1, yX1_forgetDifferences, cX1_forgetDifferences, 2, none, 0, 0)
set_option maxRecDepth 100000 in
theorem oX1_forgetDifferences : MOk mX1_forgetDifferences := ⟨mem_g 512 (by decide +kernel) (by decide +kernel), fun h => absurd h (by decide), fun _ => mem_g 510 (by decide +kernel) (by decide +kernel), fun _ => mem_g 511 (by decide +kernel) (by decide +kernel), mem_g 70 (by decide +kernel) (by decide +kernel), rfl, ⟨by decide +kernel, by decide +kernel⟩, by decide +kernel, by decide +kernel, by decide, by decide, fun h => absurd h (by decide)⟩
abbrev mX1_mustDiffer : MI := (1, yX1_mustDiffer, cX1_mustDiffer, 3, (some .boolean), 2, 0)
set_option maxRecDepth 100000 in
theorem oX1_mustDiffer : MOk mX1_mustDiffer := ⟨mem_g 523 (by decide +kernel) (by decide +kernel), fun h => absurd h (by decide), fun _ => mem_g 521 (by decide +kernel) (by decide +kernel), fun _ => mem_g 522 (by decide +kernel) (by decide +kernel), mem_g 70 (by decide +kernel) (by decide +kernel), rfl, ⟨by decide +kernel, by decide +kernel⟩, by decide +kernel, by decide +kernel, by decide, by decide, fun h => absurd h (by decide)⟩
abbrev mX1_setDiffer : MI := (1, yX1_setDiffer, cX1_setDiffer, 6, none, 3, 0)
set_option maxRecDepth 100000 in
theorem oX1_setDiffer : MOk mX1_setDiffer := ⟨mem_g 527 (by decide +kernel) (by decide +kernel), fun h => absurd h (by decide), fun _ => mem_g 525 (by decide +kernel) (by decide +kernel), fun _ => mem_g 526 (by decide +kernel) (by decide +kernel), mem_g 70 (by decide +kernel) (by decide +kernel), rfl, ⟨by decide +kernel, by decide +kernel⟩, by decide +kernel, by decide +kernel, by decide, by decide, fun h => absurd h (by decide)⟩
abbrev mX1_countMatched : MI := (1, yX1_countMatched, cX1_countMatched, 1, (some .int), 0, 0)
set_option maxRecDepth 100000 in
theorem oX1_countMatched : MOk mX1_countMatched := ⟨mem_g 554 (by decide +kernel) (by decide +kernel), fun h => absurd h (by decide), fun _ => mem_g 552 (by decide +kernel) (by decide +kernel), fun _ => mem_g 553 (by decide +kernel) (by decide +kernel), mem_g 70 (by decide +kernel) (by decide +kernel), rfl, ⟨by decide +kernel, by decide +kernel⟩, by decide +kernel, by decide +kernel, by decide, by decide, fun h => absurd h (by decide)⟩
abbrev mX1_matchedAt : MI := (1, yX1_matchedAt, cX1_matchedAt, 2, (some .int), 1, 0)
set_option maxRecDepth 100000 in
theorem oX1_matchedAt : MOk mX1_matchedAt := ⟨mem_g 605 (by decide +kernel) (by decide +kernel), fun h => absurd h (by decide), fun _ => mem_g 603 (by decide +kernel) (by decide +kernel), fun _ => mem_g 604 (by decide +kernel) (by decide +kernel), mem_g 70 (by decide +kernel) (by decide +kernel), rfl, ⟨by decide +kernel, by decide +kernel⟩, by decide +kernel, by decide +kernel, by decide, by decide, fun h => absurd h (by decide)⟩
abbrev mX1_firstNode : MI := (1, yX1_firstNode, cX1_firstNode, 3, (some .int), 1, 0)
set_option maxRecDepth 100000 in
theorem oX1_firstNode : MOk mX1_firstNode := ⟨mem_g 619 (by decide +kernel) (by decide +kernel), fun h => absurd h (by decide), fun _ => mem_g 617 (by decide +kernel) (by decide +kernel), fun _ => mem_g 618 (by decide +kernel) (by decide +kernel), mem_g 70 (by decide +kernel) (by decide +kernel), rfl, ⟨by decide +kernel, by decide +kernel⟩, by decide +kernel, by decide +kernel, by decide, by decide, fun h => absurd h (by decide)⟩
abbrev mX1_howMany : MI := (1, yX1_howMany, cX1_howMany, 3, (some .int), 1, 0)
set_option maxRecDepth 100000 in
theorem oX1_howMany : MOk mX1_howMany := ⟨mem_g 627 (by decide +kernel) (by decide +kernel), fun h => absurd h (by decide), fun _ => mem_g 625 (by decide +kernel) (by decide +kernel), fun _ => mem_g 626 (by decide +kernel) (by decide +kernel), mem_g 70 (by decide +kernel) (by decide +kernel), rfl, ⟨by decide +kernel, by decide +kernel⟩, by decide +kernel, by decide +kernel, by decide, by decide, fun h => absurd h (by decide)⟩
abbrev mX1_findAll : MI := (1, yX1_findAll, cX1_findAll, 2, none, 0, 0)
set_option maxRecDepth 100000 in
theorem oX1_findAll : MOk mX1_findAll := ⟨mem_g 558 (by decide +kernel) (by decide +kernel), fun h => absurd h (by decide), fun _ => mem_g 556 (by decide +kernel) (by decide +kernel), fun _ => mem_g 557 (by decide +kernel) (by decide +kernel), mem_g 70 (by decide +kernel) (by decide +kernel), rfl, ⟨by decide +kernel, by decide +kernel⟩, by decide +kernel, by decide +kernel, by decide, by decide, fun h => absurd h (by decide)⟩
abbrev mX1_preparePattern : MI := (1, yX1_preparePattern, cX1_preparePattern, 3, none, 0, 0)
set_option maxRecDepth 100000 in
theorem oX1_preparePattern : MOk mX1_preparePattern := ⟨mem_g 438 (by decide +kernel) (by decide +kernel), fun h => absurd h (by decide), fun _ => mem_g 436 (by decide +kernel) (by decide +kernel), fun _ => mem_g 437 (by decide +kernel) (by decide +kernel), mem_g 70 (by decide +kernel) (by decide +kernel), rfl, ⟨by decide +kernel, by decide +kernel⟩, by decide +kernel, by decide +kernel, by decide, by decide, fun h => absurd h (by decide)⟩
abbrev mX1_countSingles : MI := (1, yX1_countSingles, cX1_countSingles, 5, (some .int), 1, 0)
set_option maxRecDepth 100000 in
theorem oX1_countSingles : MOk mX1_countSingles := ⟨mem_g 442 (by decide +kernel) (by decide +kernel), fun h => absurd h (by decide), fun _ => mem_g 441 (by decide +kernel) (by decide +kernel), fun _ => mem_g 15 (by decide +kernel) (by decide +kernel), mem_g 70 (by decide +kernel) (by decide +kernel), rfl, ⟨by decide +kernel, by decide +kernel⟩, by decide +kernel, by decide +kernel, by decide, by decide, fun h => absurd h (by decide)⟩
abbrev mX1_findWay : MI := (1, yX1_findWay, cX1_findWay, 10, (some .boolean), 1, 0)
set_option maxRecDepth 100000 in
theorem oX1_findWay : MOk mX1_findWay := ⟨mem_g 562 (by decide +kernel) (by decide +kernel), fun h => absurd h (by decide), fun _ => mem_g 560 (by decide +kernel) (by decide +kernel), fun _ => mem_g 561 (by decide +kernel) (by decide +kernel), mem_g 70 (by decide +kernel) (by decide +kernel), rfl, ⟨by decide +kernel, by decide +kernel⟩, by decide +kernel, by decide +kernel, by decide, by decide, fun h => absurd h (by decide)⟩
abbrev mX1_firstFailing : MI := (1, yX1_firstFailing, cX1_firstFailing, 4, (some .int), 1, 0)
set_option maxRecDepth 100000 in
theorem oX1_firstFailing : MOk mX1_firstFailing := ⟨mem_g 570 (by decide +kernel) (by decide +kernel), fun h => absurd h (by decide), fun _ => mem_g 569 (by decide +kernel) (by decide +kernel), fun _ => mem_g 19 (by decide +kernel) (by decide +kernel), mem_g 70 (by decide +kernel) (by decide +kernel), rfl, ⟨by decide +kernel, by decide +kernel⟩, by decide +kernel, by decide +kernel, by decide, by decide, fun h => absurd h (by decide)⟩
abbrev mX1_seatPiece : MI := (1, yX1_seatPiece, cX1_seatPiece, 4, (some .boolean), 2, 0)
set_option maxRecDepth 100000 in
theorem oX1_seatPiece : MOk mX1_seatPiece := ⟨mem_g 583 (by decide +kernel) (by decide +kernel), fun h => absurd h (by decide), fun _ => mem_g 582 (by decide +kernel) (by decide +kernel), fun _ => mem_g 22 (by decide +kernel) (by decide +kernel), mem_g 70 (by decide +kernel) (by decide +kernel), rfl, ⟨by decide +kernel, by decide +kernel⟩, by decide +kernel, by decide +kernel, by decide, by decide, fun h => absurd h (by decide)⟩
abbrev mX1_nextNode : MI := (1, yX1_nextNode, cX1_nextNode, 3, (some .int), 1, 0)
set_option maxRecDepth 100000 in
theorem oX1_nextNode : MOk mX1_nextNode := ⟨mem_g 587 (by decide +kernel) (by decide +kernel), fun h => absurd h (by decide), fun _ => mem_g 586 (by decide +kernel) (by decide +kernel), fun _ => mem_g 23 (by decide +kernel) (by decide +kernel), mem_g 70 (by decide +kernel) (by decide +kernel), rfl, ⟨by decide +kernel, by decide +kernel⟩, by decide +kernel, by decide +kernel, by decide, by decide, fun h => absurd h (by decide)⟩
abbrev mX1_termFits : MI := (1, yX1_termFits, cX1_termFits, 6, (some .boolean), 2, 0)
set_option maxRecDepth 100000 in
theorem oX1_termFits : MOk mX1_termFits := ⟨mem_g 591 (by decide +kernel) (by decide +kernel), fun h => absurd h (by decide), fun _ => mem_g 590 (by decide +kernel) (by decide +kernel), fun _ => mem_g 24 (by decide +kernel) (by decide +kernel), mem_g 70 (by decide +kernel) (by decide +kernel), rfl, ⟨by decide +kernel, by decide +kernel⟩, by decide +kernel, by decide +kernel, by decide, by decide, fun h => absurd h (by decide)⟩
abbrev mX1_holeFits : MI := (1, yX1_holeFits, cX1_holeFits, 7, (some .boolean), 2, 0)
set_option maxRecDepth 100000 in
theorem oX1_holeFits : MOk mX1_holeFits := ⟨mem_g 596 (by decide +kernel) (by decide +kernel), fun h => absurd h (by decide), fun _ => mem_g 595 (by decide +kernel) (by decide +kernel), fun _ => mem_g 25 (by decide +kernel) (by decide +kernel), mem_g 70 (by decide +kernel) (by decide +kernel), rfl, ⟨by decide +kernel, by decide +kernel⟩, by decide +kernel, by decide +kernel, by decide, by decide, fun h => absurd h (by decide)⟩
abbrev mX1_rowFits : MI := (1, yX1_rowFits, cX1_rowFits, 6, (some .boolean), 1, 0)
set_option maxRecDepth 100000 in
theorem oX1_rowFits : MOk mX1_rowFits := ⟨mem_g 574 (by decide +kernel) (by decide +kernel), fun h => absurd h (by decide), fun _ => mem_g 573 (by decide +kernel) (by decide +kernel), fun _ => mem_g 20 (by decide +kernel) (by decide +kernel), mem_g 70 (by decide +kernel) (by decide +kernel), rfl, ⟨by decide +kernel, by decide +kernel⟩, by decide +kernel, by decide +kernel, by decide, by decide, fun h => absurd h (by decide)⟩
abbrev mX1_rowsAlike : MI := (1, yX1_rowsAlike, cX1_rowsAlike, 6, (some .boolean), 2, 0)
set_option maxRecDepth 100000 in
theorem oX1_rowsAlike : MOk mX1_rowsAlike := ⟨mem_g 579 (by decide +kernel) (by decide +kernel), fun h => absurd h (by decide), fun _ => mem_g 578 (by decide +kernel) (by decide +kernel), fun _ => mem_g 21 (by decide +kernel) (by decide +kernel), mem_g 70 (by decide +kernel) (by decide +kernel), rfl, ⟨by decide +kernel, by decide +kernel⟩, by decide +kernel, by decide +kernel, by decide, by decide, fun h => absurd h (by decide)⟩
abbrev mX2_init : MI := (2, yX2_init, cX2_init, 1, none, 0, 2)
set_option maxRecDepth 100000 in
theorem oX2_init : MOk mX2_init := ⟨mem_g 314 (by decide +kernel) (by decide +kernel), fun h => absurd h (by decide), fun _ => mem_g 313 (by decide +kernel) (by decide +kernel), fun h => absurd h (by decide), mem_g 73 (by decide +kernel) (by decide +kernel), rfl, ⟨by decide +kernel, by decide +kernel⟩, by decide +kernel, by decide +kernel, by decide, by decide, fun _ => ⟨rfl, rfl⟩⟩
abbrev mX2_write : MI := (2, yX2_write, cX2_write, 2, none, 1, 0)
set_option maxRecDepth 100000 in
theorem oX2_write : MOk mX2_write := ⟨mem_g 660 (by decide +kernel) (by decide +kernel), fun h => absurd h (by decide), fun _ => mem_g 658 (by decide +kernel) (by decide +kernel), fun _ => mem_g 659 (by decide +kernel) (by decide +kernel), mem_g 73 (by decide +kernel) (by decide +kernel), rfl, ⟨by decide +kernel, by decide +kernel⟩, by decide +kernel, by decide +kernel, by decide, by decide, fun h => absurd h (by decide)⟩
abbrev mX2_keepWritten : MI := (2, yX2_keepWritten, cX2_keepWritten, 1, none, 0, 0)
set_option maxRecDepth 100000 in
theorem oX2_keepWritten : MOk mX2_keepWritten := ⟨mem_g 706 (by decide +kernel) (by decide +kernel), fun h => absurd h (by decide), fun _ => mem_g 704 (by decide +kernel) (by decide +kernel), fun _ => mem_g 705 (by decide +kernel) (by decide +kernel), mem_g 73 (by decide +kernel) (by decide +kernel), rfl, ⟨by decide +kernel, by decide +kernel⟩, by decide +kernel, by decide +kernel, by decide, by decide, fun h => absurd h (by decide)⟩
abbrev mX2_readWritten : MI := (2, yX2_readWritten, cX2_readWritten, 2, none, 1, 0)
set_option maxRecDepth 100000 in
theorem oX2_readWritten : MOk mX2_readWritten := ⟨mem_g 719 (by decide +kernel) (by decide +kernel), fun h => absurd h (by decide), fun _ => mem_g 717 (by decide +kernel) (by decide +kernel), fun _ => mem_g 718 (by decide +kernel) (by decide +kernel), mem_g 73 (by decide +kernel) (by decide +kernel), rfl, ⟨by decide +kernel, by decide +kernel⟩, by decide +kernel, by decide +kernel, by decide, by decide, fun h => absurd h (by decide)⟩
abbrev mX2_stepBack : MI := (2, yX2_stepBack, cX2_stepBack, 1, (some .boolean), 0, 0)
set_option maxRecDepth 100000 in
theorem oX2_stepBack : MOk mX2_stepBack := ⟨mem_g 728 (by decide +kernel) (by decide +kernel), fun h => absurd h (by decide), fun _ => mem_g 726 (by decide +kernel) (by decide +kernel), fun _ => mem_g 727 (by decide +kernel) (by decide +kernel), mem_g 73 (by decide +kernel) (by decide +kernel), rfl, ⟨by decide +kernel, by decide +kernel⟩, by decide +kernel, by decide +kernel, by decide, by decide, fun h => absurd h (by decide)⟩
abbrev mX2_forget : MI := (2, yX2_forget, cX2_forget, 1, none, 0, 0)
set_option maxRecDepth 100000 in
theorem oX2_forget : MOk mX2_forget := ⟨mem_g 508 (by decide +kernel) (by decide +kernel), fun h => absurd h (by decide), fun _ => mem_g 506 (by decide +kernel) (by decide +kernel), fun _ => mem_g 507 (by decide +kernel) (by decide +kernel), mem_g 73 (by decide +kernel) (by decide +kernel), rfl, ⟨by decide +kernel, by decide +kernel⟩, by decide +kernel, by decide +kernel, by decide, by decide, fun h => absurd h (by decide)⟩
abbrev mX3_init : MI := (3, yX3_init, cX3_init, 4, none, 3, 2)
set_option maxRecDepth 100000 in
theorem oX3_init : MOk mX3_init := ⟨mem_g 295 (by decide +kernel) (by decide +kernel), fun h => absurd h (by decide), fun _ => mem_g 294 (by decide +kernel) (by decide +kernel), fun h => absurd h (by decide), mem_g 72 (by decide +kernel) (by decide +kernel), rfl, ⟨by decide +kernel, by decide +kernel⟩, by decide +kernel, by decide +kernel, by decide, by decide, fun _ => ⟨rfl, rfl⟩⟩
abbrev mX3_build : MI := (3, yX3_build, cX3_build, 6, (some .boolean), 2, 0)
set_option maxRecDepth 100000 in
theorem oX3_build : MOk mX3_build := ⟨mem_g 669 (by decide +kernel) (by decide +kernel), fun h => absurd h (by decide), fun _ => mem_g 667 (by decide +kernel) (by decide +kernel), fun _ => mem_g 668 (by decide +kernel) (by decide +kernel), mem_g 72 (by decide +kernel) (by decide +kernel), rfl, ⟨by decide +kernel, by decide +kernel⟩, by decide +kernel, by decide +kernel, by decide, by decide, fun h => absurd h (by decide)⟩
abbrev mX3_fillTemplate : MI := (3, yX3_fillTemplate, cX3_fillTemplate, 7, (some .boolean), 1, 0)
set_option maxRecDepth 100000 in
theorem oX3_fillTemplate : MOk mX3_fillTemplate := ⟨mem_g 675 (by decide +kernel) (by decide +kernel), fun h => absurd h (by decide), fun _ => mem_g 674 (by decide +kernel) (by decide +kernel), fun _ => mem_g 30 (by decide +kernel) (by decide +kernel), mem_g 72 (by decide +kernel) (by decide +kernel), rfl, ⟨by decide +kernel, by decide +kernel⟩, by decide +kernel, by decide +kernel, by decide, by decide, fun h => absurd h (by decide)⟩
abbrev mX3_fillLetter : MI := (3, yX3_fillLetter, cX3_fillLetter, 5, (some .boolean), 2, 0)
set_option maxRecDepth 100000 in
theorem oX3_fillLetter : MOk mX3_fillLetter := ⟨mem_g 697 (by decide +kernel) (by decide +kernel), fun h => absurd h (by decide), fun _ => mem_g 696 (by decide +kernel) (by decide +kernel), fun _ => mem_g 35 (by decide +kernel) (by decide +kernel), mem_g 72 (by decide +kernel) (by decide +kernel), rfl, ⟨by decide +kernel, by decide +kernel⟩, by decide +kernel, by decide +kernel, by decide, by decide, fun h => absurd h (by decide)⟩
abbrev mX3_dropRowsOfNone : MI := (3, yX3_dropRowsOfNone, cX3_dropRowsOfNone, 2, none, 0, 0)
set_option maxRecDepth 100000 in
theorem oX3_dropRowsOfNone : MOk mX3_dropRowsOfNone := ⟨mem_g 679 (by decide +kernel) (by decide +kernel), fun h => absurd h (by decide), fun _ => mem_g 678 (by decide +kernel) (by decide +kernel), fun _ => mem_g 31 (by decide +kernel) (by decide +kernel), mem_g 72 (by decide +kernel) (by decide +kernel), rfl, ⟨by decide +kernel, by decide +kernel⟩, by decide +kernel, by decide +kernel, by decide, by decide, fun h => absurd h (by decide)⟩
abbrev mX3_dropRow : MI := (3, yX3_dropRow, cX3_dropRow, 4, none, 1, 0)
set_option maxRecDepth 100000 in
theorem oX3_dropRow : MOk mX3_dropRow := ⟨mem_g 684 (by decide +kernel) (by decide +kernel), fun h => absurd h (by decide), fun _ => mem_g 683 (by decide +kernel) (by decide +kernel), fun _ => mem_g 32 (by decide +kernel) (by decide +kernel), mem_g 72 (by decide +kernel) (by decide +kernel), rfl, ⟨by decide +kernel, by decide +kernel⟩, by decide +kernel, by decide +kernel, by decide, by decide, fun h => absurd h (by decide)⟩
abbrev mX3_pieceAhead : MI := (3, yX3_pieceAhead, cX3_pieceAhead, 3, (some .int), 1, 0)
set_option maxRecDepth 100000 in
theorem oX3_pieceAhead : MOk mX3_pieceAhead := ⟨mem_g 692 (by decide +kernel) (by decide +kernel), fun h => absurd h (by decide), fun _ => mem_g 691 (by decide +kernel) (by decide +kernel), fun _ => mem_g 34 (by decide +kernel) (by decide +kernel), mem_g 72 (by decide +kernel) (by decide +kernel), rfl, ⟨by decide +kernel, by decide +kernel⟩, by decide +kernel, by decide +kernel, by decide, by decide, fun h => absurd h (by decide)⟩
abbrev mX3_dropBytes : MI := (3, yX3_dropBytes, cX3_dropBytes, 4, none, 2, 0)
set_option maxRecDepth 100000 in
theorem oX3_dropBytes : MOk mX3_dropBytes := ⟨mem_g 688 (by decide +kernel) (by decide +kernel), fun h => absurd h (by decide), fun _ => mem_g 687 (by decide +kernel) (by decide +kernel), fun _ => mem_g 33 (by decide +kernel) (by decide +kernel), mem_g 72 (by decide +kernel) (by decide +kernel), rfl, ⟨by decide +kernel, by decide +kernel⟩, by decide +kernel, by decide +kernel, by decide, by decide, fun h => absurd h (by decide)⟩
abbrev mX4_init : MI := (4, yX4_init, cX4_init, 1, none, 0, 2)
set_option maxRecDepth 100000 in
theorem oX4_init : MOk mX4_init := ⟨mem_g 181 (by decide +kernel) (by decide +kernel), fun h => absurd h (by decide), fun _ => mem_g 180 (by decide +kernel) (by decide +kernel), fun h => absurd h (by decide), mem_g 69 (by decide +kernel) (by decide +kernel), rfl, ⟨by decide +kernel, by decide +kernel⟩, by decide +kernel, by decide +kernel, by decide, by decide, fun _ => ⟨rfl, rfl⟩⟩
abbrev mX4_readTree : MI := (4, yX4_readTree, cX4_readTree, 4, (some .int), 2, 0)
set_option maxRecDepth 100000 in
theorem oX4_readTree : MOk mX4_readTree := ⟨mem_g 346 (by decide +kernel) (by decide +kernel), fun h => absurd h (by decide), fun _ => mem_g 344 (by decide +kernel) (by decide +kernel), fun _ => mem_g 345 (by decide +kernel) (by decide +kernel), mem_g 69 (by decide +kernel) (by decide +kernel), rfl, ⟨by decide +kernel, by decide +kernel⟩, by decide +kernel, by decide +kernel, by decide, by decide, fun h => absurd h (by decide)⟩
abbrev mX4_start : MI := (4, yX4_start, cX4_start, 4, none, 2, 0)
set_option maxRecDepth 100000 in
theorem oX4_start : MOk mX4_start := ⟨mem_g 350 (by decide +kernel) (by decide +kernel), fun h => absurd h (by decide), fun _ => mem_g 349 (by decide +kernel) (by decide +kernel), fun _ => mem_g 0 (by decide +kernel) (by decide +kernel), mem_g 69 (by decide +kernel) (by decide +kernel), rfl, ⟨by decide +kernel, by decide +kernel⟩, by decide +kernel, by decide +kernel, by decide, by decide, fun h => absurd h (by decide)⟩
abbrev mX4_skipBlanks : MI := (4, yX4_skipBlanks, cX4_skipBlanks, 2, none, 1, 0)
set_option maxRecDepth 100000 in
theorem oX4_skipBlanks : MOk mX4_skipBlanks := ⟨mem_g 354 (by decide +kernel) (by decide +kernel), fun h => absurd h (by decide), fun _ => mem_g 353 (by decide +kernel) (by decide +kernel), fun _ => mem_g 1 (by decide +kernel) (by decide +kernel), mem_g 69 (by decide +kernel) (by decide +kernel), rfl, ⟨by decide +kernel, by decide +kernel⟩, by decide +kernel, by decide +kernel, by decide, by decide, fun h => absurd h (by decide)⟩
abbrev mX4_readToken : MI := (4, yX4_readToken, cX4_readToken, 3, (some .boolean), 2, 0)
set_option maxRecDepth 100000 in
theorem oX4_readToken : MOk mX4_readToken := ⟨mem_g 361 (by decide +kernel) (by decide +kernel), fun h => absurd h (by decide), fun _ => mem_g 360 (by decide +kernel) (by decide +kernel), fun _ => mem_g 2 (by decide +kernel) (by decide +kernel), mem_g 69 (by decide +kernel) (by decide +kernel), rfl, ⟨by decide +kernel, by decide +kernel⟩, by decide +kernel, by decide +kernel, by decide, by decide, fun h => absurd h (by decide)⟩
abbrev mX4_readPiece : MI := (4, yX4_readPiece, cX4_readPiece, 3, (some .boolean), 2, 0)
set_option maxRecDepth 100000 in
theorem oX4_readPiece : MOk mX4_readPiece := ⟨mem_g 365 (by decide +kernel) (by decide +kernel), fun h => absurd h (by decide), fun _ => mem_g 364 (by decide +kernel) (by decide +kernel), fun _ => mem_g 3 (by decide +kernel) (by decide +kernel), mem_g 69 (by decide +kernel) (by decide +kernel), rfl, ⟨by decide +kernel, by decide +kernel⟩, by decide +kernel, by decide +kernel, by decide, by decide, fun h => absurd h (by decide)⟩
abbrev mX4_rowMayStand : MI := (4, yX4_rowMayStand, cX4_rowMayStand, 2, (some .boolean), 1, 0)
set_option maxRecDepth 100000 in
theorem oX4_rowMayStand : MOk mX4_rowMayStand := ⟨mem_g 391 (by decide +kernel) (by decide +kernel), fun h => absurd h (by decide), fun _ => mem_g 390 (by decide +kernel) (by decide +kernel), fun _ => mem_g 7 (by decide +kernel) (by decide +kernel), mem_g 69 (by decide +kernel) (by decide +kernel), rfl, ⟨by decide +kernel, by decide +kernel⟩, by decide +kernel, by decide +kernel, by decide, by decide, fun h => absurd h (by decide)⟩
abbrev mX4_isWithinTerm : MI := (4, yX4_isWithinTerm, cX4_isWithinTerm, 2, (some .boolean), 1, 0)
set_option maxRecDepth 100000 in
theorem oX4_isWithinTerm : MOk mX4_isWithinTerm := ⟨mem_g 395 (by decide +kernel) (by decide +kernel), fun h => absurd h (by decide), fun _ => mem_g 394 (by decide +kernel) (by decide +kernel), fun _ => mem_g 8 (by decide +kernel) (by decide +kernel), mem_g 69 (by decide +kernel) (by decide +kernel), rfl, ⟨by decide +kernel, by decide +kernel⟩, by decide +kernel, by decide +kernel, by decide, by decide, fun h => absurd h (by decide)⟩
abbrev mX4_readAtom : MI := (4, yX4_readAtom, cX4_readAtom, 3, (some .boolean), 1, 0)
set_option maxRecDepth 100000 in
theorem oX4_readAtom : MOk mX4_readAtom := ⟨mem_g 372 (by decide +kernel) (by decide +kernel), fun h => absurd h (by decide), fun _ => mem_g 371 (by decide +kernel) (by decide +kernel), fun _ => mem_g 4 (by decide +kernel) (by decide +kernel), mem_g 69 (by decide +kernel) (by decide +kernel), rfl, ⟨by decide +kernel, by decide +kernel⟩, by decide +kernel, by decide +kernel, by decide, by decide, fun h => absurd h (by decide)⟩
abbrev mX4_readLettered : MI := (4, yX4_readLettered, cX4_readLettered, 7, (some .boolean), 2, 0)
set_option maxRecDepth 100000 in
theorem oX4_readLettered : MOk mX4_readLettered := ⟨mem_g 380 (by decide +kernel) (by decide +kernel), fun h => absurd h (by decide), fun _ => mem_g 379 (by decide +kernel) (by decide +kernel), fun _ => mem_g 6 (by decide +kernel) (by decide +kernel), mem_g 69 (by decide +kernel) (by decide +kernel), rfl, ⟨by decide +kernel, by decide +kernel⟩, by decide +kernel, by decide +kernel, by decide, by decide, fun h => absurd h (by decide)⟩
abbrev mX4_readDeep : MI := (4, yX4_readDeep, cX4_readDeep, 2, (some .boolean), 1, 0)
set_option maxRecDepth 100000 in
theorem oX4_readDeep : MOk mX4_readDeep := ⟨mem_g 399 (by decide +kernel) (by decide +kernel), fun h => absurd h (by decide), fun _ => mem_g 398 (by decide +kernel) (by decide +kernel), fun _ => mem_g 9 (by decide +kernel) (by decide +kernel), mem_g 69 (by decide +kernel) (by decide +kernel), rfl, ⟨by decide +kernel, by decide +kernel⟩, by decide +kernel, by decide +kernel, by decide, by decide, fun h => absurd h (by decide)⟩
abbrev mX4_addPiece : MI := (4, yX4_addPiece, cX4_addPiece, 5, (some .boolean), 3, 0)
set_option maxRecDepth 100000 in
theorem oX4_addPiece : MOk mX4_addPiece := ⟨mem_g 376 (by decide +kernel) (by decide +kernel), fun h => absurd h (by decide), fun _ => mem_g 375 (by decide +kernel) (by decide +kernel), fun _ => mem_g 5 (by decide +kernel) (by decide +kernel), mem_g 69 (by decide +kernel) (by decide +kernel), rfl, ⟨by decide +kernel, by decide +kernel⟩, by decide +kernel, by decide +kernel, by decide, by decide, fun h => absurd h (by decide)⟩
abbrev mX4_readOpening : MI := (4, yX4_readOpening, cX4_readOpening, 2, (some .boolean), 1, 0)
set_option maxRecDepth 100000 in
theorem oX4_readOpening : MOk mX4_readOpening := ⟨mem_g 407 (by decide +kernel) (by decide +kernel), fun h => absurd h (by decide), fun _ => mem_g 406 (by decide +kernel) (by decide +kernel), fun _ => mem_g 11 (by decide +kernel) (by decide +kernel), mem_g 69 (by decide +kernel) (by decide +kernel), rfl, ⟨by decide +kernel, by decide +kernel⟩, by decide +kernel, by decide +kernel, by decide, by decide, fun h => absurd h (by decide)⟩
abbrev mX4_readBehindPiece : MI := (4, yX4_readBehindPiece, cX4_readBehindPiece, 3, (some .boolean), 2, 0)
set_option maxRecDepth 100000 in
theorem oX4_readBehindPiece : MOk mX4_readBehindPiece := ⟨mem_g 411 (by decide +kernel) (by decide +kernel), fun h => absurd h (by decide), fun _ => mem_g 410 (by decide +kernel) (by decide +kernel), fun _ => mem_g 12 (by decide +kernel) (by decide +kernel), mem_g 69 (by decide +kernel) (by decide +kernel), rfl, ⟨by decide +kernel, by decide +kernel⟩, by decide +kernel, by decide +kernel, by decide, by decide, fun h => absurd h (by decide)⟩
abbrev mX4_readClosing : MI := (4, yX4_readClosing, cX4_readClosing, 2, (some .boolean), 1, 0)
set_option maxRecDepth 100000 in
theorem oX4_readClosing : MOk mX4_readClosing := ⟨mem_g 403 (by decide +kernel) (by decide +kernel), fun h => absurd h (by decide), fun _ => mem_g 402 (by decide +kernel) (by decide +kernel), fun _ => mem_g 10 (by decide +kernel) (by decide +kernel), mem_g 69 (by decide +kernel) (by decide +kernel), rfl, ⟨by decide +kernel, by decide +kernel⟩, by decide +kernel, by decide +kernel, by decide, by decide, fun h => absurd h (by decide)⟩
abbrev mX5_init : MI := (5, yX5_init, cX5_init, 1, none, 0, 2)
set_option maxRecDepth 100000 in
theorem oX5_init : MOk mX5_init := ⟨mem_g 94 (by decide +kernel) (by decide +kernel), fun h => absurd h (by decide), fun _ => mem_g 93 (by decide +kernel) (by decide +kernel), fun h => absurd h (by decide), mem_g 68 (by decide +kernel) (by decide +kernel), rfl, ⟨by decide +kernel, by decide +kernel⟩, by decide +kernel, by decide +kernel, by decide, by decide, fun _ => ⟨rfl, rfl⟩⟩
abbrev mX5_load : MI := (5, yX5_load, cX5_load, 3, none, 2, 0)
set_option maxRecDepth 100000 in
theorem oX5_load : MOk mX5_load := ⟨mem_g 335 (by decide +kernel) (by decide +kernel), fun h => absurd h (by decide), fun _ => mem_g 333 (by decide +kernel) (by decide +kernel), fun _ => mem_g 334 (by decide +kernel) (by decide +kernel), mem_g 68 (by decide +kernel) (by decide +kernel), rfl, ⟨by decide +kernel, by decide +kernel⟩, by decide +kernel, by decide +kernel, by decide, by decide, fun h => absurd h (by decide)⟩
abbrev mX5_copyOf : MI := (5, yX5_copyOf, cX5_copyOf, 2, none, 1, 0)
set_option maxRecDepth 100000 in
theorem oX5_copyOf : MOk mX5_copyOf := ⟨mem_g 419 (by decide +kernel) (by decide +kernel), fun h => absurd h (by decide), fun _ => mem_g 417 (by decide +kernel) (by decide +kernel), fun _ => mem_g 418 (by decide +kernel) (by decide +kernel), mem_g 68 (by decide +kernel) (by decide +kernel), rfl, ⟨by decide +kernel, by decide +kernel⟩, by decide +kernel, by decide +kernel, by decide, by decide, fun h => absurd h (by decide)⟩
abbrev mX5_append : MI := (5, yX5_append, cX5_append, 5, (some .boolean), 3, 0)
set_option maxRecDepth 100000 in
theorem oX5_append : MOk mX5_append := ⟨mem_g 339 (by decide +kernel) (by decide +kernel), fun h => absurd h (by decide), fun _ => mem_g 337 (by decide +kernel) (by decide +kernel), fun _ => mem_g 338 (by decide +kernel) (by decide +kernel), mem_g 68 (by decide +kernel) (by decide +kernel), rfl, ⟨by decide +kernel, by decide +kernel⟩, by decide +kernel, by decide +kernel, by decide, by decide, fun h => absurd h (by decide)⟩
abbrev mX5_kindOf : MI := (5, yX5_kindOf, cX5_kindOf, 3, (some .int), 1, 0)
set_option maxRecDepth 100000 in
theorem oX5_kindOf : MOk mX5_kindOf := ⟨mem_g 387 (by decide +kernel) (by decide +kernel), fun h => absurd h (by decide), fun _ => mem_g 385 (by decide +kernel) (by decide +kernel), fun _ => mem_g 386 (by decide +kernel) (by decide +kernel), mem_g 68 (by decide +kernel) (by decide +kernel), rfl, ⟨by decide +kernel, by decide +kernel⟩, by decide +kernel, by decide +kernel, by decide, by decide, fun h => absurd h (by decide)⟩
abbrev mX5_next : MI := (5, yX5_next, cX5_next, 2, (some .int), 1, 0)
set_option maxRecDepth 100000 in
theorem oX5_next : MOk mX5_next := ⟨mem_g 434 (by decide +kernel) (by decide +kernel), fun h => absurd h (by decide), fun _ => mem_g 432 (by decide +kernel) (by decide +kernel), fun _ => mem_g 433 (by decide +kernel) (by decide +kernel), mem_g 68 (by decide +kernel) (by decide +kernel), rfl, ⟨by decide +kernel, by decide +kernel⟩, by decide +kernel, by decide +kernel, by decide, by decide, fun h => absurd h (by decide)⟩
abbrev mX5_lastByteBehind : MI := (5, yX5_lastByteBehind, cX5_lastByteBehind, 5, (some .int), 2, 0)
set_option maxRecDepth 100000 in
theorem oX5_lastByteBehind : MOk mX5_lastByteBehind := ⟨mem_g 702 (by decide +kernel) (by decide +kernel), fun h => absurd h (by decide), fun _ => mem_g 700 (by decide +kernel) (by decide +kernel), fun _ => mem_g 701 (by decide +kernel) (by decide +kernel), mem_g 68 (by decide +kernel) (by decide +kernel), rfl, ⟨by decide +kernel, by decide +kernel⟩, by decide +kernel, by decide +kernel, by decide, by decide, fun h => absurd h (by decide)⟩
abbrev mX5_markAlike : MI := (5, yX5_markAlike, cX5_markAlike, 3, none, 0, 0)
set_option maxRecDepth 100000 in
theorem oX5_markAlike : MOk mX5_markAlike := ⟨mem_g 423 (by decide +kernel) (by decide +kernel), fun h => absurd h (by decide), fun _ => mem_g 421 (by decide +kernel) (by decide +kernel), fun _ => mem_g 422 (by decide +kernel) (by decide +kernel), mem_g 68 (by decide +kernel) (by decide +kernel), rfl, ⟨by decide +kernel, by decide +kernel⟩, by decide +kernel, by decide +kernel, by decide, by decide, fun h => absurd h (by decide)⟩
abbrev mX5_looksAlike : MI := (5, yX5_looksAlike, cX5_looksAlike, 6, (some .boolean), 2, 0)
set_option maxRecDepth 100000 in
theorem oX5_looksAlike : MOk mX5_looksAlike := ⟨mem_g 427 (by decide +kernel) (by decide +kernel), fun h => absurd h (by decide), fun _ => mem_g 426 (by decide +kernel) (by decide +kernel), fun _ => mem_g 14 (by decide +kernel) (by decide +kernel), mem_g 68 (by decide +kernel) (by decide +kernel), rfl, ⟨by decide +kernel, by decide +kernel⟩, by decide +kernel, by decide +kernel, by decide, by decide, fun h => absurd h (by decide)⟩
abbrev mX5_sameAtom : MI := (5, yX5_sameAtom, cX5_sameAtom, 8, (some .boolean), 4, 1)
set_option maxRecDepth 100000 in
theorem oX5_sameAtom : MOk mX5_sameAtom := ⟨mem_g 430 (by decide +kernel) (by decide +kernel), fun _ => mem_g 429 (by decide +kernel) (by decide +kernel), fun h => absurd rfl h, fun h => absurd h (by decide), mem_g 68 (by decide +kernel) (by decide +kernel), rfl, ⟨by decide +kernel, by decide +kernel⟩, by decide +kernel, by decide +kernel, by decide, by decide, fun h => absurd h (by decide)⟩
abbrev mX6_init : MI := (6, yX6_init, cX6_init, 1, none, 0, 2)
set_option maxRecDepth 100000 in
theorem oX6_init : MOk mX6_init := ⟨mem_g 86 (by decide +kernel) (by decide +kernel), fun h => absurd h (by decide), fun _ => mem_g 85 (by decide +kernel) (by decide +kernel), fun h => absurd h (by decide), mem_g 67 (by decide +kernel) (by decide +kernel), rfl, ⟨by decide +kernel, by decide +kernel⟩, by decide +kernel, by decide +kernel, by decide, by decide, fun _ => ⟨rfl, rfl⟩⟩
abbrev mX6_feed : MI := (6, yX6_feed, cX6_feed, 7, (some .int), 5, 0)
set_option maxRecDepth 100000 in
theorem oX6_feed : MOk mX6_feed := ⟨mem_g 484 (by decide +kernel) (by decide +kernel), fun h => absurd h (by decide), fun _ => mem_g 482 (by decide +kernel) (by decide +kernel), fun _ => mem_g 483 (by decide +kernel) (by decide +kernel), mem_g 67 (by decide +kernel) (by decide +kernel), rfl, ⟨by decide +kernel, by decide +kernel⟩, by decide +kernel, by decide +kernel, by decide, by decide, fun h => absurd h (by decide)⟩
abbrev mX6_end : MI := (6, yX6_end, cX6_end, 2, (some .boolean), 1, 0)
set_option maxRecDepth 100000 in
theorem oX6_end : MOk mX6_end := ⟨mem_g 492 (by decide +kernel) (by decide +kernel), fun h => absurd h (by decide), fun _ => mem_g 490 (by decide +kernel) (by decide +kernel), fun _ => mem_g 491 (by decide +kernel) (by decide +kernel), mem_g 67 (by decide +kernel) (by decide +kernel), rfl, ⟨by decide +kernel, by decide +kernel⟩, by decide +kernel, by decide +kernel, by decide, by decide, fun h => absurd h (by decide)⟩
abbrev mX6_fault : MI := (6, yX6_fault, cX6_fault, 2, (some .int), 1, 0)
set_option maxRecDepth 100000 in
theorem oX6_fault : MOk mX6_fault := ⟨mem_g 496 (by decide +kernel) (by decide +kernel), fun h => absurd h (by decide), fun _ => mem_g 494 (by decide +kernel) (by decide +kernel), fun _ => mem_g 495 (by decide +kernel) (by decide +kernel), mem_g 67 (by decide +kernel) (by decide +kernel), rfl, ⟨by decide +kernel, by decide +kernel⟩, by decide +kernel, by decide +kernel, by decide, by decide, fun h => absurd h (by decide)⟩
abbrev mX6_take : MI := (6, yX6_take, cX6_take, 2, (some .boolean), 1, 0)
set_option maxRecDepth 100000 in
theorem oX6_take : MOk mX6_take := ⟨mem_g 504 (by decide +kernel) (by decide +kernel), fun h => absurd h (by decide), fun _ => mem_g 502 (by decide +kernel) (by decide +kernel), fun _ => mem_g 503 (by decide +kernel) (by decide +kernel), mem_g 67 (by decide +kernel) (by decide +kernel), rfl, ⟨by decide +kernel, by decide +kernel⟩, by decide +kernel, by decide +kernel, by decide, by decide, fun h => absurd h (by decide)⟩
abbrev mX6_differ : MI := (6, yX6_differ, cX6_differ, 4, (some .boolean), 3, 0)
set_option maxRecDepth 100000 in
theorem oX6_differ : MOk mX6_differ := ⟨mem_g 516 (by decide +kernel) (by decide +kernel), fun h => absurd h (by decide), fun _ => mem_g 514 (by decide +kernel) (by decide +kernel), fun _ => mem_g 515 (by decide +kernel) (by decide +kernel), mem_g 67 (by decide +kernel) (by decide +kernel), rfl, ⟨by decide +kernel, by decide +kernel⟩, by decide +kernel, by decide +kernel, by decide, by decide, fun h => absurd h (by decide)⟩
abbrev mX6_nodes : MI := (6, yX6_nodes, cX6_nodes, 1, (some .int), 0, 0)
set_option maxRecDepth 100000 in
theorem oX6_nodes : MOk mX6_nodes := ⟨mem_g 531 (by decide +kernel) (by decide +kernel), fun h => absurd h (by decide), fun _ => mem_g 529 (by decide +kernel) (by decide +kernel), fun _ => mem_g 530 (by decide +kernel) (by decide +kernel), mem_g 67 (by decide +kernel) (by decide +kernel), rfl, ⟨by decide +kernel, by decide +kernel⟩, by decide +kernel, by decide +kernel, by decide, by decide, fun h => absurd h (by decide)⟩
abbrev mX6_node : MI := (6, yX6_node, cX6_node, 3, (some .int), 2, 0)
set_option maxRecDepth 100000 in
theorem oX6_node : MOk mX6_node := ⟨mem_g 535 (by decide +kernel) (by decide +kernel), fun h => absurd h (by decide), fun _ => mem_g 533 (by decide +kernel) (by decide +kernel), fun _ => mem_g 534 (by decide +kernel) (by decide +kernel), mem_g 67 (by decide +kernel) (by decide +kernel), rfl, ⟨by decide +kernel, by decide +kernel⟩, by decide +kernel, by decide +kernel, by decide, by decide, fun h => absurd h (by decide)⟩
abbrev mX6_alike : MI := (6, yX6_alike, cX6_alike, 3, (some .boolean), 2, 0)
set_option maxRecDepth 100000 in
theorem oX6_alike : MOk mX6_alike := ⟨mem_g 546 (by decide +kernel) (by decide +kernel), fun h => absurd h (by decide), fun _ => mem_g 544 (by decide +kernel) (by decide +kernel), fun _ => mem_g 545 (by decide +kernel) (by decide +kernel), mem_g 67 (by decide +kernel) (by decide +kernel), rfl, ⟨by decide +kernel, by decide +kernel⟩, by decide +kernel, by decide +kernel, by decide, by decide, fun h => absurd h (by decide)⟩
abbrev mX6_matches : MI := (6, yX6_matches, cX6_matches, 1, (some .int), 0, 0)
set_option maxRecDepth 100000 in
theorem oX6_matches : MOk mX6_matches := ⟨mem_g 550 (by decide +kernel) (by decide +kernel), fun h => absurd h (by decide), fun _ => mem_g 548 (by decide +kernel) (by decide +kernel), fun _ => mem_g 549 (by decide +kernel) (by decide +kernel), mem_g 67 (by decide +kernel) (by decide +kernel), rfl, ⟨by decide +kernel, by decide +kernel⟩, by decide +kernel, by decide +kernel, by decide, by decide, fun h => absurd h (by decide)⟩
abbrev mX6_match : MI := (6, yX6_match, cX6_match, 2, (some .int), 1, 0)
set_option maxRecDepth 100000 in
theorem oX6_match : MOk mX6_match := ⟨mem_g 601 (by decide +kernel) (by decide +kernel), fun h => absurd h (by decide), fun _ => mem_g 599 (by decide +kernel) (by decide +kernel), fun _ => mem_g 600 (by decide +kernel) (by decide +kernel), mem_g 67 (by decide +kernel) (by decide +kernel), rfl, ⟨by decide +kernel, by decide +kernel⟩, by decide +kernel, by decide +kernel, by decide, by decide, fun h => absurd h (by decide)⟩
abbrev mX6_hole : MI := (6, yX6_hole, cX6_hole, 3, (some .int), 2, 0)
set_option maxRecDepth 100000 in
theorem oX6_hole : MOk mX6_hole := ⟨mem_g 609 (by decide +kernel) (by decide +kernel), fun h => absurd h (by decide), fun _ => mem_g 607 (by decide +kernel) (by decide +kernel), fun _ => mem_g 608 (by decide +kernel) (by decide +kernel), mem_g 67 (by decide +kernel) (by decide +kernel), rfl, ⟨by decide +kernel, by decide +kernel⟩, by decide +kernel, by decide +kernel, by decide, by decide, fun h => absurd h (by decide)⟩
abbrev mX6_row : MI := (6, yX6_row, cX6_row, 3, (some .int), 2, 0)
set_option maxRecDepth 100000 in
theorem oX6_row : MOk mX6_row := ⟨mem_g 623 (by decide +kernel) (by decide +kernel), fun h => absurd h (by decide), fun _ => mem_g 621 (by decide +kernel) (by decide +kernel), fun _ => mem_g 622 (by decide +kernel) (by decide +kernel), mem_g 67 (by decide +kernel) (by decide +kernel), rfl, ⟨by decide +kernel, by decide +kernel⟩, by decide +kernel, by decide +kernel, by decide, by decide, fun h => absurd h (by decide)⟩
abbrev mX6_taken : MI := (6, yX6_taken, cX6_taken, 2, (some .int), 1, 0)
set_option maxRecDepth 100000 in
theorem oX6_taken : MOk mX6_taken := ⟨mem_g 631 (by decide +kernel) (by decide +kernel), fun h => absurd h (by decide), fun _ => mem_g 629 (by decide +kernel) (by decide +kernel), fun _ => mem_g 630 (by decide +kernel) (by decide +kernel), mem_g 67 (by decide +kernel) (by decide +kernel), rfl, ⟨by decide +kernel, by decide +kernel⟩, by decide +kernel, by decide +kernel, by decide, by decide, fun h => absurd h (by decide)⟩
abbrev mX6_takes : MI := (6, yX6_takes, cX6_takes, 3, (some .int), 2, 0)
set_option maxRecDepth 100000 in
theorem oX6_takes : MOk mX6_takes := ⟨mem_g 648 (by decide +kernel) (by decide +kernel), fun h => absurd h (by decide), fun _ => mem_g 646 (by decide +kernel) (by decide +kernel), fun _ => mem_g 647 (by decide +kernel) (by decide +kernel), mem_g 67 (by decide +kernel) (by decide +kernel), rfl, ⟨by decide +kernel, by decide +kernel⟩, by decide +kernel, by decide +kernel, by decide, by decide, fun h => absurd h (by decide)⟩
abbrev mX6_put : MI := (6, yX6_put, cX6_put, 3, (some .int), 1, 0)
set_option maxRecDepth 100000 in
theorem oX6_put : MOk mX6_put := ⟨mem_g 652 (by decide +kernel) (by decide +kernel), fun h => absurd h (by decide), fun _ => mem_g 650 (by decide +kernel) (by decide +kernel), fun _ => mem_g 651 (by decide +kernel) (by decide +kernel), mem_g 67 (by decide +kernel) (by decide +kernel), rfl, ⟨by decide +kernel, by decide +kernel⟩, by decide +kernel, by decide +kernel, by decide, by decide, fun h => absurd h (by decide)⟩
abbrev mX6_putAll : MI := (6, yX6_putAll, cX6_putAll, 4, (some .int), 1, 0)
set_option maxRecDepth 100000 in
theorem oX6_putAll : MOk mX6_putAll := ⟨mem_g 711 (by decide +kernel) (by decide +kernel), fun h => absurd h (by decide), fun _ => mem_g 709 (by decide +kernel) (by decide +kernel), fun _ => mem_g 710 (by decide +kernel) (by decide +kernel), mem_g 67 (by decide +kernel) (by decide +kernel), rfl, ⟨by decide +kernel, by decide +kernel⟩, by decide +kernel, by decide +kernel, by decide, by decide, fun h => absurd h (by decide)⟩
abbrev mX6_back : MI := (6, yX6_back, cX6_back, 1, (some .boolean), 0, 0)
set_option maxRecDepth 100000 in
theorem oX6_back : MOk mX6_back := ⟨mem_g 724 (by decide +kernel) (by decide +kernel), fun h => absurd h (by decide), fun _ => mem_g 722 (by decide +kernel) (by decide +kernel), fun _ => mem_g 723 (by decide +kernel) (by decide +kernel), mem_g 67 (by decide +kernel) (by decide +kernel), rfl, ⟨by decide +kernel, by decide +kernel⟩, by decide +kernel, by decide +kernel, by decide, by decide, fun h => absurd h (by decide)⟩
abbrev mX6_at : MI := (6, yX6_at, cX6_at, 2, (some .int), 1, 0)
set_option maxRecDepth 100000 in
theorem oX6_at : MOk mX6_at := ⟨mem_g 740 (by decide +kernel) (by decide +kernel), fun h => absurd h (by decide), fun _ => mem_g 738 (by decide +kernel) (by decide +kernel), fun _ => mem_g 739 (by decide +kernel) (by decide +kernel), mem_g 67 (by decide +kernel) (by decide +kernel), rfl, ⟨by decide +kernel, by decide +kernel⟩, by decide +kernel, by decide +kernel, by decide, by decide, fun h => absurd h (by decide)⟩
abbrev mX6_count : MI := (6, yX6_count, cX6_count, 2, (some .int), 1, 0)
set_option maxRecDepth 100000 in
theorem oX6_count : MOk mX6_count := ⟨mem_g 732 (by decide +kernel) (by decide +kernel), fun h => absurd h (by decide), fun _ => mem_g 730 (by decide +kernel) (by decide +kernel), fun _ => mem_g 731 (by decide +kernel) (by decide +kernel), mem_g 67 (by decide +kernel) (by decide +kernel), rfl, ⟨by decide +kernel, by decide +kernel⟩, by decide +kernel, by decide +kernel, by decide, by decide, fun h => absurd h (by decide)⟩
abbrev mX6_writeFed : MI := (6, yX6_writeFed, cX6_writeFed, 6, (some .int), 2, 0)
set_option maxRecDepth 100000 in
theorem oX6_writeFed : MOk mX6_writeFed := ⟨mem_g 488 (by decide +kernel) (by decide +kernel), fun h => absurd h (by decide), fun _ => mem_g 487 (by decide +kernel) (by decide +kernel), fun _ => mem_g 16 (by decide +kernel) (by decide +kernel), mem_g 67 (by decide +kernel) (by decide +kernel), rfl, ⟨by decide +kernel, by decide +kernel⟩, by decide +kernel, by decide +kernel, by decide, by decide, fun h => absurd h (by decide)⟩
abbrev mX6_readTape : MI := (6, yX6_readTape, cX6_readTape, 2, (some .int), 1, 0)
set_option maxRecDepth 100000 in
theorem oX6_readTape : MOk mX6_readTape := ⟨mem_g 500 (by decide +kernel) (by decide +kernel), fun h => absurd h (by decide), fun _ => mem_g 499 (by decide +kernel) (by decide +kernel), fun _ => mem_g 17 (by decide +kernel) (by decide +kernel), mem_g 67 (by decide +kernel) (by decide +kernel), rfl, ⟨by decide +kernel, by decide +kernel⟩, by decide +kernel, by decide +kernel, by decide, by decide, fun h => absurd h (by decide)⟩
abbrev mX6_adoptSpare : MI := (6, yX6_adoptSpare, cX6_adoptSpare, 3, none, 1, 0)
set_option maxRecDepth 100000 in
theorem oX6_adoptSpare : MOk mX6_adoptSpare := ⟨mem_g 415 (by decide +kernel) (by decide +kernel), fun h => absurd h (by decide), fun _ => mem_g 414 (by decide +kernel) (by decide +kernel), fun _ => mem_g 13 (by decide +kernel) (by decide +kernel), mem_g 67 (by decide +kernel) (by decide +kernel), rfl, ⟨by decide +kernel, by decide +kernel⟩, by decide +kernel, by decide +kernel, by decide, by decide, fun h => absurd h (by decide)⟩
abbrev mX6_restoreWritten : MI := (6, yX6_restoreWritten, cX6_restoreWritten, 1, none, 0, 0)
set_option maxRecDepth 100000 in
theorem oX6_restoreWritten : MOk mX6_restoreWritten := ⟨mem_g 715 (by decide +kernel) (by decide +kernel), fun h => absurd h (by decide), fun _ => mem_g 714 (by decide +kernel) (by decide +kernel), fun _ => mem_g 36 (by decide +kernel) (by decide +kernel), mem_g 67 (by decide +kernel) (by decide +kernel), rfl, ⟨by decide +kernel, by decide +kernel⟩, by decide +kernel, by decide +kernel, by decide, by decide, fun h => absurd h (by decide)⟩
abbrev mX6_putOnce : MI := (6, yX6_putOnce, cX6_putOnce, 2, (some .int), 1, 0)
set_option maxRecDepth 100000 in
theorem oX6_putOnce : MOk mX6_putOnce := ⟨mem_g 665 (by decide +kernel) (by decide +kernel), fun h => absurd h (by decide), fun _ => mem_g 664 (by decide +kernel) (by decide +kernel), fun _ => mem_g 29 (by decide +kernel) (by decide +kernel), mem_g 67 (by decide +kernel) (by decide +kernel), rfl, ⟨by decide +kernel, by decide +kernel⟩, by decide +kernel, by decide +kernel, by decide, by decide, fun h => absurd h (by decide)⟩
abbrev mX6_mayPut : MI := (6, yX6_mayPut, cX6_mayPut, 4, (some .boolean), 1, 0)
set_option maxRecDepth 100000 in
theorem oX6_mayPut : MOk mX6_mayPut := ⟨mem_g 656 (by decide +kernel) (by decide +kernel), fun h => absurd h (by decide), fun _ => mem_g 655 (by decide +kernel) (by decide +kernel), fun _ => mem_g 28 (by decide +kernel) (by decide +kernel), mem_g 67 (by decide +kernel) (by decide +kernel), rfl, ⟨by decide +kernel, by decide +kernel⟩, by decide +kernel, by decide +kernel, by decide, by decide, fun h => absurd h (by decide)⟩
abbrev mX6_isBound : MI := (6, yX6_isBound, cX6_isBound, 3, (some .boolean), 2, 0)
set_option maxRecDepth 100000 in
theorem oX6_isBound : MOk mX6_isBound := ⟨mem_g 613 (by decide +kernel) (by decide +kernel), fun h => absurd h (by decide), fun _ => mem_g 612 (by decide +kernel) (by decide +kernel), fun _ => mem_g 26 (by decide +kernel) (by decide +kernel), mem_g 67 (by decide +kernel) (by decide +kernel), rfl, ⟨by decide +kernel, by decide +kernel⟩, by decide +kernel, by decide +kernel, by decide, by decide, fun h => absurd h (by decide)⟩
abbrev mX6_isNode : MI := (6, yX6_isNode, cX6_isNode, 2, (some .boolean), 1, 0)
set_option maxRecDepth 100000 in
theorem oX6_isNode : MOk mX6_isNode := ⟨mem_g 539 (by decide +kernel) (by decide +kernel), fun h => absurd h (by decide), fun _ => mem_g 538 (by decide +kernel) (by decide +kernel), fun _ => mem_g 18 (by decide +kernel) (by decide +kernel), mem_g 67 (by decide +kernel) (by decide +kernel), rfl, ⟨by decide +kernel, by decide +kernel⟩, by decide +kernel, by decide +kernel, by decide, by decide, fun h => absurd h (by decide)⟩
abbrev mX6_isLetter : MI := (6, yX6_isLetter, cX6_isLetter, 1, (some .boolean), 1, 1)
set_option maxRecDepth 100000 in
theorem oX6_isLetter : MOk mX6_isLetter := ⟨mem_g 519 (by decide +kernel) (by decide +kernel), fun _ => mem_g 518 (by decide +kernel) (by decide +kernel), fun h => absurd rfl h, fun h => absurd h (by decide), mem_g 67 (by decide +kernel) (by decide +kernel), rfl, ⟨by decide +kernel, by decide +kernel⟩, by decide +kernel, by decide +kernel, by decide, by decide, fun h => absurd h (by decide)⟩
abbrev mX6_isRule : MI := (6, yX6_isRule, cX6_isRule, 1, (some .boolean), 1, 1)
set_option maxRecDepth 100000 in
theorem oX6_isRule : MOk mX6_isRule := ⟨mem_g 634 (by decide +kernel) (by decide +kernel), fun _ => mem_g 633 (by decide +kernel) (by decide +kernel), fun h => absurd rfl h, fun h => absurd h (by decide), mem_g 67 (by decide +kernel) (by decide +kernel), rfl, ⟨by decide +kernel, by decide +kernel⟩, by decide +kernel, by decide +kernel, by decide, by decide, fun h => absurd h (by decide)⟩
abbrev mX6_isSmall : MI := (6, yX6_isSmall, cX6_isSmall, 1, (some .boolean), 1, 1)
set_option maxRecDepth 100000 in
theorem oX6_isSmall : MOk mX6_isSmall := ⟨mem_g 383 (by decide +kernel) (by decide +kernel), fun _ => mem_g 382 (by decide +kernel) (by decide +kernel), fun h => absurd rfl h, fun h => absurd h (by decide), mem_g 67 (by decide +kernel) (by decide +kernel), rfl, ⟨by decide +kernel, by decide +kernel⟩, by decide +kernel, by decide +kernel, by decide, by decide, fun h => absurd h (by decide)⟩
abbrev mX6_isAtomByte : MI := (6, yX6_isAtomByte, cX6_isAtomByte, 1, (some .boolean), 1, 1)
set_option maxRecDepth 100000 in
theorem oX6_isAtomByte : MOk mX6_isAtomByte := ⟨mem_g 368 (by decide +kernel) (by decide +kernel), fun _ => mem_g 367 (by decide +kernel) (by decide +kernel), fun h => absurd rfl h, fun h => absurd h (by decide), mem_g 67 (by decide +kernel) (by decide +kernel), rfl, ⟨by decide +kernel, by decide +kernel⟩, by decide +kernel, by decide +kernel, by decide, by decide, fun h => absurd h (by decide)⟩
abbrev mX6_isBlank : MI := (6, yX6_isBlank, cX6_isBlank, 1, (some .boolean), 1, 1)
set_option maxRecDepth 100000 in
theorem oX6_isBlank : MOk mX6_isBlank := ⟨mem_g 357 (by decide +kernel) (by decide +kernel), fun _ => mem_g 356 (by decide +kernel) (by decide +kernel), fun h => absurd rfl h, fun h => absurd h (by decide), mem_g 67 (by decide +kernel) (by decide +kernel), rfl, ⟨by decide +kernel, by decide +kernel⟩, by decide +kernel, by decide +kernel, by decide, by decide, fun h => absurd h (by decide)⟩
abbrev mX7_init : MI := (7, yX7_init, cX7_init, 1, none, 0, 2)
set_option maxRecDepth 100000 in
theorem oX7_init : MOk mX7_init := ⟨mem_g 817 (by decide +kernel) (by decide +kernel), fun h => absurd h (by decide), fun _ => mem_g 816 (by decide +kernel) (by decide +kernel), fun h => absurd h (by decide), mem_g 76 (by decide +kernel) (by decide +kernel), rfl, ⟨by decide +kernel, by decide +kernel⟩, by decide +kernel, by decide +kernel, by decide, by decide, fun _ => ⟨rfl, rfl⟩⟩
abbrev mX7_term : MI := (7, yX7_term, cX7_term, 5, (some .int), 2, 0)
set_option maxRecDepth 100000 in
theorem oX7_term : MOk mX7_term := ⟨mem_g 1078 (by decide +kernel) (by decide +kernel), fun h => absurd h (by decide), fun _ => mem_g 1076 (by decide +kernel) (by decide +kernel), fun _ => mem_g 1077 (by decide +kernel) (by decide +kernel), mem_g 76 (by decide +kernel) (by decide +kernel), rfl, ⟨by decide +kernel, by decide +kernel⟩, by decide +kernel, by decide +kernel, by decide, by decide, fun h => absurd h (by decide)⟩
abbrev mX8_init : MI := (8, yX8_init, cX8_init, 3, none, 0, 2)
set_option maxRecDepth 100000 in
theorem oX8_init : MOk mX8_init := ⟨mem_g 811 (by decide +kernel) (by decide +kernel), fun h => absurd h (by decide), fun _ => mem_g 810 (by decide +kernel) (by decide +kernel), fun h => absurd h (by decide), mem_g 75 (by decide +kernel) (by decide +kernel), rfl, ⟨by decide +kernel, by decide +kernel⟩, by decide +kernel, by decide +kernel, by decide, by decide, fun _ => ⟨rfl, rfl⟩⟩
abbrev mX8_thrown : MI := (8, yX8_thrown, cX8_thrown, 1, (some .int), 0, 0)
set_option maxRecDepth 100000 in
theorem oX8_thrown : MOk mX8_thrown := ⟨mem_g 1033 (by decide +kernel) (by decide +kernel), fun h => absurd h (by decide), fun _ => mem_g 1031 (by decide +kernel) (by decide +kernel), fun _ => mem_g 1032 (by decide +kernel) (by decide +kernel), mem_g 75 (by decide +kernel) (by decide +kernel), rfl, ⟨by decide +kernel, by decide +kernel⟩, by decide +kernel, by decide +kernel, by decide, by decide, fun h => absurd h (by decide)⟩
abbrev mX8_isIn : MI := (8, yX8_isIn, cX8_isIn, 3, (some .boolean), 3, 1)
set_option maxRecDepth 100000 in
theorem oX8_isIn : MOk mX8_isIn := ⟨mem_g 873 (by decide +kernel) (by decide +kernel), fun _ => mem_g 872 (by decide +kernel) (by decide +kernel), fun h => absurd rfl h, fun h => absurd h (by decide), mem_g 75 (by decide +kernel) (by decide +kernel), rfl, ⟨by decide +kernel, by decide +kernel⟩, by decide +kernel, by decide +kernel, by decide, by decide, fun h => absurd h (by decide)⟩
abbrev mX8_look : MI := (8, yX8_look, cX8_look, 1, (some .int), 0, 0)
set_option maxRecDepth 100000 in
theorem oX8_look : MOk mX8_look := ⟨mem_g 885 (by decide +kernel) (by decide +kernel), fun h => absurd h (by decide), fun _ => mem_g 884 (by decide +kernel) (by decide +kernel), fun _ => mem_g 40 (by decide +kernel) (by decide +kernel), mem_g 75 (by decide +kernel) (by decide +kernel), rfl, ⟨by decide +kernel, by decide +kernel⟩, by decide +kernel, by decide +kernel, by decide, by decide, fun h => absurd h (by decide)⟩
abbrev mX8_isSmall : MI := (8, yX8_isSmall, cX8_isSmall, 1, (some .boolean), 1, 1)
set_option maxRecDepth 100000 in
theorem oX8_isSmall : MOk mX8_isSmall := ⟨mem_g 891 (by decide +kernel) (by decide +kernel), fun _ => mem_g 890 (by decide +kernel) (by decide +kernel), fun h => absurd rfl h, fun h => absurd h (by decide), mem_g 75 (by decide +kernel) (by decide +kernel), rfl, ⟨by decide +kernel, by decide +kernel⟩, by decide +kernel, by decide +kernel, by decide, by decide, fun h => absurd h (by decide)⟩
abbrev mX8_isAtom : MI := (8, yX8_isAtom, cX8_isAtom, 1, (some .boolean), 1, 1)
set_option maxRecDepth 100000 in
theorem oX8_isAtom : MOk mX8_isAtom := ⟨mem_g 888 (by decide +kernel) (by decide +kernel), fun _ => mem_g 887 (by decide +kernel) (by decide +kernel), fun h => absurd rfl h, fun h => absurd h (by decide), mem_g 75 (by decide +kernel) (by decide +kernel), rfl, ⟨by decide +kernel, by decide +kernel⟩, by decide +kernel, by decide +kernel, by decide, by decide, fun h => absurd h (by decide)⟩
abbrev mX8_wrong : MI := (8, yX8_wrong, cX8_wrong, 1, (some .boolean), 0, 0)
set_option maxRecDepth 100000 in
theorem oX8_wrong : MOk mX8_wrong := ⟨mem_g 907 (by decide +kernel) (by decide +kernel), fun h => absurd h (by decide), fun _ => mem_g 906 (by decide +kernel) (by decide +kernel), fun _ => mem_g 44 (by decide +kernel) (by decide +kernel), mem_g 75 (by decide +kernel) (by decide +kernel), rfl, ⟨by decide +kernel, by decide +kernel⟩, by decide +kernel, by decide +kernel, by decide, by decide, fun h => absurd h (by decide)⟩
abbrev mX8_adds : MI := (8, yX8_adds, cX8_adds, 4, (some .int), 2, 0)
set_option maxRecDepth 100000 in
theorem oX8_adds : MOk mX8_adds := ⟨mem_g 899 (by decide +kernel) (by decide +kernel), fun h => absurd h (by decide), fun _ => mem_g 898 (by decide +kernel) (by decide +kernel), fun _ => mem_g 42 (by decide +kernel) (by decide +kernel), mem_g 75 (by decide +kernel) (by decide +kernel), rfl, ⟨by decide +kernel, by decide +kernel⟩, by decide +kernel, by decide +kernel, by decide, by decide, fun h => absurd h (by decide)⟩
abbrev mX8_opens : MI := (8, yX8_opens, cX8_opens, 1, (some .boolean), 0, 0)
set_option maxRecDepth 100000 in
theorem oX8_opens : MOk mX8_opens := ⟨mem_g 903 (by decide +kernel) (by decide +kernel), fun h => absurd h (by decide), fun _ => mem_g 902 (by decide +kernel) (by decide +kernel), fun _ => mem_g 43 (by decide +kernel) (by decide +kernel), mem_g 75 (by decide +kernel) (by decide +kernel), rfl, ⟨by decide +kernel, by decide +kernel⟩, by decide +kernel, by decide +kernel, by decide, by decide, fun h => absurd h (by decide)⟩
abbrev mX8_lettered : MI := (8, yX8_lettered, cX8_lettered, 7, (some .boolean), 2, 0)
set_option maxRecDepth 100000 in
theorem oX8_lettered : MOk mX8_lettered := ⟨mem_g 911 (by decide +kernel) (by decide +kernel), fun h => absurd h (by decide), fun _ => mem_g 910 (by decide +kernel) (by decide +kernel), fun _ => mem_g 45 (by decide +kernel) (by decide +kernel), mem_g 75 (by decide +kernel) (by decide +kernel), rfl, ⟨by decide +kernel, by decide +kernel⟩, by decide +kernel, by decide +kernel, by decide, by decide, fun h => absurd h (by decide)⟩
abbrev mX8_piece : MI := (8, yX8_piece, cX8_piece, 5, (some .boolean), 2, 0)
set_option maxRecDepth 100000 in
theorem oX8_piece : MOk mX8_piece := ⟨mem_g 881 (by decide +kernel) (by decide +kernel), fun h => absurd h (by decide), fun _ => mem_g 880 (by decide +kernel) (by decide +kernel), fun _ => mem_g 39 (by decide +kernel) (by decide +kernel), mem_g 75 (by decide +kernel) (by decide +kernel), rfl, ⟨by decide +kernel, by decide +kernel⟩, by decide +kernel, by decide +kernel, by decide, by decide, fun h => absurd h (by decide)⟩
abbrev mX8_term : MI := (8, yX8_term, cX8_term, 3, (some .boolean), 1, 0)
set_option maxRecDepth 100000 in
theorem oX8_term : MOk mX8_term := ⟨mem_g 895 (by decide +kernel) (by decide +kernel), fun h => absurd h (by decide), fun _ => mem_g 894 (by decide +kernel) (by decide +kernel), fun _ => mem_g 41 (by decide +kernel) (by decide +kernel), mem_g 75 (by decide +kernel) (by decide +kernel), rfl, ⟨by decide +kernel, by decide +kernel⟩, by decide +kernel, by decide +kernel, by decide, by decide, fun h => absurd h (by decide)⟩
abbrev mX8_read : MI := (8, yX8_read, cX8_read, 7, (some .int), 5, 0)
set_option maxRecDepth 100000 in
theorem oX8_read : MOk mX8_read := ⟨mem_g 877 (by decide +kernel) (by decide +kernel), fun h => absurd h (by decide), fun _ => mem_g 876 (by decide +kernel) (by decide +kernel), fun _ => mem_g 38 (by decide +kernel) (by decide +kernel), mem_g 75 (by decide +kernel) (by decide +kernel), rfl, ⟨by decide +kernel, by decide +kernel⟩, by decide +kernel, by decide +kernel, by decide, by decide, fun h => absurd h (by decide)⟩
abbrev mX8_bytesIn : MI := (8, yX8_bytesIn, cX8_bytesIn, 3, (some .int), 1, 1)
set_option maxRecDepth 100000 in
theorem oX8_bytesIn : MOk mX8_bytesIn := ⟨mem_g 1040 (by decide +kernel) (by decide +kernel), fun _ => mem_g 1039 (by decide +kernel) (by decide +kernel), fun h => absurd rfl h, fun h => absurd h (by decide), mem_g 75 (by decide +kernel) (by decide +kernel), rfl, ⟨by decide +kernel, by decide +kernel⟩, by decide +kernel, by decide +kernel, by decide, by decide, fun h => absurd h (by decide)⟩
abbrev mX8_put4 : MI := (8, yX8_put4, cX8_put4, 3, none, 1, 0)
set_option maxRecDepth 100000 in
theorem oX8_put4 : MOk mX8_put4 := ⟨mem_g 1044 (by decide +kernel) (by decide +kernel), fun h => absurd h (by decide), fun _ => mem_g 1043 (by decide +kernel) (by decide +kernel), fun _ => mem_g 46 (by decide +kernel) (by decide +kernel), mem_g 75 (by decide +kernel) (by decide +kernel), rfl, ⟨by decide +kernel, by decide +kernel⟩, by decide +kernel, by decide +kernel, by decide, by decide, fun h => absurd h (by decide)⟩
abbrev mX8_feed : MI := (8, yX8_feed, cX8_feed, 6, (some .int), 5, 0)
set_option maxRecDepth 100000 in
theorem oX8_feed : MOk mX8_feed := ⟨mem_g 1037 (by decide +kernel) (by decide +kernel), fun h => absurd h (by decide), fun _ => mem_g 1035 (by decide +kernel) (by decide +kernel), fun _ => mem_g 1036 (by decide +kernel) (by decide +kernel), mem_g 75 (by decide +kernel) (by decide +kernel), rfl, ⟨by decide +kernel, by decide +kernel⟩, by decide +kernel, by decide +kernel, by decide, by decide, fun h => absurd h (by decide)⟩
abbrev mX8_end : MI := (8, yX8_end, cX8_end, 2, (some .boolean), 1, 0)
set_option maxRecDepth 100000 in
theorem oX8_end : MOk mX8_end := ⟨mem_g 1048 (by decide +kernel) (by decide +kernel), fun h => absurd h (by decide), fun _ => mem_g 1046 (by decide +kernel) (by decide +kernel), fun _ => mem_g 1047 (by decide +kernel) (by decide +kernel), mem_g 75 (by decide +kernel) (by decide +kernel), rfl, ⟨by decide +kernel, by decide +kernel⟩, by decide +kernel, by decide +kernel, by decide, by decide, fun h => absurd h (by decide)⟩
abbrev mX8_fault : MI := (8, yX8_fault, cX8_fault, 2, (some .int), 1, 0)
set_option maxRecDepth 100000 in
theorem oX8_fault : MOk mX8_fault := ⟨mem_g 870 (by decide +kernel) (by decide +kernel), fun h => absurd h (by decide), fun _ => mem_g 868 (by decide +kernel) (by decide +kernel), fun _ => mem_g 869 (by decide +kernel) (by decide +kernel), mem_g 75 (by decide +kernel) (by decide +kernel), rfl, ⟨by decide +kernel, by decide +kernel⟩, by decide +kernel, by decide +kernel, by decide, by decide, fun h => absurd h (by decide)⟩
abbrev mX8_take : MI := (8, yX8_take, cX8_take, 4, (some .boolean), 1, 0)
set_option maxRecDepth 100000 in
theorem oX8_take : MOk mX8_take := ⟨mem_g 866 (by decide +kernel) (by decide +kernel), fun h => absurd h (by decide), fun _ => mem_g 864 (by decide +kernel) (by decide +kernel), fun _ => mem_g 865 (by decide +kernel) (by decide +kernel), mem_g 75 (by decide +kernel) (by decide +kernel), rfl, ⟨by decide +kernel, by decide +kernel⟩, by decide +kernel, by decide +kernel, by decide, by decide, fun h => absurd h (by decide)⟩
abbrev mX8_differ : MI := (8, yX8_differ, cX8_differ, 4, (some .boolean), 3, 0)
set_option maxRecDepth 100000 in
theorem oX8_differ : MOk mX8_differ := ⟨mem_g 1054 (by decide +kernel) (by decide +kernel), fun h => absurd h (by decide), fun _ => mem_g 1052 (by decide +kernel) (by decide +kernel), fun _ => mem_g 1053 (by decide +kernel) (by decide +kernel), mem_g 75 (by decide +kernel) (by decide +kernel), rfl, ⟨by decide +kernel, by decide +kernel⟩, by decide +kernel, by decide +kernel, by decide, by decide, fun h => absurd h (by decide)⟩
abbrev mX8_isNode : MI := (8, yX8_isNode, cX8_isNode, 2, (some .boolean), 1, 0)
set_option maxRecDepth 100000 in
theorem oX8_isNode : MOk mX8_isNode := ⟨mem_g 1066 (by decide +kernel) (by decide +kernel), fun h => absurd h (by decide), fun _ => mem_g 1065 (by decide +kernel) (by decide +kernel), fun _ => mem_g 47 (by decide +kernel) (by decide +kernel), mem_g 75 (by decide +kernel) (by decide +kernel), rfl, ⟨by decide +kernel, by decide +kernel⟩, by decide +kernel, by decide +kernel, by decide, by decide, fun h => absurd h (by decide)⟩
abbrev mX8_nodes : MI := (8, yX8_nodes, cX8_nodes, 1, (some .int), 0, 0)
set_option maxRecDepth 100000 in
theorem oX8_nodes : MOk mX8_nodes := ⟨mem_g 1058 (by decide +kernel) (by decide +kernel), fun h => absurd h (by decide), fun _ => mem_g 1056 (by decide +kernel) (by decide +kernel), fun _ => mem_g 1057 (by decide +kernel) (by decide +kernel), mem_g 75 (by decide +kernel) (by decide +kernel), rfl, ⟨by decide +kernel, by decide +kernel⟩, by decide +kernel, by decide +kernel, by decide, by decide, fun h => absurd h (by decide)⟩
abbrev mX8_isAtomAlike : MI := (8, yX8_isAtomAlike, cX8_isAtomAlike, 8, (some .boolean), 4, 0)
set_option maxRecDepth 100000 in
theorem oX8_isAtomAlike : MOk mX8_isAtomAlike := ⟨mem_g 1074 (by decide +kernel) (by decide +kernel), fun h => absurd h (by decide), fun _ => mem_g 1073 (by decide +kernel) (by decide +kernel), fun _ => mem_g 49 (by decide +kernel) (by decide +kernel), mem_g 75 (by decide +kernel) (by decide +kernel), rfl, ⟨by decide +kernel, by decide +kernel⟩, by decide +kernel, by decide +kernel, by decide, by decide, fun h => absurd h (by decide)⟩
abbrev mX8_areAlike : MI := (8, yX8_areAlike, cX8_areAlike, 5, (some .boolean), 2, 0)
set_option maxRecDepth 100000 in
theorem oX8_areAlike : MOk mX8_areAlike := ⟨mem_g 1070 (by decide +kernel) (by decide +kernel), fun h => absurd h (by decide), fun _ => mem_g 1069 (by decide +kernel) (by decide +kernel), fun _ => mem_g 48 (by decide +kernel) (by decide +kernel), mem_g 75 (by decide +kernel) (by decide +kernel), rfl, ⟨by decide +kernel, by decide +kernel⟩, by decide +kernel, by decide +kernel, by decide, by decide, fun h => absurd h (by decide)⟩
abbrev mX8_alike : MI := (8, yX8_alike, cX8_alike, 3, (some .boolean), 2, 0)
set_option maxRecDepth 100000 in
theorem oX8_alike : MOk mX8_alike := ⟨mem_g 1062 (by decide +kernel) (by decide +kernel), fun h => absurd h (by decide), fun _ => mem_g 1060 (by decide +kernel) (by decide +kernel), fun _ => mem_g 1061 (by decide +kernel) (by decide +kernel), mem_g 75 (by decide +kernel) (by decide +kernel), rfl, ⟨by decide +kernel, by decide +kernel⟩, by decide +kernel, by decide +kernel, by decide, by decide, fun h => absurd h (by decide)⟩
abbrev mX8_isWithin : MI := (8, yX8_isWithin, cX8_isWithin, 4, (some .boolean), 2, 0)
set_option maxRecDepth 100000 in
theorem oX8_isWithin : MOk mX8_isWithin := ⟨mem_g 1110 (by decide +kernel) (by decide +kernel), fun h => absurd h (by decide), fun _ => mem_g 1109 (by decide +kernel) (by decide +kernel), fun _ => mem_g 56 (by decide +kernel) (by decide +kernel), mem_g 75 (by decide +kernel) (by decide +kernel), rfl, ⟨by decide +kernel, by decide +kernel⟩, by decide +kernel, by decide +kernel, by decide, by decide, fun h => absurd h (by decide)⟩
abbrev mX8_task : MI := (8, yX8_task, cX8_task, 7, (some .int), 5, 0)
set_option maxRecDepth 100000 in
theorem oX8_task : MOk mX8_task := ⟨mem_g 1094 (by decide +kernel) (by decide +kernel), fun h => absurd h (by decide), fun _ => mem_g 1093 (by decide +kernel) (by decide +kernel), fun _ => mem_g 52 (by decide +kernel) (by decide +kernel), mem_g 75 (by decide +kernel) (by decide +kernel), rfl, ⟨by decide +kernel, by decide +kernel⟩, by decide +kernel, by decide +kernel, by decide, by decide, fun h => absurd h (by decide)⟩
abbrev mX8_differAll : MI := (8, yX8_differAll, cX8_differAll, 3, (some .boolean), 0, 0)
set_option maxRecDepth 100000 in
theorem oX8_differAll : MOk mX8_differAll := ⟨mem_g 1102 (by decide +kernel) (by decide +kernel), fun h => absurd h (by decide), fun _ => mem_g 1101 (by decide +kernel) (by decide +kernel), fun _ => mem_g 54 (by decide +kernel) (by decide +kernel), mem_g 75 (by decide +kernel) (by decide +kernel), rfl, ⟨by decide +kernel, by decide +kernel⟩, by decide +kernel, by decide +kernel, by decide, by decide, fun h => absurd h (by decide)⟩
abbrev mX8_does : MI := (8, yX8_does, cX8_does, 4, (some .boolean), 1, 0)
set_option maxRecDepth 100000 in
theorem oX8_does : MOk mX8_does := ⟨mem_g 1098 (by decide +kernel) (by decide +kernel), fun h => absurd h (by decide), fun _ => mem_g 1097 (by decide +kernel) (by decide +kernel), fun _ => mem_g 53 (by decide +kernel) (by decide +kernel), mem_g 75 (by decide +kernel) (by decide +kernel), rfl, ⟨by decide +kernel, by decide +kernel⟩, by decide +kernel, by decide +kernel, by decide, by decide, fun h => absurd h (by decide)⟩
abbrev mX8_whole : MI := (8, yX8_whole, cX8_whole, 5, (some .boolean), 3, 0)
set_option maxRecDepth 100000 in
theorem oX8_whole : MOk mX8_whole := ⟨mem_g 1106 (by decide +kernel) (by decide +kernel), fun h => absurd h (by decide), fun _ => mem_g 1105 (by decide +kernel) (by decide +kernel), fun _ => mem_g 55 (by decide +kernel) (by decide +kernel), mem_g 75 (by decide +kernel) (by decide +kernel), rfl, ⟨by decide +kernel, by decide +kernel⟩, by decide +kernel, by decide +kernel, by decide, by decide, fun h => absurd h (by decide)⟩
abbrev mX8_isRowAlike : MI := (8, yX8_isRowAlike, cX8_isRowAlike, 7, (some .boolean), 4, 0)
set_option maxRecDepth 100000 in
theorem oX8_isRowAlike : MOk mX8_isRowAlike := ⟨mem_g 1118 (by decide +kernel) (by decide +kernel), fun h => absurd h (by decide), fun _ => mem_g 1117 (by decide +kernel) (by decide +kernel), fun _ => mem_g 58 (by decide +kernel) (by decide +kernel), mem_g 75 (by decide +kernel) (by decide +kernel), rfl, ⟨by decide +kernel, by decide +kernel⟩, by decide +kernel, by decide +kernel, by decide, by decide, fun h => absurd h (by decide)⟩
abbrev mX8_some : MI := (8, yX8_some, cX8_some, 11, (some .boolean), 1, 0)
set_option maxRecDepth 100000 in
theorem oX8_some : MOk mX8_some := ⟨mem_g 1114 (by decide +kernel) (by decide +kernel), fun h => absurd h (by decide), fun _ => mem_g 1113 (by decide +kernel) (by decide +kernel), fun _ => mem_g 57 (by decide +kernel) (by decide +kernel), mem_g 75 (by decide +kernel) (by decide +kernel), rfl, ⟨by decide +kernel, by decide +kernel⟩, by decide +kernel, by decide +kernel, by decide, by decide, fun h => absurd h (by decide)⟩
abbrev mX8_isMatched : MI := (8, yX8_isMatched, cX8_isMatched, 3, (some .boolean), 1, 0)
set_option maxRecDepth 100000 in
theorem oX8_isMatched : MOk mX8_isMatched := ⟨mem_g 1090 (by decide +kernel) (by decide +kernel), fun h => absurd h (by decide), fun _ => mem_g 1089 (by decide +kernel) (by decide +kernel), fun _ => mem_g 51 (by decide +kernel) (by decide +kernel), mem_g 75 (by decide +kernel) (by decide +kernel), rfl, ⟨by decide +kernel, by decide +kernel⟩, by decide +kernel, by decide +kernel, by decide, by decide, fun h => absurd h (by decide)⟩
abbrev mX8_all : MI := (8, yX8_all, cX8_all, 3, (some .int), 0, 0)
set_option maxRecDepth 100000 in
theorem oX8_all : MOk mX8_all := ⟨mem_g 1086 (by decide +kernel) (by decide +kernel), fun h => absurd h (by decide), fun _ => mem_g 1085 (by decide +kernel) (by decide +kernel), fun _ => mem_g 50 (by decide +kernel) (by decide +kernel), mem_g 75 (by decide +kernel) (by decide +kernel), rfl, ⟨by decide +kernel, by decide +kernel⟩, by decide +kernel, by decide +kernel, by decide, by decide, fun h => absurd h (by decide)⟩
abbrev mX8_matches : MI := (8, yX8_matches, cX8_matches, 1, (some .int), 0, 0)
set_option maxRecDepth 100000 in
theorem oX8_matches : MOk mX8_matches := ⟨mem_g 1082 (by decide +kernel) (by decide +kernel), fun h => absurd h (by decide), fun _ => mem_g 1080 (by decide +kernel) (by decide +kernel), fun _ => mem_g 1081 (by decide +kernel) (by decide +kernel), mem_g 75 (by decide +kernel) (by decide +kernel), rfl, ⟨by decide +kernel, by decide +kernel⟩, by decide +kernel, by decide +kernel, by decide, by decide, fun h => absurd h (by decide)⟩
abbrev mX8_match : MI := (8, yX8_match, cX8_match, 5, (some .int), 1, 0)
set_option maxRecDepth 100000 in
theorem oX8_match : MOk mX8_match := ⟨mem_g 1122 (by decide +kernel) (by decide +kernel), fun h => absurd h (by decide), fun _ => mem_g 1120 (by decide +kernel) (by decide +kernel), fun _ => mem_g 1121 (by decide +kernel) (by decide +kernel), mem_g 75 (by decide +kernel) (by decide +kernel), rfl, ⟨by decide +kernel, by decide +kernel⟩, by decide +kernel, by decide +kernel, by decide, by decide, fun h => absurd h (by decide)⟩
abbrev mX8_kindOf : MI := (8, yX8_kindOf, cX8_kindOf, 4, (some .int), 2, 0)
set_option maxRecDepth 100000 in
theorem oX8_kindOf : MOk mX8_kindOf := ⟨mem_g 1130 (by decide +kernel) (by decide +kernel), fun h => absurd h (by decide), fun _ => mem_g 1129 (by decide +kernel) (by decide +kernel), fun _ => mem_g 59 (by decide +kernel) (by decide +kernel), mem_g 75 (by decide +kernel) (by decide +kernel), rfl, ⟨by decide +kernel, by decide +kernel⟩, by decide +kernel, by decide +kernel, by decide, by decide, fun h => absurd h (by decide)⟩
abbrev mX8_hole : MI := (8, yX8_hole, cX8_hole, 3, (some .int), 2, 0)
set_option maxRecDepth 100000 in
theorem oX8_hole : MOk mX8_hole := ⟨mem_g 1126 (by decide +kernel) (by decide +kernel), fun h => absurd h (by decide), fun _ => mem_g 1124 (by decide +kernel) (by decide +kernel), fun _ => mem_g 1125 (by decide +kernel) (by decide +kernel), mem_g 75 (by decide +kernel) (by decide +kernel), rfl, ⟨by decide +kernel, by decide +kernel⟩, by decide +kernel, by decide +kernel, by decide, by decide, fun h => absurd h (by decide)⟩
abbrev mX8_row : MI := (8, yX8_row, cX8_row, 3, (some .int), 2, 0)
set_option maxRecDepth 100000 in
theorem oX8_row : MOk mX8_row := ⟨mem_g 1134 (by decide +kernel) (by decide +kernel), fun h => absurd h (by decide), fun _ => mem_g 1132 (by decide +kernel) (by decide +kernel), fun _ => mem_g 1133 (by decide +kernel) (by decide +kernel), mem_g 75 (by decide +kernel) (by decide +kernel), rfl, ⟨by decide +kernel, by decide +kernel⟩, by decide +kernel, by decide +kernel, by decide, by decide, fun h => absurd h (by decide)⟩
abbrev mX8_takeBy : MI := (8, yX8_takeBy, cX8_takeBy, 6, (some .int), 1, 0)
set_option maxRecDepth 100000 in
theorem oX8_takeBy : MOk mX8_takeBy := ⟨mem_g 1142 (by decide +kernel) (by decide +kernel), fun h => absurd h (by decide), fun _ => mem_g 1141 (by decide +kernel) (by decide +kernel), fun _ => mem_g 60 (by decide +kernel) (by decide +kernel), mem_g 75 (by decide +kernel) (by decide +kernel), rfl, ⟨by decide +kernel, by decide +kernel⟩, by decide +kernel, by decide +kernel, by decide, by decide, fun h => absurd h (by decide)⟩
abbrev mX8_taken : MI := (8, yX8_taken, cX8_taken, 2, (some .int), 1, 0)
set_option maxRecDepth 100000 in
theorem oX8_taken : MOk mX8_taken := ⟨mem_g 1138 (by decide +kernel) (by decide +kernel), fun h => absurd h (by decide), fun _ => mem_g 1136 (by decide +kernel) (by decide +kernel), fun _ => mem_g 1137 (by decide +kernel) (by decide +kernel), mem_g 75 (by decide +kernel) (by decide +kernel), rfl, ⟨by decide +kernel, by decide +kernel⟩, by decide +kernel, by decide +kernel, by decide, by decide, fun h => absurd h (by decide)⟩
abbrev mX8_takes : MI := (8, yX8_takes, cX8_takes, 6, (some .int), 2, 0)
set_option maxRecDepth 100000 in
theorem oX8_takes : MOk mX8_takes := ⟨mem_g 1146 (by decide +kernel) (by decide +kernel), fun h => absurd h (by decide), fun _ => mem_g 1144 (by decide +kernel) (by decide +kernel), fun _ => mem_g 1145 (by decide +kernel) (by decide +kernel), mem_g 75 (by decide +kernel) (by decide +kernel), rfl, ⟨by decide +kernel, by decide +kernel⟩, by decide +kernel, by decide +kernel, by decide, by decide, fun h => absurd h (by decide)⟩
abbrev mX8_copy : MI := (8, yX8_copy, cX8_copy, 5, none, 3, 0)
set_option maxRecDepth 100000 in
theorem oX8_copy : MOk mX8_copy := ⟨mem_g 1158 (by decide +kernel) (by decide +kernel), fun h => absurd h (by decide), fun _ => mem_g 1157 (by decide +kernel) (by decide +kernel), fun _ => mem_g 62 (by decide +kernel) (by decide +kernel), mem_g 75 (by decide +kernel) (by decide +kernel), rfl, ⟨by decide +kernel, by decide +kernel⟩, by decide +kernel, by decide +kernel, by decide, by decide, fun h => absurd h (by decide)⟩
abbrev mX8_strike : MI := (8, yX8_strike, cX8_strike, 7, none, 0, 0)
set_option maxRecDepth 100000 in
theorem oX8_strike : MOk mX8_strike := ⟨mem_g 1166 (by decide +kernel) (by decide +kernel), fun h => absurd h (by decide), fun _ => mem_g 1165 (by decide +kernel) (by decide +kernel), fun _ => mem_g 64 (by decide +kernel) (by decide +kernel), mem_g 75 (by decide +kernel) (by decide +kernel), rfl, ⟨by decide +kernel, by decide +kernel⟩, by decide +kernel, by decide +kernel, by decide, by decide, fun h => absurd h (by decide)⟩
abbrev mX8_write : MI := (8, yX8_write, cX8_write, 4, none, 0, 0)
set_option maxRecDepth 100000 in
theorem oX8_write : MOk mX8_write := ⟨mem_g 1162 (by decide +kernel) (by decide +kernel), fun h => absurd h (by decide), fun _ => mem_g 1161 (by decide +kernel) (by decide +kernel), fun _ => mem_g 63 (by decide +kernel) (by decide +kernel), mem_g 75 (by decide +kernel) (by decide +kernel), rfl, ⟨by decide +kernel, by decide +kernel⟩, by decide +kernel, by decide +kernel, by decide, by decide, fun h => absurd h (by decide)⟩
abbrev mX8_puts : MI := (8, yX8_puts, cX8_puts, 6, (some .int), 1, 0)
set_option maxRecDepth 100000 in
theorem oX8_puts : MOk mX8_puts := ⟨mem_g 1154 (by decide +kernel) (by decide +kernel), fun h => absurd h (by decide), fun _ => mem_g 1153 (by decide +kernel) (by decide +kernel), fun _ => mem_g 61 (by decide +kernel) (by decide +kernel), mem_g 75 (by decide +kernel) (by decide +kernel), rfl, ⟨by decide +kernel, by decide +kernel⟩, by decide +kernel, by decide +kernel, by decide, by decide, fun h => absurd h (by decide)⟩
abbrev mX8_keep : MI := (8, yX8_keep, cX8_keep, 3, none, 1, 0)
set_option maxRecDepth 100000 in
theorem oX8_keep : MOk mX8_keep := ⟨mem_g 1170 (by decide +kernel) (by decide +kernel), fun h => absurd h (by decide), fun _ => mem_g 1169 (by decide +kernel) (by decide +kernel), fun _ => mem_g 65 (by decide +kernel) (by decide +kernel), mem_g 75 (by decide +kernel) (by decide +kernel), rfl, ⟨by decide +kernel, by decide +kernel⟩, by decide +kernel, by decide +kernel, by decide, by decide, fun h => absurd h (by decide)⟩
abbrev mX8_put : MI := (8, yX8_put, cX8_put, 4, (some .int), 1, 0)
set_option maxRecDepth 100000 in
theorem oX8_put : MOk mX8_put := ⟨mem_g 1150 (by decide +kernel) (by decide +kernel), fun h => absurd h (by decide), fun _ => mem_g 1148 (by decide +kernel) (by decide +kernel), fun _ => mem_g 1149 (by decide +kernel) (by decide +kernel), mem_g 75 (by decide +kernel) (by decide +kernel), rfl, ⟨by decide +kernel, by decide +kernel⟩, by decide +kernel, by decide +kernel, by decide, by decide, fun h => absurd h (by decide)⟩
abbrev mX8_putAll : MI := (8, yX8_putAll, cX8_putAll, 5, (some .int), 1, 0)
set_option maxRecDepth 100000 in
theorem oX8_putAll : MOk mX8_putAll := ⟨mem_g 1174 (by decide +kernel) (by decide +kernel), fun h => absurd h (by decide), fun _ => mem_g 1172 (by decide +kernel) (by decide +kernel), fun _ => mem_g 1173 (by decide +kernel) (by decide +kernel), mem_g 75 (by decide +kernel) (by decide +kernel), rfl, ⟨by decide +kernel, by decide +kernel⟩, by decide +kernel, by decide +kernel, by decide, by decide, fun h => absurd h (by decide)⟩
abbrev mX8_back : MI := (8, yX8_back, cX8_back, 2, (some .boolean), 0, 0)
set_option maxRecDepth 100000 in
theorem oX8_back : MOk mX8_back := ⟨mem_g 1178 (by decide +kernel) (by decide +kernel), fun h => absurd h (by decide), fun _ => mem_g 1176 (by decide +kernel) (by decide +kernel), fun _ => mem_g 1177 (by decide +kernel) (by decide +kernel), mem_g 75 (by decide +kernel) (by decide +kernel), rfl, ⟨by decide +kernel, by decide +kernel⟩, by decide +kernel, by decide +kernel, by decide, by decide, fun h => absurd h (by decide)⟩
abbrev mX8_node : MI := (8, yX8_node, cX8_node, 3, (some .int), 2, 0)
set_option maxRecDepth 100000 in
theorem oX8_node : MOk mX8_node := ⟨mem_g 1182 (by decide +kernel) (by decide +kernel), fun h => absurd h (by decide), fun _ => mem_g 1180 (by decide +kernel) (by decide +kernel), fun _ => mem_g 1181 (by decide +kernel) (by decide +kernel), mem_g 75 (by decide +kernel) (by decide +kernel), rfl, ⟨by decide +kernel, by decide +kernel⟩, by decide +kernel, by decide +kernel, by decide, by decide, fun h => absurd h (by decide)⟩
abbrev mX8_at : MI := (8, yX8_at, cX8_at, 2, (some .int), 1, 0)
set_option maxRecDepth 100000 in
theorem oX8_at : MOk mX8_at := ⟨mem_g 1186 (by decide +kernel) (by decide +kernel), fun h => absurd h (by decide), fun _ => mem_g 1184 (by decide +kernel) (by decide +kernel), fun _ => mem_g 1185 (by decide +kernel) (by decide +kernel), mem_g 75 (by decide +kernel) (by decide +kernel), rfl, ⟨by decide +kernel, by decide +kernel⟩, by decide +kernel, by decide +kernel, by decide, by decide, fun h => absurd h (by decide)⟩
abbrev mX8_count : MI := (8, yX8_count, cX8_count, 2, (some .int), 1, 0)
set_option maxRecDepth 100000 in
theorem oX8_count : MOk mX8_count := ⟨mem_g 1190 (by decide +kernel) (by decide +kernel), fun h => absurd h (by decide), fun _ => mem_g 1188 (by decide +kernel) (by decide +kernel), fun _ => mem_g 1189 (by decide +kernel) (by decide +kernel), mem_g 75 (by decide +kernel) (by decide +kernel), rfl, ⟨by decide +kernel, by decide +kernel⟩, by decide +kernel, by decide +kernel, by decide, by decide, fun h => absurd h (by decide)⟩
set_option maxRecDepth 100000 in
theorem cO_9_15 : COk 9 15 mX6_init := Or.inl (mem_g 84 (by decide +kernel) (by decide +kernel))
set_option maxRecDepth 100000 in
theorem cO_6_38 : COk 6 38 mX1_init := Or.inl (mem_g 210 (by decide +kernel) (by decide +kernel))
set_option maxRecDepth 100000 in
theorem cO_6_47 : COk 6 47 mX0_init := Or.inl (mem_g 267 (by decide +kernel) (by decide +kernel))
set_option maxRecDepth 100000 in
theorem cO_6_56 : COk 6 56 mX3_init := Or.inl (mem_g 293 (by decide +kernel) (by decide +kernel))
set_option maxRecDepth 100000 in
theorem cO_6_70 : COk 6 70 mX5_load := Or.inl (mem_g 332 (by decide +kernel) (by decide +kernel))
set_option maxRecDepth 100000 in
theorem cO_5_49 : COk 5 49 mX5_append := Or.inl (mem_g 336 (by decide +kernel) (by decide +kernel))
set_option maxRecDepth 100000 in
theorem cO_6_74 : COk 6 74 mX4_readTree := Or.inl (mem_g 343 (by decide +kernel) (by decide +kernel))
set_option maxRecDepth 100000 in
theorem cO_4_9 : COk 4 9 mX4_start := Or.inl (mem_g 347 (by decide +kernel) (by decide +kernel))
set_option maxRecDepth 100000 in
theorem cO_4_21 : COk 4 21 mX4_skipBlanks := Or.inl (mem_g 351 (by decide +kernel) (by decide +kernel))
set_option maxRecDepth 100000 in
theorem cO_4_38 : COk 4 38 mX4_readToken := Or.inl (mem_g 358 (by decide +kernel) (by decide +kernel))
set_option maxRecDepth 100000 in
theorem cO_4_68 : COk 4 68 mX4_readPiece := Or.inl (mem_g 362 (by decide +kernel) (by decide +kernel))
set_option maxRecDepth 100000 in
theorem cO_4_84 : COk 4 84 mX4_readAtom := Or.inl (mem_g 369 (by decide +kernel) (by decide +kernel))
set_option maxRecDepth 100000 in
theorem cO_4_102 : COk 4 102 mX4_addPiece := Or.inl (mem_g 373 (by decide +kernel) (by decide +kernel))
set_option maxRecDepth 100000 in
theorem cO_4_87 : COk 4 87 mX4_readLettered := Or.inl (mem_g 377 (by decide +kernel) (by decide +kernel))
set_option maxRecDepth 100000 in
theorem cO_4_109 : COk 4 109 mX5_kindOf := Or.inl (mem_g 384 (by decide +kernel) (by decide +kernel))
set_option maxRecDepth 100000 in
theorem cO_4_90 : COk 4 90 mX4_rowMayStand := Or.inl (mem_g 388 (by decide +kernel) (by decide +kernel))
set_option maxRecDepth 100000 in
theorem cO_4_96 : COk 4 96 mX4_isWithinTerm := Or.inl (mem_g 392 (by decide +kernel) (by decide +kernel))
set_option maxRecDepth 100000 in
theorem cO_4_93 : COk 4 93 mX4_readDeep := Or.inl (mem_g 396 (by decide +kernel) (by decide +kernel))
set_option maxRecDepth 100000 in
theorem cO_4_71 : COk 4 71 mX4_readClosing := Or.inl (mem_g 400 (by decide +kernel) (by decide +kernel))
set_option maxRecDepth 100000 in
theorem cO_4_75 : COk 4 75 mX4_readOpening := Or.inl (mem_g 404 (by decide +kernel) (by decide +kernel))
set_option maxRecDepth 100000 in
theorem cO_4_78 : COk 4 78 mX4_readBehindPiece := Or.inl (mem_g 408 (by decide +kernel) (by decide +kernel))
set_option maxRecDepth 100000 in
theorem cO_6_78 : COk 6 78 mX6_adoptSpare := Or.inl (mem_g 412 (by decide +kernel) (by decide +kernel))
set_option maxRecDepth 100000 in
theorem cO_6_205 : COk 6 205 mX5_copyOf := Or.inl (mem_g 416 (by decide +kernel) (by decide +kernel))
set_option maxRecDepth 100000 in
theorem cO_6_208 : COk 6 208 mX5_markAlike := Or.inl (mem_g 420 (by decide +kernel) (by decide +kernel))
set_option maxRecDepth 100000 in
theorem cO_5_66 : COk 5 66 mX5_looksAlike := Or.inl (mem_g 424 (by decide +kernel) (by decide +kernel))
set_option maxRecDepth 100000 in
theorem cO_5_70 : COk 5 70 mX5_sameAtom := Or.inl (mem_g 428 (by decide +kernel) (by decide +kernel))
set_option maxRecDepth 100000 in
theorem cO_5_62 : COk 5 62 mX5_next := Or.inl (mem_g 431 (by decide +kernel) (by decide +kernel))
set_option maxRecDepth 100000 in
theorem cO_6_211 : COk 6 211 mX1_preparePattern := Or.inl (mem_g 435 (by decide +kernel) (by decide +kernel))
set_option maxRecDepth 100000 in
theorem cO_1_73 : COk 1 73 mX1_countSingles := Or.inl (mem_g 439 (by decide +kernel) (by decide +kernel))
set_option maxRecDepth 100000 in
theorem cO_6_214 : COk 6 214 mX1_forgetMatched := Or.inl (mem_g 443 (by decide +kernel) (by decide +kernel))
set_option maxRecDepth 100000 in
theorem cO_9_19 : COk 9 19 mX6_feed := Or.inl (mem_g 481 (by decide +kernel) (by decide +kernel))
set_option maxRecDepth 100000 in
theorem cO_6_86 : COk 6 86 mX6_writeFed := Or.inl (mem_g 485 (by decide +kernel) (by decide +kernel))
set_option maxRecDepth 100000 in
theorem cO_9_24 : COk 9 24 mX6_end := Or.inl (mem_g 489 (by decide +kernel) (by decide +kernel))
set_option maxRecDepth 100000 in
theorem cO_9_29 : COk 9 29 mX6_fault := Or.inl (mem_g 493 (by decide +kernel) (by decide +kernel))
set_option maxRecDepth 100000 in
theorem cO_6_90 : COk 6 90 mX6_readTape := Or.inl (mem_g 497 (by decide +kernel) (by decide +kernel))
set_option maxRecDepth 100000 in
theorem cO_9_33 : COk 9 33 mX6_take := Or.inl (mem_g 501 (by decide +kernel) (by decide +kernel))
set_option maxRecDepth 100000 in
theorem cO_6_94 : COk 6 94 mX2_forget := Or.inl (mem_g 505 (by decide +kernel) (by decide +kernel))
set_option maxRecDepth 100000 in
theorem cO_6_97 : COk 6 97 mX1_forgetDifferences := Or.inl (mem_g 509 (by decide +kernel) (by decide +kernel))
set_option maxRecDepth 100000 in
theorem cO_9_37 : COk 9 37 mX6_differ := Or.inl (mem_g 513 (by decide +kernel) (by decide +kernel))
set_option maxRecDepth 100000 in
theorem cO_6_100 : COk 6 100 mX6_isLetter := Or.inl (mem_g 517 (by decide +kernel) (by decide +kernel))
set_option maxRecDepth 100000 in
theorem cO_6_104 : COk 6 104 mX1_mustDiffer := Or.inl (mem_g 520 (by decide +kernel) (by decide +kernel))
set_option maxRecDepth 100000 in
theorem cO_6_108 : COk 6 108 mX1_setDiffer := Or.inl (mem_g 524 (by decide +kernel) (by decide +kernel))
set_option maxRecDepth 100000 in
theorem cO_9_42 : COk 9 42 mX6_nodes := Or.inl (mem_g 528 (by decide +kernel) (by decide +kernel))
set_option maxRecDepth 100000 in
theorem cO_9_47 : COk 9 47 mX6_node := Or.inl (mem_g 532 (by decide +kernel) (by decide +kernel))
set_option maxRecDepth 100000 in
theorem cO_6_115 : COk 6 115 mX6_isNode := Or.inl (mem_g 536 (by decide +kernel) (by decide +kernel))
set_option maxRecDepth 100000 in
theorem cO_9_52 : COk 9 52 mX6_alike := Or.inl (mem_g 543 (by decide +kernel) (by decide +kernel))
set_option maxRecDepth 100000 in
theorem cO_9_57 : COk 9 57 mX6_matches := Or.inl (mem_g 547 (by decide +kernel) (by decide +kernel))
set_option maxRecDepth 100000 in
theorem cO_6_138 : COk 6 138 mX1_countMatched := Or.inl (mem_g 551 (by decide +kernel) (by decide +kernel))
set_option maxRecDepth 100000 in
theorem cO_1_48 : COk 1 48 mX1_findAll := Or.inl (mem_g 555 (by decide +kernel) (by decide +kernel))
set_option maxRecDepth 100000 in
theorem cO_1_63 : COk 1 63 mX1_findWay := Or.inl (mem_g 559 (by decide +kernel) (by decide +kernel))
set_option maxRecDepth 100000 in
theorem cO_1_98 : COk 1 98 mX1_firstFailing := Or.inl (mem_g 567 (by decide +kernel) (by decide +kernel))
set_option maxRecDepth 100000 in
theorem cO_1_101 : COk 1 101 mX1_rowFits := Or.inl (mem_g 571 (by decide +kernel) (by decide +kernel))
set_option maxRecDepth 100000 in
theorem cO_1_136 : COk 1 136 mX5_next := Or.inl (mem_g 575 (by decide +kernel) (by decide +kernel))
set_option maxRecDepth 100000 in
theorem cO_1_139 : COk 1 139 mX1_rowsAlike := Or.inl (mem_g 576 (by decide +kernel) (by decide +kernel))
set_option maxRecDepth 100000 in
theorem cO_1_104 : COk 1 104 mX1_seatPiece := Or.inl (mem_g 580 (by decide +kernel) (by decide +kernel))
set_option maxRecDepth 100000 in
theorem cO_1_117 : COk 1 117 mX1_nextNode := Or.inl (mem_g 584 (by decide +kernel) (by decide +kernel))
set_option maxRecDepth 100000 in
theorem cO_1_108 : COk 1 108 mX1_termFits := Or.inl (mem_g 588 (by decide +kernel) (by decide +kernel))
set_option maxRecDepth 100000 in
theorem cO_1_123 : COk 1 123 mX5_sameAtom := Or.inl (mem_g 592 (by decide +kernel) (by decide +kernel))
set_option maxRecDepth 100000 in
theorem cO_1_111 : COk 1 111 mX1_holeFits := Or.inl (mem_g 593 (by decide +kernel) (by decide +kernel))
set_option maxRecDepth 100000 in
theorem cO_1_133 : COk 1 133 mX1_mustDiffer := Or.inl (mem_g 597 (by decide +kernel) (by decide +kernel))
set_option maxRecDepth 100000 in
theorem cO_9_61 : COk 9 61 mX6_match := Or.inl (mem_g 598 (by decide +kernel) (by decide +kernel))
set_option maxRecDepth 100000 in
theorem cO_6_142 : COk 6 142 mX1_matchedAt := Or.inl (mem_g 602 (by decide +kernel) (by decide +kernel))
set_option maxRecDepth 100000 in
theorem cO_9_65 : COk 9 65 mX6_hole := Or.inl (mem_g 606 (by decide +kernel) (by decide +kernel))
set_option maxRecDepth 100000 in
theorem cO_6_145 : COk 6 145 mX6_isBound := Or.inl (mem_g 610 (by decide +kernel) (by decide +kernel))
set_option maxRecDepth 100000 in
theorem cO_6_224 : COk 6 224 mX5_kindOf := Or.inl (mem_g 614 (by decide +kernel) (by decide +kernel))
set_option maxRecDepth 100000 in
theorem cO_6_227 : COk 6 227 mX1_findWay := Or.inl (mem_g 615 (by decide +kernel) (by decide +kernel))
set_option maxRecDepth 100000 in
theorem cO_6_148 : COk 6 148 mX1_firstNode := Or.inl (mem_g 616 (by decide +kernel) (by decide +kernel))
set_option maxRecDepth 100000 in
theorem cO_9_69 : COk 9 69 mX6_row := Or.inl (mem_g 620 (by decide +kernel) (by decide +kernel))
set_option maxRecDepth 100000 in
theorem cO_6_151 : COk 6 151 mX1_howMany := Or.inl (mem_g 624 (by decide +kernel) (by decide +kernel))
set_option maxRecDepth 100000 in
theorem cO_9_73 : COk 9 73 mX6_taken := Or.inl (mem_g 628 (by decide +kernel) (by decide +kernel))
set_option maxRecDepth 100000 in
theorem cO_6_154 : COk 6 154 mX6_isRule := Or.inl (mem_g 632 (by decide +kernel) (by decide +kernel))
set_option maxRecDepth 100000 in
theorem cO_6_157 : COk 6 157 mX1_findAll := Or.inl (mem_g 635 (by decide +kernel) (by decide +kernel))
set_option maxRecDepth 100000 in
theorem cO_6_160 : COk 6 160 mX0_choose := Or.inl (mem_g 636 (by decide +kernel) (by decide +kernel))
set_option maxRecDepth 100000 in
theorem cO_0_26 : COk 0 26 mX0_countWithin := Or.inl (mem_g 640 (by decide +kernel) (by decide +kernel))
set_option maxRecDepth 100000 in
theorem cO_0_44 : COk 0 44 mX5_next := Or.inl (mem_g 644 (by decide +kernel) (by decide +kernel))
set_option maxRecDepth 100000 in
theorem cO_9_77 : COk 9 77 mX6_takes := Or.inl (mem_g 645 (by decide +kernel) (by decide +kernel))
set_option maxRecDepth 100000 in
theorem cO_9_81 : COk 9 81 mX6_put := Or.inl (mem_g 649 (by decide +kernel) (by decide +kernel))
set_option maxRecDepth 100000 in
theorem cO_6_169 : COk 6 169 mX6_mayPut := Or.inl (mem_g 653 (by decide +kernel) (by decide +kernel))
set_option maxRecDepth 100000 in
theorem cO_6_172 : COk 6 172 mX2_write := Or.inl (mem_g 657 (by decide +kernel) (by decide +kernel))
set_option maxRecDepth 100000 in
theorem cO_6_176 : COk 6 176 mX6_putOnce := Or.inl (mem_g 662 (by decide +kernel) (by decide +kernel))
set_option maxRecDepth 100000 in
theorem cO_6_220 : COk 6 220 mX3_build := Or.inl (mem_g 666 (by decide +kernel) (by decide +kernel))
set_option maxRecDepth 100000 in
theorem cO_3_47 : COk 3 47 mX5_append := Or.inl (mem_g 670 (by decide +kernel) (by decide +kernel))
set_option maxRecDepth 100000 in
theorem cO_3_51 : COk 3 51 mX1_findWay := Or.inl (mem_g 671 (by decide +kernel) (by decide +kernel))
set_option maxRecDepth 100000 in
theorem cO_3_57 : COk 3 57 mX3_fillTemplate := Or.inl (mem_g 672 (by decide +kernel) (by decide +kernel))
set_option maxRecDepth 100000 in
theorem cO_3_64 : COk 3 64 mX3_dropRowsOfNone := Or.inl (mem_g 676 (by decide +kernel) (by decide +kernel))
set_option maxRecDepth 100000 in
theorem cO_3_81 : COk 3 81 mX1_howMany := Or.inl (mem_g 680 (by decide +kernel) (by decide +kernel))
set_option maxRecDepth 100000 in
theorem cO_3_96 : COk 3 96 mX3_dropRow := Or.inl (mem_g 681 (by decide +kernel) (by decide +kernel))
set_option maxRecDepth 100000 in
theorem cO_3_103 : COk 3 103 mX3_dropBytes := Or.inl (mem_g 685 (by decide +kernel) (by decide +kernel))
set_option maxRecDepth 100000 in
theorem cO_3_107 : COk 3 107 mX3_pieceAhead := Or.inl (mem_g 689 (by decide +kernel) (by decide +kernel))
set_option maxRecDepth 100000 in
theorem cO_3_73 : COk 3 73 mX3_fillLetter := Or.inl (mem_g 694 (by decide +kernel) (by decide +kernel))
set_option maxRecDepth 100000 in
theorem cO_3_77 : COk 3 77 mX1_firstNode := Or.inl (mem_g 698 (by decide +kernel) (by decide +kernel))
set_option maxRecDepth 100000 in
theorem cO_3_84 : COk 3 84 mX5_lastByteBehind := Or.inl (mem_g 699 (by decide +kernel) (by decide +kernel))
set_option maxRecDepth 100000 in
theorem cO_6_179 : COk 6 179 mX2_keepWritten := Or.inl (mem_g 703 (by decide +kernel) (by decide +kernel))
set_option maxRecDepth 100000 in
theorem cO_9_85 : COk 9 85 mX6_putAll := Or.inl (mem_g 708 (by decide +kernel) (by decide +kernel))
set_option maxRecDepth 100000 in
theorem cO_6_182 : COk 6 182 mX6_restoreWritten := Or.inl (mem_g 712 (by decide +kernel) (by decide +kernel))
set_option maxRecDepth 100000 in
theorem cO_6_217 : COk 6 217 mX2_readWritten := Or.inl (mem_g 716 (by decide +kernel) (by decide +kernel))
set_option maxRecDepth 100000 in
theorem cO_2_47 : COk 2 47 mX5_load := Or.inl (mem_g 720 (by decide +kernel) (by decide +kernel))
set_option maxRecDepth 100000 in
theorem cO_9_89 : COk 9 89 mX6_back := Or.inl (mem_g 721 (by decide +kernel) (by decide +kernel))
set_option maxRecDepth 100000 in
theorem cO_6_185 : COk 6 185 mX2_stepBack := Or.inl (mem_g 725 (by decide +kernel) (by decide +kernel))
set_option maxRecDepth 100000 in
theorem cO_9_103 : COk 9 103 mX6_count := Or.inl (mem_g 729 (by decide +kernel) (by decide +kernel))
set_option maxRecDepth 100000 in
theorem cO_9_7 : COk 9 7 mX6_at := Or.inl (mem_g 737 (by decide +kernel) (by decide +kernel))
set_option maxRecDepth 100000 in
theorem cO_9_18 : COk 9 18 mX8_init := Or.inl (mem_g 809 (by decide +kernel) (by decide +kernel))
set_option maxRecDepth 100000 in
theorem cO_8_99 : COk 8 99 mX8_take := Or.inl (mem_g 863 (by decide +kernel) (by decide +kernel))
set_option maxRecDepth 100000 in
theorem cO_8_210 : COk 8 210 mX8_fault := Or.inl (mem_g 867 (by decide +kernel) (by decide +kernel))
set_option maxRecDepth 100000 in
theorem cO_8_202 : COk 8 202 mX8_isIn := Or.inl (mem_g 871 (by decide +kernel) (by decide +kernel))
set_option maxRecDepth 100000 in
theorem cO_8_206 : COk 8 206 mX8_read := Or.inl (mem_g 874 (by decide +kernel) (by decide +kernel))
set_option maxRecDepth 100000 in
theorem cO_8_187 : COk 8 187 mX8_piece := Or.inl (mem_g 878 (by decide +kernel) (by decide +kernel))
set_option maxRecDepth 100000 in
theorem cO_8_157 : COk 8 157 mX8_look := Or.inl (mem_g 882 (by decide +kernel) (by decide +kernel))
set_option maxRecDepth 100000 in
theorem cO_8_161 : COk 8 161 mX8_isAtom := Or.inl (mem_g 886 (by decide +kernel) (by decide +kernel))
set_option maxRecDepth 100000 in
theorem cO_8_116 : COk 8 116 mX8_isSmall := Or.inl (mem_g 889 (by decide +kernel) (by decide +kernel))
set_option maxRecDepth 100000 in
theorem cO_8_164 : COk 8 164 mX8_term := Or.inl (mem_g 892 (by decide +kernel) (by decide +kernel))
set_option maxRecDepth 100000 in
theorem cO_8_150 : COk 8 150 mX8_adds := Or.inl (mem_g 896 (by decide +kernel) (by decide +kernel))
set_option maxRecDepth 100000 in
theorem cO_8_184 : COk 8 184 mX8_opens := Or.inl (mem_g 900 (by decide +kernel) (by decide +kernel))
set_option maxRecDepth 100000 in
theorem cO_8_146 : COk 8 146 mX8_wrong := Or.inl (mem_g 904 (by decide +kernel) (by decide +kernel))
set_option maxRecDepth 100000 in
theorem cO_8_170 : COk 8 170 mX8_lettered := Or.inl (mem_g 908 (by decide +kernel) (by decide +kernel))
set_option maxRecDepth 100000 in
theorem cO_9_100 : COk 9 100 mX8_thrown := Or.inl (mem_g 1030 (by decide +kernel) (by decide +kernel))
set_option maxRecDepth 100000 in
theorem cO_9_23 : COk 9 23 mX8_feed := Or.inl (mem_g 1034 (by decide +kernel) (by decide +kernel))
set_option maxRecDepth 100000 in
theorem cO_8_194 : COk 8 194 mX8_bytesIn := Or.inl (mem_g 1038 (by decide +kernel) (by decide +kernel))
set_option maxRecDepth 100000 in
theorem cO_8_198 : COk 8 198 mX8_put4 := Or.inl (mem_g 1041 (by decide +kernel) (by decide +kernel))
set_option maxRecDepth 100000 in
theorem cO_9_28 : COk 9 28 mX8_end := Or.inl (mem_g 1045 (by decide +kernel) (by decide +kernel))
set_option maxRecDepth 100000 in
theorem cO_9_32 : COk 9 32 mX8_fault := Or.inl (mem_g 1049 (by decide +kernel) (by decide +kernel))
set_option maxRecDepth 100000 in
theorem cO_9_36 : COk 9 36 mX8_take := Or.inl (mem_g 1050 (by decide +kernel) (by decide +kernel))
set_option maxRecDepth 100000 in
theorem cO_9_41 : COk 9 41 mX8_differ := Or.inl (mem_g 1051 (by decide +kernel) (by decide +kernel))
set_option maxRecDepth 100000 in
theorem cO_9_46 : COk 9 46 mX8_nodes := Or.inl (mem_g 1055 (by decide +kernel) (by decide +kernel))
set_option maxRecDepth 100000 in
theorem cO_9_56 : COk 9 56 mX8_alike := Or.inl (mem_g 1059 (by decide +kernel) (by decide +kernel))
set_option maxRecDepth 100000 in
theorem cO_8_224 : COk 8 224 mX8_isNode := Or.inl (mem_g 1063 (by decide +kernel) (by decide +kernel))
set_option maxRecDepth 100000 in
theorem cO_8_221 : COk 8 221 mX8_areAlike := Or.inl (mem_g 1067 (by decide +kernel) (by decide +kernel))
set_option maxRecDepth 100000 in
theorem cO_8_215 : COk 8 215 mX8_isAtomAlike := Or.inl (mem_g 1071 (by decide +kernel) (by decide +kernel))
set_option maxRecDepth 100000 in
theorem cO_8_219 : COk 8 219 mX7_term := Or.inl (mem_g 1075 (by decide +kernel) (by decide +kernel))
set_option maxRecDepth 100000 in
theorem cO_9_60 : COk 9 60 mX8_matches := Or.inl (mem_g 1079 (by decide +kernel) (by decide +kernel))
set_option maxRecDepth 100000 in
theorem cO_8_256 : COk 8 256 mX8_all := Or.inl (mem_g 1083 (by decide +kernel) (by decide +kernel))
set_option maxRecDepth 100000 in
theorem cO_8_253 : COk 8 253 mX8_isMatched := Or.inl (mem_g 1087 (by decide +kernel) (by decide +kernel))
set_option maxRecDepth 100000 in
theorem cO_8_239 : COk 8 239 mX8_task := Or.inl (mem_g 1091 (by decide +kernel) (by decide +kernel))
set_option maxRecDepth 100000 in
theorem cO_8_243 : COk 8 243 mX8_does := Or.inl (mem_g 1095 (by decide +kernel) (by decide +kernel))
set_option maxRecDepth 100000 in
theorem cO_8_230 : COk 8 230 mX8_differAll := Or.inl (mem_g 1099 (by decide +kernel) (by decide +kernel))
set_option maxRecDepth 100000 in
theorem cO_8_233 : COk 8 233 mX8_whole := Or.inl (mem_g 1103 (by decide +kernel) (by decide +kernel))
set_option maxRecDepth 100000 in
theorem cO_8_246 : COk 8 246 mX8_isWithin := Or.inl (mem_g 1107 (by decide +kernel) (by decide +kernel))
set_option maxRecDepth 100000 in
theorem cO_8_236 : COk 8 236 mX8_some := Or.inl (mem_g 1111 (by decide +kernel) (by decide +kernel))
set_option maxRecDepth 100000 in
theorem cO_8_249 : COk 8 249 mX8_isRowAlike := Or.inl (mem_g 1115 (by decide +kernel) (by decide +kernel))
set_option maxRecDepth 100000 in
theorem cO_9_64 : COk 9 64 mX8_match := Or.inl (mem_g 1119 (by decide +kernel) (by decide +kernel))
set_option maxRecDepth 100000 in
theorem cO_9_68 : COk 9 68 mX8_hole := Or.inl (mem_g 1123 (by decide +kernel) (by decide +kernel))
set_option maxRecDepth 100000 in
theorem cO_8_259 : COk 8 259 mX8_kindOf := Or.inl (mem_g 1127 (by decide +kernel) (by decide +kernel))
set_option maxRecDepth 100000 in
theorem cO_9_72 : COk 9 72 mX8_row := Or.inl (mem_g 1131 (by decide +kernel) (by decide +kernel))
set_option maxRecDepth 100000 in
theorem cO_9_76 : COk 9 76 mX8_taken := Or.inl (mem_g 1135 (by decide +kernel) (by decide +kernel))
set_option maxRecDepth 100000 in
theorem cO_8_263 : COk 8 263 mX8_takeBy := Or.inl (mem_g 1139 (by decide +kernel) (by decide +kernel))
set_option maxRecDepth 100000 in
theorem cO_9_80 : COk 9 80 mX8_takes := Or.inl (mem_g 1143 (by decide +kernel) (by decide +kernel))
set_option maxRecDepth 100000 in
theorem cO_9_84 : COk 9 84 mX8_put := Or.inl (mem_g 1147 (by decide +kernel) (by decide +kernel))
set_option maxRecDepth 100000 in
theorem cO_8_279 : COk 8 279 mX8_puts := Or.inl (mem_g 1151 (by decide +kernel) (by decide +kernel))
set_option maxRecDepth 100000 in
theorem cO_8_272 : COk 8 272 mX8_copy := Or.inl (mem_g 1155 (by decide +kernel) (by decide +kernel))
set_option maxRecDepth 100000 in
theorem cO_8_276 : COk 8 276 mX8_write := Or.inl (mem_g 1159 (by decide +kernel) (by decide +kernel))
set_option maxRecDepth 100000 in
theorem cO_8_269 : COk 8 269 mX8_strike := Or.inl (mem_g 1163 (by decide +kernel) (by decide +kernel))
set_option maxRecDepth 100000 in
theorem cO_8_282 : COk 8 282 mX8_keep := Or.inl (mem_g 1167 (by decide +kernel) (by decide +kernel))
set_option maxRecDepth 100000 in
theorem cO_9_88 : COk 9 88 mX8_putAll := Or.inl (mem_g 1171 (by decide +kernel) (by decide +kernel))
set_option maxRecDepth 100000 in
theorem cO_9_93 : COk 9 93 mX8_back := Or.inl (mem_g 1175 (by decide +kernel) (by decide +kernel))
set_option maxRecDepth 100000 in
theorem cO_9_51 : COk 9 51 mX8_node := Or.inl (mem_g 1179 (by decide +kernel) (by decide +kernel))
set_option maxRecDepth 100000 in
theorem cO_9_99 : COk 9 99 mX8_at := Or.inl (mem_g 1183 (by decide +kernel) (by decide +kernel))
set_option maxRecDepth 100000 in
theorem cO_9_106 : COk 9 106 mX8_count := Or.inl (mem_g 1187 (by decide +kernel) (by decide +kernel))
set_option maxRecDepth 100000 in
theorem cO_6_15 : COk 6 15 mX5_init := Or.inr ⟨"ShapeTool", List.mem_of_getElem? (i := 0) rfl⟩
set_option maxRecDepth 100000 in
theorem cO_6_31 : COk 6 31 mX4_init := Or.inr ⟨"ShapeTool", List.mem_of_getElem? (i := 1) rfl⟩
set_option maxRecDepth 100000 in
theorem cO_6_65 : COk 6 65 mX2_init := Or.inr ⟨"ShapeTool", List.mem_of_getElem? (i := 2) rfl⟩
set_option maxRecDepth 100000 in
theorem cO_4_64 : COk 4 64 mX6_isBlank := Or.inr ⟨"ShapeTool", List.mem_of_getElem? (i := 3) rfl⟩
set_option maxRecDepth 100000 in
theorem cO_4_81 : COk 4 81 mX6_isAtomByte := Or.inr ⟨"ShapeTool", List.mem_of_getElem? (i := 4) rfl⟩
set_option maxRecDepth 100000 in
theorem cO_4_106 : COk 4 106 mX6_isSmall := Or.inr ⟨"ShapeTool", List.mem_of_getElem? (i := 5) rfl⟩
set_option maxRecDepth 100000 in
theorem cO_8_15 : COk 8 15 mX7_init := Or.inr ⟨"ShapeToolModel", List.mem_of_getElem? (i := 6) rfl⟩
set_option maxRecDepth 100000 in
theorem nO_9_8 : NOk 9 8 6 := ⟨by decide, mem_g 82 (by decide +kernel) (by decide +kernel), mem_g 83 (by decide +kernel) (by decide +kernel), mem_g 67 (by decide +kernel) (by decide +kernel)⟩
set_option maxRecDepth 100000 in
theorem nO_6_13 : NOk 6 13 5 := ⟨by decide, mem_g 90 (by decide +kernel) (by decide +kernel), mem_g 91 (by decide +kernel) (by decide +kernel), mem_g 68 (by decide +kernel) (by decide +kernel)⟩
set_option maxRecDepth 100000 in
theorem nO_6_29 : NOk 6 29 4 := ⟨by decide, mem_g 177 (by decide +kernel) (by decide +kernel), mem_g 178 (by decide +kernel) (by decide +kernel), mem_g 69 (by decide +kernel) (by decide +kernel)⟩
set_option maxRecDepth 100000 in
theorem nO_6_36 : NOk 6 36 1 := ⟨by decide, mem_g 208 (by decide +kernel) (by decide +kernel), mem_g 209 (by decide +kernel) (by decide +kernel), mem_g 70 (by decide +kernel) (by decide +kernel)⟩
set_option maxRecDepth 100000 in
theorem nO_6_45 : NOk 6 45 0 := ⟨by decide, mem_g 265 (by decide +kernel) (by decide +kernel), mem_g 266 (by decide +kernel) (by decide +kernel), mem_g 71 (by decide +kernel) (by decide +kernel)⟩
set_option maxRecDepth 100000 in
theorem nO_6_54 : NOk 6 54 3 := ⟨by decide, mem_g 291 (by decide +kernel) (by decide +kernel), mem_g 292 (by decide +kernel) (by decide +kernel), mem_g 72 (by decide +kernel) (by decide +kernel)⟩
set_option maxRecDepth 100000 in
theorem nO_6_63 : NOk 6 63 2 := ⟨by decide, mem_g 310 (by decide +kernel) (by decide +kernel), mem_g 311 (by decide +kernel) (by decide +kernel), mem_g 73 (by decide +kernel) (by decide +kernel)⟩
set_option maxRecDepth 100000 in
theorem nO_9_16 : NOk 9 16 8 := ⟨by decide, mem_g 807 (by decide +kernel) (by decide +kernel), mem_g 808 (by decide +kernel) (by decide +kernel), mem_g 75 (by decide +kernel) (by decide +kernel)⟩
set_option maxRecDepth 100000 in
theorem nO_8_13 : NOk 8 13 7 := ⟨by decide, mem_g 813 (by decide +kernel) (by decide +kernel), mem_g 814 (by decide +kernel) (by decide +kernel), mem_g 76 (by decide +kernel) (by decide +kernel)⟩
