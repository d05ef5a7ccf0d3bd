/-! constants, words, links, cells (by program) -/
theorem zAll_t1 {w : Cond} (j : Nat) (h : tables_1_1[j]? = some w) (hg : goodWord w = true) : w ∈ zAll := List.mem_filter.mpr ⟨List.mem_append_right _ (show w ∈ tables_1_1 ++ (tables_1_2 ++ (tables_1_3 ++ (tables_1_4 ++ (tables_1_5 ++ (tables_1_6 ++ tables_1_7))))) from (List.mem_append_left _ (List.mem_of_getElem? h))), hg⟩
theorem zAll_t2 {w : Cond} (j : Nat) (h : tables_1_2[j]? = some w) (hg : goodWord w = true) : w ∈ zAll := List.mem_filter.mpr ⟨List.mem_append_right _ (show w ∈ tables_1_1 ++ (tables_1_2 ++ (tables_1_3 ++ (tables_1_4 ++ (tables_1_5 ++ (tables_1_6 ++ tables_1_7))))) from (List.mem_append_right _ (List.mem_append_left _ (List.mem_of_getElem? h)))), hg⟩
theorem zAll_t3 {w : Cond} (j : Nat) (h : tables_1_3[j]? = some w) (hg : goodWord w = true) : w ∈ zAll := List.mem_filter.mpr ⟨List.mem_append_right _ (show w ∈ tables_1_1 ++ (tables_1_2 ++ (tables_1_3 ++ (tables_1_4 ++ (tables_1_5 ++ (tables_1_6 ++ tables_1_7))))) from (List.mem_append_right _ (List.mem_append_right _ (List.mem_append_left _ (List.mem_of_getElem? h))))), hg⟩
theorem zAll_t4 {w : Cond} (j : Nat) (h : tables_1_4[j]? = some w) (hg : goodWord w = true) : w ∈ zAll := List.mem_filter.mpr ⟨List.mem_append_right _ (show w ∈ tables_1_1 ++ (tables_1_2 ++ (tables_1_3 ++ (tables_1_4 ++ (tables_1_5 ++ (tables_1_6 ++ tables_1_7))))) from (List.mem_append_right _ (List.mem_append_right _ (List.mem_append_right _ (List.mem_append_left _ (List.mem_of_getElem? h)))))), hg⟩
theorem zAll_t5 {w : Cond} (j : Nat) (h : tables_1_5[j]? = some w) (hg : goodWord w = true) : w ∈ zAll := List.mem_filter.mpr ⟨List.mem_append_right _ (show w ∈ tables_1_1 ++ (tables_1_2 ++ (tables_1_3 ++ (tables_1_4 ++ (tables_1_5 ++ (tables_1_6 ++ tables_1_7))))) from (List.mem_append_right _ (List.mem_append_right _ (List.mem_append_right _ (List.mem_append_right _ (List.mem_append_left _ (List.mem_of_getElem? h))))))), hg⟩
theorem zAll_t6 {w : Cond} (j : Nat) (h : tables_1_6[j]? = some w) (hg : goodWord w = true) : w ∈ zAll := List.mem_filter.mpr ⟨List.mem_append_right _ (show w ∈ tables_1_1 ++ (tables_1_2 ++ (tables_1_3 ++ (tables_1_4 ++ (tables_1_5 ++ (tables_1_6 ++ tables_1_7))))) from (List.mem_append_right _ (List.mem_append_right _ (List.mem_append_right _ (List.mem_append_right _ (List.mem_append_right _ (List.mem_append_left _ (List.mem_of_getElem? h)))))))), hg⟩
theorem zAll_t7 {w : Cond} (j : Nat) (h : tables_1_7[j]? = some w) (hg : goodWord w = true) : w ∈ zAll := List.mem_filter.mpr ⟨List.mem_append_right _ (show w ∈ tables_1_1 ++ (tables_1_2 ++ (tables_1_3 ++ (tables_1_4 ++ (tables_1_5 ++ (tables_1_6 ++ tables_1_7))))) from (List.mem_append_right _ (List.mem_append_right _ (List.mem_append_right _ (List.mem_append_right _ (List.mem_append_right _ (List.mem_append_right _ (List.mem_of_getElem? h)))))))), hg⟩
set_option maxRecDepth 20000 in
theorem zw_1 : (Jvm.Cond.initialized "TurnedLand") ∈ zAll := zAll_t1 1 rfl rfl
set_option maxRecDepth 20000 in
theorem zw_2 : (Jvm.Cond.initialized "TurnedLand$World") ∈ zAll := zAll_t1 2 rfl rfl
set_option maxRecDepth 20000 in
theorem zw_3 : (Jvm.Cond.initialized "TurnedLand$Ground") ∈ zAll := zAll_t1 3 rfl rfl
set_option maxRecDepth 20000 in
theorem zw_4 : (Jvm.Cond.initialized "java/util/Arrays") ∈ zAll := zAll_t1 4 rfl rfl
set_option maxRecDepth 20000 in
theorem zw_5 : (Jvm.Cond.initialized "TurnedLand$Walks") ∈ zAll := zAll_t1 5 rfl rfl
set_option maxRecDepth 20000 in
theorem zw_6 : (Jvm.Cond.initialized "TurnedLand$Folk") ∈ zAll := zAll_t1 6 rfl rfl
set_option maxRecDepth 20000 in
theorem zw_7 : (Jvm.Cond.initialized "TurnedLand$Doubts") ∈ zAll := zAll_t1 7 rfl rfl
set_option maxRecDepth 20000 in
theorem zw_8 : (Jvm.Cond.initialized "TurnedLand$Text") ∈ zAll := zAll_t1 8 rfl rfl
set_option maxRecDepth 20000 in
theorem zw_9 : (Jvm.Cond.initialized "TurnedLand$Shape") ∈ zAll := zAll_t1 9 rfl rfl
set_option maxRecDepth 20000 in
theorem zw_10 : (Jvm.Cond.initialized "TurnedLand$Ways") ∈ zAll := zAll_t1 10 rfl rfl
set_option maxRecDepth 20000 in
theorem zw_11 : (Jvm.Cond.initialized "TurnedLand$Walker") ∈ zAll := zAll_t1 11 rfl rfl
set_option maxRecDepth 20000 in
theorem zw_12 : (Jvm.Cond.initialized "TurnedLand$Reader") ∈ zAll := zAll_t1 12 rfl rfl
set_option maxRecDepth 20000 in
theorem zw_13 : (Jvm.Cond.initialized "TurnedLand$Voices") ∈ zAll := zAll_t1 13 rfl rfl
set_option maxRecDepth 20000 in
theorem zw_14 : (Jvm.Cond.initialized "TurnedLandModel") ∈ zAll := zAll_t1 14 rfl rfl
set_option maxRecDepth 20000 in
theorem zw_15 : (Jvm.Cond.initialized "java/lang/Integer") ∈ zAll := zAll_t1 15 rfl rfl
set_option maxRecDepth 20000 in
theorem zw_16 : (Jvm.Cond.initialized "java/lang/Math") ∈ zAll := zAll_t1 16 rfl rfl
set_option maxRecDepth 20000 in
theorem zw_17 : (Jvm.Cond.initialized "java/lang/System") ∈ zAll := zAll_t1 17 rfl rfl
set_option maxRecDepth 20000 in
theorem zw_18 : (Jvm.Cond.initialized "java/lang/String") ∈ zAll := zAll_t1 18 rfl rfl
set_option maxRecDepth 20000 in
theorem zw_19 : (Jvm.Cond.initialized "java/lang/StringLatin1") ∈ zAll := zAll_t1 19 rfl rfl
set_option maxRecDepth 20000 in
theorem zw_20 : (Jvm.Cond.initialized "jdk/internal/util/Preconditions") ∈ zAll := zAll_t1 20 rfl rfl
set_option maxRecDepth 20000 in
theorem zw_43 : (Jvm.Cond.static ({ cls := "java/util/Arrays", name := "fill", desc := "([II)V" } : Jvm.MethodName)) ∈ zAll := zAll_t1 43 rfl rfl
set_option maxRecDepth 20000 in
theorem zw_44 : (Jvm.Cond.code ({ cls := "java/util/Arrays", name := "fill", desc := "([II)V" } : Jvm.MethodName) prog_21_method_103_code (4 : Nat) (Option.none : Option Jvm.ClassFile.FieldType)) ∈ zAll := zAll_t1 44 rfl rfl
set_option maxRecDepth 20000 in
theorem zw_45 : (Jvm.Cond.fieldLink "TurnedLand$Ground" (9 : Nat) "TurnedLand$Ground" "squares" "I") ∈ zAll := zAll_t1 45 rfl rfl
set_option maxRecDepth 20000 in
theorem zw_46 : (Jvm.Cond.fieldLink "TurnedLand$Ways" (36 : Nat) "TurnedLand$Ground" "squares" "I") ∈ zAll := zAll_t1 46 rfl rfl
set_option maxRecDepth 20000 in
theorem zw_47 : (Jvm.Cond.fieldLink "TurnedLand$Shape" (22 : Nat) "TurnedLand$Ground" "squares" "I") ∈ zAll := zAll_t1 47 rfl rfl
set_option maxRecDepth 20000 in
theorem zw_48 : (Jvm.Cond.fieldLink "TurnedLand" (88 : Nat) "TurnedLand$Ground" "squares" "I") ∈ zAll := zAll_t1 48 rfl rfl
set_option maxRecDepth 20000 in
theorem zw_49 : (Jvm.Cond.fieldLink "TurnedLand$Walker" (77 : Nat) "TurnedLand$Ground" "squares" "I") ∈ zAll := zAll_t1 49 rfl rfl
set_option maxRecDepth 20000 in
theorem zw_50 : (Jvm.Cond.fieldLink "TurnedLand$Ground" (15 : Nat) "TurnedLand$Ground" "costs" "[I") ∈ zAll := zAll_t1 50 rfl rfl
set_option maxRecDepth 20000 in
theorem zw_51 : (Jvm.Cond.fieldLink "TurnedLand" (93 : Nat) "TurnedLand$Ground" "costs" "[I") ∈ zAll := zAll_t1 51 rfl rfl
set_option maxRecDepth 20000 in
theorem zw_52 : (Jvm.Cond.fieldLink "TurnedLand$World" (93 : Nat) "TurnedLand$Ground" "costs" "[I") ∈ zAll := zAll_t1 52 rfl rfl
set_option maxRecDepth 20000 in
theorem zw_53 : (Jvm.Cond.fieldLink "TurnedLand$Ground" (19 : Nat) "TurnedLand$Ground" "joins" "I") ∈ zAll := zAll_t1 53 rfl rfl
set_option maxRecDepth 20000 in
theorem zw_54 : (Jvm.Cond.fieldLink "TurnedLand$Shape" (36 : Nat) "TurnedLand$Ground" "joins" "I") ∈ zAll := zAll_t1 54 rfl rfl
set_option maxRecDepth 20000 in
theorem zw_55 : (Jvm.Cond.fieldLink "TurnedLand$Doubts" (102 : Nat) "TurnedLand$Ground" "joins" "I") ∈ zAll := zAll_t1 55 rfl rfl
set_option maxRecDepth 20000 in
theorem zw_56 : (Jvm.Cond.fieldLink "TurnedLand" (116 : Nat) "TurnedLand$Ground" "joins" "I") ∈ zAll := zAll_t1 56 rfl rfl
set_option maxRecDepth 20000 in
theorem zw_57 : (Jvm.Cond.fieldLink "TurnedLand$Ground" (22 : Nat) "TurnedLand$Ground" "ends" "[I") ∈ zAll := zAll_t1 57 rfl rfl
set_option maxRecDepth 20000 in
theorem zw_58 : (Jvm.Cond.fieldLink "TurnedLand$Shape" (39 : Nat) "TurnedLand$Ground" "ends" "[I") ∈ zAll := zAll_t1 58 rfl rfl
set_option maxRecDepth 20000 in
theorem zw_59 : (Jvm.Cond.fieldLink "TurnedLand" (113 : Nat) "TurnedLand$Ground" "ends" "[I") ∈ zAll := zAll_t1 59 rfl rfl
set_option maxRecDepth 20000 in
theorem zw_60 : (Jvm.Cond.fieldLink "TurnedLand$Ground" (25 : Nat) "TurnedLand$Ground" "turned" "[I") ∈ zAll := zAll_t1 60 rfl rfl
set_option maxRecDepth 20000 in
theorem zw_61 : (Jvm.Cond.fieldLink "TurnedLand" (110 : Nat) "TurnedLand$Ground" "turned" "[I") ∈ zAll := zAll_t1 61 rfl rfl
set_option maxRecDepth 20000 in
theorem zw_62 : (Jvm.Cond.fieldLink "TurnedLand$Shape" (70 : Nat) "TurnedLand$Ground" "turned" "[I") ∈ zAll := zAll_t1 62 rfl rfl
set_option maxRecDepth 20000 in
theorem zw_63 : (Jvm.Cond.fieldLink "TurnedLand$Ground" (28 : Nat) "TurnedLand$Ground" "joinAt" "[I") ∈ zAll := zAll_t1 63 rfl rfl
set_option maxRecDepth 20000 in
theorem zw_64 : (Jvm.Cond.fieldLink "TurnedLand$Shape" (46 : Nat) "TurnedLand$Ground" "joinAt" "[I") ∈ zAll := zAll_t1 64 rfl rfl
set_option maxRecDepth 20000 in
theorem zw_87 : (Jvm.Cond.fieldLink "TurnedLand$Walks" (9 : Nat) "TurnedLand$Walks" "size" "I") ∈ zAll := zAll_t1 87 rfl rfl
set_option maxRecDepth 20000 in
theorem zw_88 : (Jvm.Cond.fieldLink "TurnedLand$Doubts" (49 : Nat) "TurnedLand$Walks" "size" "I") ∈ zAll := zAll_t1 88 rfl rfl
set_option maxRecDepth 20000 in
theorem zw_89 : (Jvm.Cond.fieldLink "TurnedLand" (208 : Nat) "TurnedLand$Walks" "size" "I") ∈ zAll := zAll_t1 89 rfl rfl
set_option maxRecDepth 20000 in
theorem zw_90 : (Jvm.Cond.fieldLink "TurnedLand$Walks" (15 : Nat) "TurnedLand$Walks" "kinds" "[I") ∈ zAll := zAll_t1 90 rfl rfl
set_option maxRecDepth 20000 in
theorem zw_91 : (Jvm.Cond.fieldLink "TurnedLand$Walker" (68 : Nat) "TurnedLand$Walks" "kinds" "[I") ∈ zAll := zAll_t1 91 rfl rfl
set_option maxRecDepth 20000 in
theorem zw_92 : (Jvm.Cond.fieldLink "TurnedLand" (217 : Nat) "TurnedLand$Walks" "kinds" "[I") ∈ zAll := zAll_t1 92 rfl rfl
set_option maxRecDepth 20000 in
theorem zw_93 : (Jvm.Cond.fieldLink "TurnedLand$Walks" (19 : Nat) "TurnedLand$Walks" "begins" "[I") ∈ zAll := zAll_t1 93 rfl rfl
set_option maxRecDepth 20000 in
theorem zw_94 : (Jvm.Cond.fieldLink "TurnedLand$Walker" (31 : Nat) "TurnedLand$Walks" "begins" "[I") ∈ zAll := zAll_t1 94 rfl rfl
set_option maxRecDepth 20000 in
theorem zw_95 : (Jvm.Cond.fieldLink "TurnedLand" (220 : Nat) "TurnedLand$Walks" "begins" "[I") ∈ zAll := zAll_t1 95 rfl rfl
set_option maxRecDepth 20000 in
theorem zw_96 : (Jvm.Cond.fieldLink "TurnedLand$Walks" (22 : Nat) "TurnedLand$Walks" "steps" "[I") ∈ zAll := zAll_t1 96 rfl rfl
set_option maxRecDepth 20000 in
theorem zw_97 : (Jvm.Cond.fieldLink "TurnedLand$Walker" (34 : Nat) "TurnedLand$Walks" "steps" "[I") ∈ zAll := zAll_t1 97 rfl rfl
set_option maxRecDepth 20000 in
theorem zw_98 : (Jvm.Cond.fieldLink "TurnedLand" (223 : Nat) "TurnedLand$Walks" "steps" "[I") ∈ zAll := zAll_t1 98 rfl rfl
set_option maxRecDepth 20000 in
theorem zw_99 : (Jvm.Cond.fieldLink "TurnedLand$Walks" (25 : Nat) "TurnedLand$Walks" "marks" "[I") ∈ zAll := zAll_t1 99 rfl rfl
set_option maxRecDepth 20000 in
theorem zw_100 : (Jvm.Cond.fieldLink "TurnedLand$Walker" (65 : Nat) "TurnedLand$Walks" "marks" "[I") ∈ zAll := zAll_t1 100 rfl rfl
set_option maxRecDepth 20000 in
theorem zw_101 : (Jvm.Cond.fieldLink "TurnedLand" (226 : Nat) "TurnedLand$Walks" "marks" "[I") ∈ zAll := zAll_t1 101 rfl rfl
set_option maxRecDepth 20000 in
theorem zw_102 : (Jvm.Cond.fieldLink "TurnedLand$Walks" (30 : Nat) "TurnedLand$Walks" "edges" "[[I") ∈ zAll := zAll_t1 102 rfl rfl
set_option maxRecDepth 20000 in
theorem zw_103 : (Jvm.Cond.fieldLink "TurnedLand$Walker" (41 : Nat) "TurnedLand$Walks" "edges" "[[I") ∈ zAll := zAll_t1 103 rfl rfl
set_option maxRecDepth 20000 in
theorem zw_123 : (Jvm.Cond.fieldLink "TurnedLand$Folk" (9 : Nat) "TurnedLand$Folk" "people" "I") ∈ zAll := zAll_t1 123 rfl rfl
set_option maxRecDepth 20000 in
theorem zw_124 : (Jvm.Cond.fieldLink "TurnedLand" (259 : Nat) "TurnedLand$Folk" "people" "I") ∈ zAll := zAll_t1 124 rfl rfl
set_option maxRecDepth 20000 in
theorem zw_125 : (Jvm.Cond.fieldLink "TurnedLand$Folk" (15 : Nat) "TurnedLand$Folk" "places" "[I") ∈ zAll := zAll_t1 125 rfl rfl
set_option maxRecDepth 20000 in
theorem zw_126 : (Jvm.Cond.fieldLink "TurnedLand$World" (114 : Nat) "TurnedLand$Folk" "places" "[I") ∈ zAll := zAll_t1 126 rfl rfl
set_option maxRecDepth 20000 in
theorem zw_127 : (Jvm.Cond.fieldLink "TurnedLand" (264 : Nat) "TurnedLand$Folk" "places" "[I") ∈ zAll := zAll_t1 127 rfl rfl
set_option maxRecDepth 20000 in
theorem zw_128 : (Jvm.Cond.fieldLink "TurnedLand$Folk" (19 : Nat) "TurnedLand$Folk" "hours" "[I") ∈ zAll := zAll_t1 128 rfl rfl
set_option maxRecDepth 20000 in
theorem zw_129 : (Jvm.Cond.fieldLink "TurnedLand$World" (117 : Nat) "TurnedLand$Folk" "hours" "[I") ∈ zAll := zAll_t1 129 rfl rfl
set_option maxRecDepth 20000 in
theorem zw_130 : (Jvm.Cond.fieldLink "TurnedLand" (267 : Nat) "TurnedLand$Folk" "hours" "[I") ∈ zAll := zAll_t1 130 rfl rfl
set_option maxRecDepth 20000 in
theorem zw_131 : (Jvm.Cond.fieldLink "TurnedLand$Folk" (22 : Nat) "TurnedLand$Folk" "things" "I") ∈ zAll := zAll_t1 131 rfl rfl
set_option maxRecDepth 20000 in
theorem zw_132 : (Jvm.Cond.fieldLink "TurnedLand" (282 : Nat) "TurnedLand$Folk" "things" "I") ∈ zAll := zAll_t1 132 rfl rfl
set_option maxRecDepth 20000 in
theorem zw_133 : (Jvm.Cond.fieldLink "TurnedLand$Folk" (25 : Nat) "TurnedLand$Folk" "lies" "[I") ∈ zAll := zAll_t1 133 rfl rfl
set_option maxRecDepth 20000 in
theorem zw_134 : (Jvm.Cond.fieldLink "TurnedLand" (291 : Nat) "TurnedLand$Folk" "lies" "[I") ∈ zAll := zAll_t1 134 rfl rfl
set_option maxRecDepth 20000 in
theorem zw_135 : (Jvm.Cond.fieldLink "TurnedLand$Folk" (28 : Nat) "TurnedLand$Folk" "worths" "[I") ∈ zAll := zAll_t1 135 rfl rfl
set_option maxRecDepth 20000 in
theorem zw_136 : (Jvm.Cond.fieldLink "TurnedLand$World" (108 : Nat) "TurnedLand$Folk" "worths" "[I") ∈ zAll := zAll_t1 136 rfl rfl
set_option maxRecDepth 20000 in
theorem zw_137 : (Jvm.Cond.fieldLink "TurnedLand" (294 : Nat) "TurnedLand$Folk" "worths" "[I") ∈ zAll := zAll_t1 137 rfl rfl
set_option maxRecDepth 20000 in
theorem zw_138 : (Jvm.Cond.fieldLink "TurnedLand$Folk" (31 : Nat) "TurnedLand$Folk" "alikes" "[I") ∈ zAll := zAll_t1 138 rfl rfl
set_option maxRecDepth 20000 in
theorem zw_139 : (Jvm.Cond.fieldLink "TurnedLand$World" (111 : Nat) "TurnedLand$Folk" "alikes" "[I") ∈ zAll := zAll_t1 139 rfl rfl
set_option maxRecDepth 20000 in
theorem zw_140 : (Jvm.Cond.fieldLink "TurnedLand" (297 : Nat) "TurnedLand$Folk" "alikes" "[I") ∈ zAll := zAll_t1 140 rfl rfl
set_option maxRecDepth 20000 in
theorem zw_162 : (Jvm.Cond.fieldLink "TurnedLand$Doubts" (9 : Nat) "TurnedLand$Doubts" "joins" "I") ∈ zAll := zAll_t1 162 rfl rfl
set_option maxRecDepth 20000 in
theorem zw_163 : (Jvm.Cond.fieldLink "TurnedLand" (126 : Nat) "TurnedLand$Doubts" "joins" "I") ∈ zAll := zAll_t1 163 rfl rfl
set_option maxRecDepth 20000 in
theorem zw_164 : (Jvm.Cond.fieldLink "TurnedLand$Doubts" (15 : Nat) "TurnedLand$Doubts" "facts" "I") ∈ zAll := zAll_t1 164 rfl rfl
set_option maxRecDepth 20000 in
theorem zw_165 : (Jvm.Cond.fieldLink "TurnedLand" (311 : Nat) "TurnedLand$Doubts" "facts" "I") ∈ zAll := zAll_t1 165 rfl rfl
set_option maxRecDepth 20000 in
theorem zw_166 : (Jvm.Cond.fieldLink "TurnedLand$Doubts" (18 : Nat) "TurnedLand$Doubts" "factWalks" "[I") ∈ zAll := zAll_t1 166 rfl rfl
set_option maxRecDepth 20000 in
theorem zw_167 : (Jvm.Cond.fieldLink "TurnedLand" (314 : Nat) "TurnedLand$Doubts" "factWalks" "[I") ∈ zAll := zAll_t1 167 rfl rfl
set_option maxRecDepth 20000 in
theorem zw_168 : (Jvm.Cond.fieldLink "TurnedLand$Doubts" (22 : Nat) "TurnedLand$Doubts" "factOdds" "[I") ∈ zAll := zAll_t1 168 rfl rfl
set_option maxRecDepth 20000 in
theorem zw_169 : (Jvm.Cond.fieldLink "TurnedLand" (317 : Nat) "TurnedLand$Doubts" "factOdds" "[I") ∈ zAll := zAll_t1 169 rfl rfl
set_option maxRecDepth 20000 in
theorem zw_170 : (Jvm.Cond.fieldLink "TurnedLand$Doubts" (25 : Nat) "TurnedLand$Doubts" "agreeing" "I") ∈ zAll := zAll_t1 170 rfl rfl
set_option maxRecDepth 20000 in
theorem zw_171 : (Jvm.Cond.fieldLink "TurnedLand" (324 : Nat) "TurnedLand$Doubts" "agreeing" "I") ∈ zAll := zAll_t1 171 rfl rfl
set_option maxRecDepth 20000 in
theorem zw_172 : (Jvm.Cond.fieldLink "TurnedLand$Doubts" (28 : Nat) "TurnedLand$Doubts" "turned" "[I") ∈ zAll := zAll_t1 172 rfl rfl
set_option maxRecDepth 20000 in
theorem zw_173 : (Jvm.Cond.fieldLink "TurnedLand" (327 : Nat) "TurnedLand$Doubts" "turned" "[I") ∈ zAll := zAll_t1 173 rfl rfl
set_option maxRecDepth 20000 in
theorem zw_174 : (Jvm.Cond.fieldLink "TurnedLand$Doubts" (31 : Nat) "TurnedLand$Doubts" "evens" "[I") ∈ zAll := zAll_t1 174 rfl rfl
set_option maxRecDepth 20000 in
theorem zw_175 : (Jvm.Cond.fieldLink "TurnedLand$Doubts" (34 : Nat) "TurnedLand$Doubts" "oddJoins" "[I") ∈ zAll := zAll_t1 175 rfl rfl
set_option maxRecDepth 20000 in
theorem zw_199 : (Jvm.Cond.fieldLink "TurnedLand$Text" (9 : Nat) "TurnedLand$Text" "isThere" "Z") ∈ zAll := zAll_t1 199 rfl rfl
set_option maxRecDepth 20000 in
theorem zw_200 : (Jvm.Cond.fieldLink "TurnedLand$World" (96 : Nat) "TurnedLand$Text" "isThere" "Z") ∈ zAll := zAll_t1 200 rfl rfl
set_option maxRecDepth 20000 in
theorem zw_201 : (Jvm.Cond.fieldLink "TurnedLand" (178 : Nat) "TurnedLand$Text" "isThere" "Z") ∈ zAll := zAll_t1 201 rfl rfl
set_option maxRecDepth 20000 in
theorem zw_202 : (Jvm.Cond.fieldLink "TurnedLand$Text" (15 : Nat) "TurnedLand$Text" "size" "I") ∈ zAll := zAll_t1 202 rfl rfl
set_option maxRecDepth 20000 in
theorem zw_203 : (Jvm.Cond.fieldLink "TurnedLand$Text" (19 : Nat) "TurnedLand$Text" "operations" "[I") ∈ zAll := zAll_t1 203 rfl rfl
set_option maxRecDepth 20000 in
theorem zw_204 : (Jvm.Cond.fieldLink "TurnedLand$Text" (23 : Nat) "TurnedLand$Text" "operands" "[I") ∈ zAll := zAll_t1 204 rfl rfl
set_option maxRecDepth 20000 in
theorem zw_205 : (Jvm.Cond.fieldLink "TurnedLand$Text" (26 : Nat) "TurnedLand$Text" "stack" "[I") ∈ zAll := zAll_t1 205 rfl rfl
set_option maxRecDepth 20000 in
theorem zw_206 : (Jvm.Cond.fieldLink "TurnedLand$Text" (29 : Nat) "TurnedLand$Text" "names" "[I") ∈ zAll := zAll_t1 206 rfl rfl
set_option maxRecDepth 20000 in
theorem zw_220 : (Jvm.Cond.fieldLink "TurnedLand$World" (12 : Nat) "TurnedLand$World" "ground" "LTurnedLand$Ground;") ∈ zAll := zAll_t1 220 rfl rfl
set_option maxRecDepth 20000 in
theorem zw_221 : (Jvm.Cond.fieldLink "TurnedLand$Ways" (30 : Nat) "TurnedLand$World" "ground" "LTurnedLand$Ground;") ∈ zAll := zAll_t1 221 rfl rfl
set_option maxRecDepth 20000 in
theorem zw_222 : (Jvm.Cond.fieldLink "TurnedLand" (76 : Nat) "TurnedLand$World" "ground" "LTurnedLand$Ground;") ∈ zAll := zAll_t1 222 rfl rfl
set_option maxRecDepth 20000 in
theorem zw_223 : (Jvm.Cond.fieldLink "TurnedLand$Walker" (37 : Nat) "TurnedLand$World" "ground" "LTurnedLand$Ground;") ∈ zAll := zAll_t1 223 rfl rfl
set_option maxRecDepth 20000 in
theorem zw_224 : (Jvm.Cond.fieldLink "TurnedLand$Doubts" (69 : Nat) "TurnedLand$World" "ground" "LTurnedLand$Ground;") ∈ zAll := zAll_t1 224 rfl rfl
set_option maxRecDepth 20000 in
theorem zw_225 : (Jvm.Cond.fieldLink "TurnedLand$World" (21 : Nat) "TurnedLand$World" "walks" "LTurnedLand$Walks;") ∈ zAll := zAll_t1 225 rfl rfl
set_option maxRecDepth 20000 in
theorem zw_226 : (Jvm.Cond.fieldLink "TurnedLand$Walker" (19 : Nat) "TurnedLand$World" "walks" "LTurnedLand$Walks;") ∈ zAll := zAll_t1 226 rfl rfl
set_option maxRecDepth 20000 in
theorem zw_227 : (Jvm.Cond.fieldLink "TurnedLand$Doubts" (43 : Nat) "TurnedLand$World" "walks" "LTurnedLand$Walks;") ∈ zAll := zAll_t1 227 rfl rfl
set_option maxRecDepth 20000 in
theorem zw_228 : (Jvm.Cond.fieldLink "TurnedLand" (199 : Nat) "TurnedLand$World" "walks" "LTurnedLand$Walks;") ∈ zAll := zAll_t1 228 rfl rfl
set_option maxRecDepth 20000 in
theorem zw_229 : (Jvm.Cond.fieldLink "TurnedLand$World" (28 : Nat) "TurnedLand$World" "folk" "LTurnedLand$Folk;") ∈ zAll := zAll_t1 229 rfl rfl
set_option maxRecDepth 20000 in
theorem zw_230 : (Jvm.Cond.fieldLink "TurnedLand" (255 : Nat) "TurnedLand$World" "folk" "LTurnedLand$Folk;") ∈ zAll := zAll_t1 230 rfl rfl
set_option maxRecDepth 20000 in
theorem zw_231 : (Jvm.Cond.fieldLink "TurnedLand$World" (35 : Nat) "TurnedLand$World" "doubts" "LTurnedLand$Doubts;") ∈ zAll := zAll_t1 231 rfl rfl
set_option maxRecDepth 20000 in
theorem zw_232 : (Jvm.Cond.fieldLink "TurnedLand" (122 : Nat) "TurnedLand$World" "doubts" "LTurnedLand$Doubts;") ∈ zAll := zAll_t1 232 rfl rfl
set_option maxRecDepth 20000 in
theorem zw_233 : (Jvm.Cond.fieldLink "TurnedLand$World" (42 : Nat) "TurnedLand$World" "hoursText" "LTurnedLand$Text;") ∈ zAll := zAll_t1 233 rfl rfl
set_option maxRecDepth 20000 in
theorem zw_234 : (Jvm.Cond.fieldLink "TurnedLand" (390 : Nat) "TurnedLand$World" "hoursText" "LTurnedLand$Text;") ∈ zAll := zAll_t1 234 rfl rfl
set_option maxRecDepth 20000 in
theorem zw_235 : (Jvm.Cond.fieldLink "TurnedLand$World" (46 : Nat) "TurnedLand$World" "priceText" "LTurnedLand$Text;") ∈ zAll := zAll_t1 235 rfl rfl
set_option maxRecDepth 20000 in
theorem zw_236 : (Jvm.Cond.fieldLink "TurnedLand" (394 : Nat) "TurnedLand$World" "priceText" "LTurnedLand$Text;") ∈ zAll := zAll_t1 236 rfl rfl
set_option maxRecDepth 20000 in
theorem zw_237 : (Jvm.Cond.fieldLink "TurnedLand$World" (49 : Nat) "TurnedLand$World" "tape" "[I") ∈ zAll := zAll_t1 237 rfl rfl
set_option maxRecDepth 20000 in
theorem zw_238 : (Jvm.Cond.fieldLink "TurnedLand" (158 : Nat) "TurnedLand$World" "tape" "[I") ∈ zAll := zAll_t1 238 rfl rfl
set_option maxRecDepth 20000 in
theorem zw_239 : (Jvm.Cond.fieldLink "TurnedLand$World" (53 : Nat) "TurnedLand$World" "taped" "I") ∈ zAll := zAll_t1 239 rfl rfl
set_option maxRecDepth 20000 in
theorem zw_240 : (Jvm.Cond.fieldLink "TurnedLand" (155 : Nat) "TurnedLand$World" "taped" "I") ∈ zAll := zAll_t2 0 rfl rfl
set_option maxRecDepth 20000 in
theorem zw_241 : (Jvm.Cond.fieldLink "TurnedLand$World" (57 : Nat) "TurnedLand$World" "waiting" "[I") ∈ zAll := zAll_t2 1 rfl rfl
set_option maxRecDepth 20000 in
theorem zw_242 : (Jvm.Cond.fieldLink "TurnedLand" (374 : Nat) "TurnedLand$World" "waiting" "[I") ∈ zAll := zAll_t2 2 rfl rfl
set_option maxRecDepth 20000 in
theorem zw_243 : (Jvm.Cond.fieldLink "TurnedLand$World" (60 : Nat) "TurnedLand$World" "waits" "I") ∈ zAll := zAll_t2 3 rfl rfl
set_option maxRecDepth 20000 in
theorem zw_244 : (Jvm.Cond.fieldLink "TurnedLand" (371 : Nat) "TurnedLand$World" "waits" "I") ∈ zAll := zAll_t2 4 rfl rfl
set_option maxRecDepth 20000 in
theorem zw_245 : (Jvm.Cond.fieldLink "TurnedLand$World" (63 : Nat) "TurnedLand$World" "drawn" "I") ∈ zAll := zAll_t2 5 rfl rfl
set_option maxRecDepth 20000 in
theorem zw_246 : (Jvm.Cond.fieldLink "TurnedLand" (331 : Nat) "TurnedLand$World" "drawn" "I") ∈ zAll := zAll_t2 6 rfl rfl
set_option maxRecDepth 20000 in
theorem zw_277 : (Jvm.Cond.fieldLink "TurnedLand$Shape" (9 : Nat) "TurnedLand$Shape" "labels" "[I") ∈ zAll := zAll_t2 37 rfl rfl
set_option maxRecDepth 20000 in
theorem zw_278 : (Jvm.Cond.fieldLink "TurnedLand$Shape" (15 : Nat) "TurnedLand$Shape" "flips" "[I") ∈ zAll := zAll_t2 38 rfl rfl
set_option maxRecDepth 20000 in
theorem zw_291 : (Jvm.Cond.fieldLink "TurnedLand$Ways" (9 : Nat) "TurnedLand$Ways" "least" "[I") ∈ zAll := zAll_t2 51 rfl rfl
set_option maxRecDepth 20000 in
theorem zw_292 : (Jvm.Cond.fieldLink "TurnedLand" (193 : Nat) "TurnedLand$Ways" "least" "[I") ∈ zAll := zAll_t2 52 rfl rfl
set_option maxRecDepth 20000 in
theorem zw_293 : (Jvm.Cond.fieldLink "TurnedLand$Ways" (15 : Nat) "TurnedLand$Ways" "firsts" "[I") ∈ zAll := zAll_t2 53 rfl rfl
set_option maxRecDepth 20000 in
theorem zw_294 : (Jvm.Cond.fieldLink "TurnedLand" (196 : Nat) "TurnedLand$Ways" "firsts" "[I") ∈ zAll := zAll_t2 54 rfl rfl
set_option maxRecDepth 20000 in
theorem zw_295 : (Jvm.Cond.fieldLink "TurnedLand$Ways" (20 : Nat) "TurnedLand$Ways" "comes" "[[I") ∈ zAll := zAll_t2 55 rfl rfl
set_option maxRecDepth 20000 in
theorem zw_296 : (Jvm.Cond.fieldLink "TurnedLand$Ways" (23 : Nat) "TurnedLand$Ways" "hours" "[[I") ∈ zAll := zAll_t2 56 rfl rfl
set_option maxRecDepth 20000 in
theorem zw_297 : (Jvm.Cond.fieldLink "TurnedLand$Ways" (26 : Nat) "TurnedLand$Ways" "places" "I") ∈ zAll := zAll_t2 57 rfl rfl
set_option maxRecDepth 20000 in
theorem zw_315 : (Jvm.Cond.fieldLink "TurnedLand$Walker" (9 : Nat) "TurnedLand$Walker" "places" "[I") ∈ zAll := zAll_t2 75 rfl rfl
set_option maxRecDepth 20000 in
theorem zw_316 : (Jvm.Cond.fieldLink "TurnedLand$Walker" (15 : Nat) "TurnedLand$Walker" "crossed" "I") ∈ zAll := zAll_t2 76 rfl rfl
set_option maxRecDepth 20000 in
theorem zw_317 : (Jvm.Cond.fieldLink "TurnedLand" (252 : Nat) "TurnedLand$Walker" "crossed" "I") ∈ zAll := zAll_t2 77 rfl rfl
set_option maxRecDepth 20000 in
theorem zw_329 : (Jvm.Cond.fieldLink "TurnedLand$Reader" (9 : Nat) "TurnedLand$Reader" "operations" "[I") ∈ zAll := zAll_t2 89 rfl rfl
set_option maxRecDepth 20000 in
theorem zw_330 : (Jvm.Cond.fieldLink "TurnedLand$Text" (41 : Nat) "TurnedLand$Reader" "operations" "[I") ∈ zAll := zAll_t2 90 rfl rfl
set_option maxRecDepth 20000 in
theorem zw_331 : (Jvm.Cond.fieldLink "TurnedLand$Reader" (15 : Nat) "TurnedLand$Reader" "operands" "[I") ∈ zAll := zAll_t2 91 rfl rfl
set_option maxRecDepth 20000 in
theorem zw_332 : (Jvm.Cond.fieldLink "TurnedLand$Text" (42 : Nat) "TurnedLand$Reader" "operands" "[I") ∈ zAll := zAll_t2 92 rfl rfl
set_option maxRecDepth 20000 in
theorem zw_333 : (Jvm.Cond.fieldLink "TurnedLand$Reader" (18 : Nat) "TurnedLand$Reader" "size" "I") ∈ zAll := zAll_t2 93 rfl rfl
set_option maxRecDepth 20000 in
theorem zw_334 : (Jvm.Cond.fieldLink "TurnedLand$Text" (38 : Nat) "TurnedLand$Reader" "size" "I") ∈ zAll := zAll_t2 94 rfl rfl
set_option maxRecDepth 20000 in
theorem zw_335 : (Jvm.Cond.fieldLink "TurnedLand$Reader" (22 : Nat) "TurnedLand$Reader" "at" "I") ∈ zAll := zAll_t2 95 rfl rfl
set_option maxRecDepth 20000 in
theorem zw_336 : (Jvm.Cond.fieldLink "TurnedLand" (165 : Nat) "TurnedLand$Reader" "at" "I") ∈ zAll := zAll_t2 96 rfl rfl
set_option maxRecDepth 20000 in
theorem zw_337 : (Jvm.Cond.fieldLink "TurnedLand$Reader" (25 : Nat) "TurnedLand$Reader" "bytes" "[I") ∈ zAll := zAll_t2 97 rfl rfl
set_option maxRecDepth 20000 in
theorem zw_338 : (Jvm.Cond.fieldLink "TurnedLand$Reader" (28 : Nat) "TurnedLand$Reader" "length" "I") ∈ zAll := zAll_t2 98 rfl rfl
set_option maxRecDepth 20000 in
theorem zw_339 : (Jvm.Cond.fieldLink "TurnedLand$Reader" (31 : Nat) "TurnedLand$Reader" "use" "I") ∈ zAll := zAll_t2 99 rfl rfl
set_option maxRecDepth 20000 in
theorem zw_361 : (Jvm.Cond.fieldLink "TurnedLand$Voices" (9 : Nat) "TurnedLand$Voices" "trace" "[I") ∈ zAll := zAll_t2 121 rfl rfl
set_option maxRecDepth 20000 in
theorem zw_362 : (Jvm.Cond.fieldLink "TurnedLand" (344 : Nat) "TurnedLand$Voices" "trace" "[I") ∈ zAll := zAll_t2 122 rfl rfl
set_option maxRecDepth 20000 in
theorem zw_363 : (Jvm.Cond.fieldLink "TurnedLand$Voices" (15 : Nat) "TurnedLand$Voices" "traced" "I") ∈ zAll := zAll_t2 123 rfl rfl
set_option maxRecDepth 20000 in
theorem zw_364 : (Jvm.Cond.fieldLink "TurnedLand" (341 : Nat) "TurnedLand$Voices" "traced" "I") ∈ zAll := zAll_t2 124 rfl rfl
set_option maxRecDepth 20000 in
theorem zw_365 : (Jvm.Cond.fieldLink "TurnedLand$Voices" (19 : Nat) "TurnedLand$Voices" "parted" "Z") ∈ zAll := zAll_t2 125 rfl rfl
set_option maxRecDepth 20000 in
theorem zw_366 : (Jvm.Cond.fieldLink "TurnedLand" (338 : Nat) "TurnedLand$Voices" "parted" "Z") ∈ zAll := zAll_t2 126 rfl rfl
set_option maxRecDepth 20000 in
theorem zw_367 : (Jvm.Cond.fieldLink "TurnedLand$Voices" (23 : Nat) "TurnedLand$Voices" "kind" "I") ∈ zAll := zAll_t2 127 rfl rfl
set_option maxRecDepth 20000 in
theorem zw_368 : (Jvm.Cond.fieldLink "TurnedLand$Voices" (26 : Nat) "TurnedLand$Voices" "number" "I") ∈ zAll := zAll_t2 128 rfl rfl
set_option maxRecDepth 20000 in
theorem zw_369 : (Jvm.Cond.fieldLink "TurnedLand$Voices" (29 : Nat) "TurnedLand$Voices" "steps" "I") ∈ zAll := zAll_t2 129 rfl rfl
set_option maxRecDepth 20000 in
theorem zw_383 : (Jvm.Cond.fieldLink "TurnedLand" (12 : Nat) "TurnedLand" "now" "LTurnedLand$World;") ∈ zAll := zAll_t2 143 rfl rfl
set_option maxRecDepth 20000 in
theorem zw_384 : (Jvm.Cond.fieldLink "TurnedLand" (16 : Nat) "TurnedLand" "kept" "LTurnedLand$World;") ∈ zAll := zAll_t2 144 rfl rfl
set_option maxRecDepth 20000 in
theorem zw_385 : (Jvm.Cond.fieldLink "TurnedLand" (19 : Nat) "TurnedLand" "images" "I") ∈ zAll := zAll_t2 145 rfl rfl
set_option maxRecDepth 20000 in
theorem zw_386 : (Jvm.Cond.fieldLink "TurnedLand" (23 : Nat) "TurnedLand" "refused" "[I") ∈ zAll := zAll_t2 146 rfl rfl
set_option maxRecDepth 20000 in
theorem zw_387 : (Jvm.Cond.fieldLink "TurnedLand" (27 : Nat) "TurnedLand" "sheetBits" "[I") ∈ zAll := zAll_t2 147 rfl rfl
set_option maxRecDepth 20000 in
theorem zw_388 : (Jvm.Cond.fieldLink "TurnedLand" (30 : Nat) "TurnedLand" "sheetSize" "[I") ∈ zAll := zAll_t2 148 rfl rfl
set_option maxRecDepth 20000 in
theorem zw_389 : (Jvm.Cond.fieldLink "TurnedLand" (35 : Nat) "TurnedLand" "sheetRow" "[[I") ∈ zAll := zAll_t2 149 rfl rfl
set_option maxRecDepth 20000 in
theorem zw_390 : (Jvm.Cond.fieldLink "TurnedLand" (41 : Nat) "TurnedLand" "shape" "LTurnedLand$Shape;") ∈ zAll := zAll_t2 150 rfl rfl
set_option maxRecDepth 20000 in
theorem zw_391 : (Jvm.Cond.fieldLink "TurnedLand" (48 : Nat) "TurnedLand" "ways" "LTurnedLand$Ways;") ∈ zAll := zAll_t2 151 rfl rfl
set_option maxRecDepth 20000 in
theorem zw_392 : (Jvm.Cond.fieldLink "TurnedLand" (52 : Nat) "TurnedLand" "otherWays" "LTurnedLand$Ways;") ∈ zAll := zAll_t2 152 rfl rfl
set_option maxRecDepth 20000 in
theorem zw_393 : (Jvm.Cond.fieldLink "TurnedLand" (58 : Nat) "TurnedLand" "walker" "LTurnedLand$Walker;") ∈ zAll := zAll_t2 153 rfl rfl
set_option maxRecDepth 20000 in
theorem zw_394 : (Jvm.Cond.fieldLink "TurnedLand" (65 : Nat) "TurnedLand" "reader" "LTurnedLand$Reader;") ∈ zAll := zAll_t2 154 rfl rfl
set_option maxRecDepth 20000 in
theorem zw_395 : (Jvm.Cond.fieldLink "TurnedLand" (72 : Nat) "TurnedLand" "voices" "LTurnedLand$Voices;") ∈ zAll := zAll_t2 155 rfl rfl
set_option maxRecDepth 20000 in
theorem zw_426 : (Jvm.Cond.code ({ cls := "TurnedLand", name := "square", desc := "(I)I" } : Jvm.MethodName) prog_1_method_2_code (3 : Nat) (Option.some Jvm.ClassFile.FieldType.int)) ∈ zAll := zAll_t2 186 rfl rfl
set_option maxRecDepth 20000 in
theorem zw_427 : (Jvm.Cond.methodLink "TurnedLand" (80 : Nat) ({ cls := "TurnedLand", name := "within", desc := "(III)Z" } : Jvm.MethodName)) ∈ zAll := zAll_t2 187 rfl rfl
set_option maxRecDepth 20000 in
theorem zw_428 : (Jvm.Cond.static ({ cls := "TurnedLand", name := "within", desc := "(III)Z" } : Jvm.MethodName)) ∈ zAll := zAll_t2 188 rfl rfl
set_option maxRecDepth 20000 in
theorem zw_429 : (Jvm.Cond.code ({ cls := "TurnedLand", name := "within", desc := "(III)Z" } : Jvm.MethodName) prog_1_method_51_code (3 : Nat) (Option.some Jvm.ClassFile.FieldType.boolean)) ∈ zAll := zAll_t2 189 rfl rfl
set_option maxRecDepth 20000 in
theorem zw_430 : (Jvm.Cond.methodLink "TurnedLand" (84 : Nat) ({ cls := "TurnedLand", name := "refuse", desc := "(I)I" } : Jvm.MethodName)) ∈ zAll := zAll_t2 190 rfl rfl
set_option maxRecDepth 20000 in
theorem zw_432 : (Jvm.Cond.instanceMethod ({ cls := "TurnedLand", name := "refuse", desc := "(I)I" } : Jvm.MethodName)) ∈ zAll := zAll_t2 192 rfl rfl
set_option maxRecDepth 20000 in
theorem zw_433 : (Jvm.Cond.code ({ cls := "TurnedLand", name := "refuse", desc := "(I)I" } : Jvm.MethodName) prog_1_method_50_code (2 : Nat) (Option.some Jvm.ClassFile.FieldType.int)) ∈ zAll := zAll_t2 193 rfl rfl
set_option maxRecDepth 20000 in
theorem zw_434 : (Jvm.Cond.constant "TurnedLand" (381 : Nat) (-1000000 : Int32)) ∈ zAll := zAll_t2 194 rfl rfl
set_option maxRecDepth 20000 in
theorem zw_438 : (Jvm.Cond.code ({ cls := "TurnedLand", name := "cost", desc := "(II)I" } : Jvm.MethodName) prog_1_method_3_code (5 : Nat) (Option.some Jvm.ClassFile.FieldType.int)) ∈ zAll := zAll_t2 198 rfl rfl
set_option maxRecDepth 20000 in
theorem zw_439 : (Jvm.Cond.methodLink "TurnedLand" (96 : Nat) ({ cls := "TurnedLand$Ground", name := "hasSquare", desc := "(I)Z" } : Jvm.MethodName)) ∈ zAll := zAll_t2 199 rfl rfl
set_option maxRecDepth 20000 in
theorem zw_440 : (Jvm.Cond.instanceMethod ({ cls := "TurnedLand$Ground", name := "hasSquare", desc := "(I)Z" } : Jvm.MethodName)) ∈ zAll := zAll_t2 200 rfl rfl
set_option maxRecDepth 20000 in
theorem zw_441 : (Jvm.Cond.selects "TurnedLand$Ground" ({ cls := "TurnedLand$Ground", name := "hasSquare", desc := "(I)Z" } : Jvm.MethodName) ({ cls := "TurnedLand$Ground", name := "hasSquare", desc := "(I)Z" } : Jvm.MethodName)) ∈ zAll := zAll_t2 201 rfl rfl
set_option maxRecDepth 20000 in
theorem zw_442 : (Jvm.Cond.code ({ cls := "TurnedLand$Ground", name := "hasSquare", desc := "(I)Z" } : Jvm.MethodName) prog_4_method_3_code (2 : Nat) (Option.some Jvm.ClassFile.FieldType.boolean)) ∈ zAll := zAll_t2 202 rfl rfl
set_option maxRecDepth 20000 in
theorem zw_447 : (Jvm.Cond.code ({ cls := "TurnedLand", name := "join", desc := "(III)I" } : Jvm.MethodName) prog_1_method_4_code (5 : Nat) (Option.some Jvm.ClassFile.FieldType.int)) ∈ zAll := zAll_t2 207 rfl rfl
set_option maxRecDepth 20000 in
theorem zw_448 : (Jvm.Cond.methodLink "TurnedLand" (100 : Nat) ({ cls := "TurnedLand$Ground", name := "joinError", desc := "(III)I" } : Jvm.MethodName)) ∈ zAll := zAll_t2 208 rfl rfl
set_option maxRecDepth 20000 in
theorem zw_449 : (Jvm.Cond.instanceMethod ({ cls := "TurnedLand$Ground", name := "joinError", desc := "(III)I" } : Jvm.MethodName)) ∈ zAll := zAll_t2 209 rfl rfl
set_option maxRecDepth 20000 in
theorem zw_450 : (Jvm.Cond.selects "TurnedLand$Ground" ({ cls := "TurnedLand$Ground", name := "joinError", desc := "(III)I" } : Jvm.MethodName) ({ cls := "TurnedLand$Ground", name := "joinError", desc := "(III)I" } : Jvm.MethodName)) ∈ zAll := zAll_t2 210 rfl rfl
set_option maxRecDepth 20000 in
theorem zw_451 : (Jvm.Cond.code ({ cls := "TurnedLand$Ground", name := "joinError", desc := "(III)I" } : Jvm.MethodName) prog_4_method_7_code (5 : Nat) (Option.some Jvm.ClassFile.FieldType.int)) ∈ zAll := zAll_t2 211 rfl rfl
set_option maxRecDepth 20000 in
theorem zw_452 : (Jvm.Cond.methodLink "TurnedLand$Ground" (47 : Nat) ({ cls := "TurnedLand$Ground", name := "hasEdge", desc := "(I)Z" } : Jvm.MethodName)) ∈ zAll := zAll_t2 212 rfl rfl
set_option maxRecDepth 20000 in
theorem zw_453 : (Jvm.Cond.instanceMethod ({ cls := "TurnedLand$Ground", name := "hasEdge", desc := "(I)Z" } : Jvm.MethodName)) ∈ zAll := zAll_t2 213 rfl rfl
set_option maxRecDepth 20000 in
theorem zw_454 : (Jvm.Cond.selects "TurnedLand$Ground" ({ cls := "TurnedLand$Ground", name := "hasEdge", desc := "(I)Z" } : Jvm.MethodName) ({ cls := "TurnedLand$Ground", name := "hasEdge", desc := "(I)Z" } : Jvm.MethodName)) ∈ zAll := zAll_t2 214 rfl rfl
set_option maxRecDepth 20000 in
theorem zw_455 : (Jvm.Cond.code ({ cls := "TurnedLand$Ground", name := "hasEdge", desc := "(I)Z" } : Jvm.MethodName) prog_4_method_5_code (2 : Nat) (Option.some Jvm.ClassFile.FieldType.boolean)) ∈ zAll := zAll_t2 215 rfl rfl
set_option maxRecDepth 20000 in
theorem zw_456 : (Jvm.Cond.methodLink "TurnedLand" (104 : Nat) ({ cls := "TurnedLand$Ground", name := "addJoin", desc := "(III)I" } : Jvm.MethodName)) ∈ zAll := zAll_t2 216 rfl rfl
set_option maxRecDepth 20000 in
theorem zw_457 : (Jvm.Cond.instanceMethod ({ cls := "TurnedLand$Ground", name := "addJoin", desc := "(III)I" } : Jvm.MethodName)) ∈ zAll := zAll_t2 217 rfl rfl
set_option maxRecDepth 20000 in
theorem zw_458 : (Jvm.Cond.selects "TurnedLand$Ground" ({ cls := "TurnedLand$Ground", name := "addJoin", desc := "(III)I" } : Jvm.MethodName) ({ cls := "TurnedLand$Ground", name := "addJoin", desc := "(III)I" } : Jvm.MethodName)) ∈ zAll := zAll_t2 218 rfl rfl
set_option maxRecDepth 20000 in
theorem zw_459 : (Jvm.Cond.code ({ cls := "TurnedLand$Ground", name := "addJoin", desc := "(III)I" } : Jvm.MethodName) prog_4_method_8_code (4 : Nat) (Option.some Jvm.ClassFile.FieldType.int)) ∈ zAll := zAll_t2 219 rfl rfl
set_option maxRecDepth 20000 in
theorem zw_463 : (Jvm.Cond.code ({ cls := "TurnedLand", name := "joinIs", desc := "(II)I" } : Jvm.MethodName) prog_1_method_5_code (4 : Nat) (Option.some Jvm.ClassFile.FieldType.int)) ∈ zAll := zAll_t2 223 rfl rfl
set_option maxRecDepth 20000 in
theorem zw_464 : (Jvm.Cond.methodLink "TurnedLand" (107 : Nat) ({ cls := "TurnedLand$Ground", name := "hasJoin", desc := "(I)Z" } : Jvm.MethodName)) ∈ zAll := zAll_t2 224 rfl rfl
set_option maxRecDepth 20000 in
theorem zw_465 : (Jvm.Cond.instanceMethod ({ cls := "TurnedLand$Ground", name := "hasJoin", desc := "(I)Z" } : Jvm.MethodName)) ∈ zAll := zAll_t2 225 rfl rfl
set_option maxRecDepth 20000 in
theorem zw_466 : (Jvm.Cond.selects "TurnedLand$Ground" ({ cls := "TurnedLand$Ground", name := "hasJoin", desc := "(I)Z" } : Jvm.MethodName) ({ cls := "TurnedLand$Ground", name := "hasJoin", desc := "(I)Z" } : Jvm.MethodName)) ∈ zAll := zAll_t2 226 rfl rfl
set_option maxRecDepth 20000 in
theorem zw_467 : (Jvm.Cond.code ({ cls := "TurnedLand$Ground", name := "hasJoin", desc := "(I)Z" } : Jvm.MethodName) prog_4_method_6_code (2 : Nat) (Option.some Jvm.ClassFile.FieldType.boolean)) ∈ zAll := zAll_t2 227 rfl rfl
set_option maxRecDepth 20000 in
theorem zw_471 : (Jvm.Cond.code ({ cls := "TurnedLand", name := "turn", desc := "(II)I" } : Jvm.MethodName) prog_1_method_6_code (5 : Nat) (Option.some Jvm.ClassFile.FieldType.int)) ∈ zAll := zAll_t2 231 rfl rfl
set_option maxRecDepth 20000 in
theorem zw_475 : (Jvm.Cond.code ({ cls := "TurnedLand", name := "part", desc := "()I" } : Jvm.MethodName) prog_1_method_7_code (2 : Nat) (Option.some Jvm.ClassFile.FieldType.int)) ∈ zAll := zAll_t2 235 rfl rfl
set_option maxRecDepth 20000 in
theorem zw_476 : (Jvm.Cond.methodLink "TurnedLand" (119 : Nat) ({ cls := "TurnedLand$Ground", name := "takeOffLatest", desc := "()V" } : Jvm.MethodName)) ∈ zAll := zAll_t2 236 rfl rfl
set_option maxRecDepth 20000 in
theorem zw_477 : (Jvm.Cond.instanceMethod ({ cls := "TurnedLand$Ground", name := "takeOffLatest", desc := "()V" } : Jvm.MethodName)) ∈ zAll := zAll_t2 237 rfl rfl
set_option maxRecDepth 20000 in
theorem zw_478 : (Jvm.Cond.selects "TurnedLand$Ground" ({ cls := "TurnedLand$Ground", name := "takeOffLatest", desc := "()V" } : Jvm.MethodName) ({ cls := "TurnedLand$Ground", name := "takeOffLatest", desc := "()V" } : Jvm.MethodName)) ∈ zAll := zAll_t2 238 rfl rfl
set_option maxRecDepth 20000 in
theorem zw_479 : (Jvm.Cond.code ({ cls := "TurnedLand$Ground", name := "takeOffLatest", desc := "()V" } : Jvm.MethodName) prog_4_method_9_code (1 : Nat) (Option.none : Option Jvm.ClassFile.FieldType)) ∈ zAll := zAll_t2 239 rfl rfl
set_option maxRecDepth 20000 in
theorem zw_483 : (Jvm.Cond.code ({ cls := "TurnedLand", name := "across", desc := "(I)I" } : Jvm.MethodName) prog_1_method_8_code (3 : Nat) (Option.some Jvm.ClassFile.FieldType.int)) ∈ zAll := zAll_t3 3 rfl rfl
set_option maxRecDepth 20000 in
theorem zw_484 : (Jvm.Cond.methodLink "TurnedLand" (129 : Nat) ({ cls := "TurnedLand$Ground", name := "hasEdge", desc := "(I)Z" } : Jvm.MethodName)) ∈ zAll := zAll_t3 4 rfl rfl
set_option maxRecDepth 20000 in
theorem zw_485 : (Jvm.Cond.methodLink "TurnedLand" (132 : Nat) ({ cls := "TurnedLand$Ground", name := "otherEdge", desc := "(I)I" } : Jvm.MethodName)) ∈ zAll := zAll_t3 5 rfl rfl
set_option maxRecDepth 20000 in
theorem zw_486 : (Jvm.Cond.instanceMethod ({ cls := "TurnedLand$Ground", name := "otherEdge", desc := "(I)I" } : Jvm.MethodName)) ∈ zAll := zAll_t3 6 rfl rfl
set_option maxRecDepth 20000 in
theorem zw_487 : (Jvm.Cond.selects "TurnedLand$Ground" ({ cls := "TurnedLand$Ground", name := "otherEdge", desc := "(I)I" } : Jvm.MethodName) ({ cls := "TurnedLand$Ground", name := "otherEdge", desc := "(I)I" } : Jvm.MethodName)) ∈ zAll := zAll_t3 7 rfl rfl
set_option maxRecDepth 20000 in
theorem zw_488 : (Jvm.Cond.code ({ cls := "TurnedLand$Ground", name := "otherEdge", desc := "(I)I" } : Jvm.MethodName) prog_4_method_10_code (3 : Nat) (Option.some Jvm.ClassFile.FieldType.int)) ∈ zAll := zAll_t3 8 rfl rfl
set_option maxRecDepth 20000 in
theorem zw_492 : (Jvm.Cond.code ({ cls := "TurnedLand", name := "land", desc := "(I)I" } : Jvm.MethodName) prog_1_method_9_code (3 : Nat) (Option.some Jvm.ClassFile.FieldType.int)) ∈ zAll := zAll_t3 12 rfl rfl
set_option maxRecDepth 20000 in
theorem zw_493 : (Jvm.Cond.methodLink "TurnedLand" (135 : Nat) ({ cls := "TurnedLand$Shape", name := "corners", desc := "(LTurnedLand$Ground;)I" } : Jvm.MethodName)) ∈ zAll := zAll_t3 13 rfl rfl
set_option maxRecDepth 20000 in
theorem zw_494 : (Jvm.Cond.instanceMethod ({ cls := "TurnedLand$Shape", name := "corners", desc := "(LTurnedLand$Ground;)I" } : Jvm.MethodName)) ∈ zAll := zAll_t3 14 rfl rfl
set_option maxRecDepth 20000 in
theorem zw_495 : (Jvm.Cond.selects "TurnedLand$Shape" ({ cls := "TurnedLand$Shape", name := "corners", desc := "(LTurnedLand$Ground;)I" } : Jvm.MethodName) ({ cls := "TurnedLand$Shape", name := "corners", desc := "(LTurnedLand$Ground;)I" } : Jvm.MethodName)) ∈ zAll := zAll_t3 15 rfl rfl
set_option maxRecDepth 20000 in
theorem zw_496 : (Jvm.Cond.code ({ cls := "TurnedLand$Shape", name := "corners", desc := "(LTurnedLand$Ground;)I" } : Jvm.MethodName) prog_6_method_2_code (2 : Nat) (Option.some Jvm.ClassFile.FieldType.int)) ∈ zAll := zAll_t3 16 rfl rfl
set_option maxRecDepth 20000 in
theorem zw_497 : (Jvm.Cond.methodLink "TurnedLand$Shape" (18 : Nat) ({ cls := "TurnedLand$Shape", name := "makeCornersOne", desc := "(LTurnedLand$Ground;)V" } : Jvm.MethodName)) ∈ zAll := zAll_t3 17 rfl rfl
set_option maxRecDepth 20000 in
theorem zw_499 : (Jvm.Cond.instanceMethod ({ cls := "TurnedLand$Shape", name := "makeCornersOne", desc := "(LTurnedLand$Ground;)V" } : Jvm.MethodName)) ∈ zAll := zAll_t3 19 rfl rfl
set_option maxRecDepth 20000 in
theorem zw_500 : (Jvm.Cond.code ({ cls := "TurnedLand$Shape", name := "makeCornersOne", desc := "(LTurnedLand$Ground;)V" } : Jvm.MethodName) prog_6_method_8_code (7 : Nat) (Option.none : Option Jvm.ClassFile.FieldType)) ∈ zAll := zAll_t3 20 rfl rfl
set_option maxRecDepth 20000 in
theorem zw_501 : (Jvm.Cond.methodLink "TurnedLand$Shape" (32 : Nat) ({ cls := "TurnedLand$Shape", name := "begin", desc := "(I)V" } : Jvm.MethodName)) ∈ zAll := zAll_t3 21 rfl rfl
set_option maxRecDepth 20000 in
theorem zw_503 : (Jvm.Cond.instanceMethod ({ cls := "TurnedLand$Shape", name := "begin", desc := "(I)V" } : Jvm.MethodName)) ∈ zAll := zAll_t3 23 rfl rfl
set_option maxRecDepth 20000 in
theorem zw_504 : (Jvm.Cond.code ({ cls := "TurnedLand$Shape", name := "begin", desc := "(I)V" } : Jvm.MethodName) prog_6_method_10_code (3 : Nat) (Option.none : Option Jvm.ClassFile.FieldType)) ∈ zAll := zAll_t3 24 rfl rfl
set_option maxRecDepth 20000 in
theorem zw_505 : (Jvm.Cond.methodLink "TurnedLand$Shape" (49 : Nat) ({ cls := "TurnedLand$Shape", name := "secondCorner", desc := "(I)I" } : Jvm.MethodName)) ∈ zAll := zAll_t3 25 rfl rfl
set_option maxRecDepth 20000 in
theorem zw_506 : (Jvm.Cond.static ({ cls := "TurnedLand$Shape", name := "secondCorner", desc := "(I)I" } : Jvm.MethodName)) ∈ zAll := zAll_t3 26 rfl rfl
set_option maxRecDepth 20000 in
theorem zw_507 : (Jvm.Cond.code ({ cls := "TurnedLand$Shape", name := "secondCorner", desc := "(I)I" } : Jvm.MethodName) prog_6_method_7_code (1 : Nat) (Option.some Jvm.ClassFile.FieldType.int)) ∈ zAll := zAll_t3 27 rfl rfl
set_option maxRecDepth 20000 in
theorem zw_508 : (Jvm.Cond.methodLink "TurnedLand$Shape" (42 : Nat) ({ cls := "TurnedLand$Shape", name := "makeOne", desc := "(III)V" } : Jvm.MethodName)) ∈ zAll := zAll_t3 28 rfl rfl
set_option maxRecDepth 20000 in
theorem zw_510 : (Jvm.Cond.instanceMethod ({ cls := "TurnedLand$Shape", name := "makeOne", desc := "(III)V" } : Jvm.MethodName)) ∈ zAll := zAll_t3 30 rfl rfl
set_option maxRecDepth 20000 in
theorem zw_511 : (Jvm.Cond.code ({ cls := "TurnedLand$Shape", name := "makeOne", desc := "(III)V" } : Jvm.MethodName) prog_6_method_11_code (7 : Nat) (Option.none : Option Jvm.ClassFile.FieldType)) ∈ zAll := zAll_t3 31 rfl rfl
set_option maxRecDepth 20000 in
theorem zw_512 : (Jvm.Cond.methodLink "TurnedLand$Shape" (28 : Nat) ({ cls := "TurnedLand$Shape", name := "labelsLeft", desc := "(I)I" } : Jvm.MethodName)) ∈ zAll := zAll_t3 32 rfl rfl
set_option maxRecDepth 20000 in
theorem zw_514 : (Jvm.Cond.instanceMethod ({ cls := "TurnedLand$Shape", name := "labelsLeft", desc := "(I)I" } : Jvm.MethodName)) ∈ zAll := zAll_t3 34 rfl rfl
set_option maxRecDepth 20000 in
theorem zw_515 : (Jvm.Cond.code ({ cls := "TurnedLand$Shape", name := "labelsLeft", desc := "(I)I" } : Jvm.MethodName) prog_6_method_12_code (4 : Nat) (Option.some Jvm.ClassFile.FieldType.int)) ∈ zAll := zAll_t3 35 rfl rfl
set_option maxRecDepth 20000 in
theorem zw_516 : (Jvm.Cond.methodLink "TurnedLand" (139 : Nat) ({ cls := "TurnedLand", name := "edgesOnce", desc := "(LTurnedLand$Ground;)I" } : Jvm.MethodName)) ∈ zAll := zAll_t3 36 rfl rfl
set_option maxRecDepth 20000 in
theorem zw_517 : (Jvm.Cond.static ({ cls := "TurnedLand", name := "edgesOnce", desc := "(LTurnedLand$Ground;)I" } : Jvm.MethodName)) ∈ zAll := zAll_t3 37 rfl rfl
set_option maxRecDepth 20000 in
theorem zw_518 : (Jvm.Cond.code ({ cls := "TurnedLand", name := "edgesOnce", desc := "(LTurnedLand$Ground;)I" } : Jvm.MethodName) prog_1_method_53_code (1 : Nat) (Option.some Jvm.ClassFile.FieldType.int)) ∈ zAll := zAll_t3 38 rfl rfl
set_option maxRecDepth 20000 in
theorem zw_519 : (Jvm.Cond.methodLink "TurnedLand" (142 : Nat) ({ cls := "TurnedLand$Shape", name := "parts", desc := "(LTurnedLand$Ground;)I" } : Jvm.MethodName)) ∈ zAll := zAll_t3 39 rfl rfl
set_option maxRecDepth 20000 in
theorem zw_520 : (Jvm.Cond.instanceMethod ({ cls := "TurnedLand$Shape", name := "parts", desc := "(LTurnedLand$Ground;)I" } : Jvm.MethodName)) ∈ zAll := zAll_t3 40 rfl rfl
set_option maxRecDepth 20000 in
theorem zw_521 : (Jvm.Cond.selects "TurnedLand$Shape" ({ cls := "TurnedLand$Shape", name := "parts", desc := "(LTurnedLand$Ground;)I" } : Jvm.MethodName) ({ cls := "TurnedLand$Shape", name := "parts", desc := "(LTurnedLand$Ground;)I" } : Jvm.MethodName)) ∈ zAll := zAll_t3 41 rfl rfl
set_option maxRecDepth 20000 in
theorem zw_522 : (Jvm.Cond.code ({ cls := "TurnedLand$Shape", name := "parts", desc := "(LTurnedLand$Ground;)I" } : Jvm.MethodName) prog_6_method_3_code (3 : Nat) (Option.some Jvm.ClassFile.FieldType.int)) ∈ zAll := zAll_t3 42 rfl rfl
set_option maxRecDepth 20000 in
theorem zw_523 : (Jvm.Cond.methodLink "TurnedLand" (145 : Nat) ({ cls := "TurnedLand$Shape", name := "rims", desc := "(LTurnedLand$Ground;)I" } : Jvm.MethodName)) ∈ zAll := zAll_t3 43 rfl rfl
set_option maxRecDepth 20000 in
theorem zw_524 : (Jvm.Cond.instanceMethod ({ cls := "TurnedLand$Shape", name := "rims", desc := "(LTurnedLand$Ground;)I" } : Jvm.MethodName)) ∈ zAll := zAll_t3 44 rfl rfl
set_option maxRecDepth 20000 in
theorem zw_525 : (Jvm.Cond.selects "TurnedLand$Shape" ({ cls := "TurnedLand$Shape", name := "rims", desc := "(LTurnedLand$Ground;)I" } : Jvm.MethodName) ({ cls := "TurnedLand$Shape", name := "rims", desc := "(LTurnedLand$Ground;)I" } : Jvm.MethodName)) ∈ zAll := zAll_t3 45 rfl rfl
set_option maxRecDepth 20000 in
theorem zw_526 : (Jvm.Cond.code ({ cls := "TurnedLand$Shape", name := "rims", desc := "(LTurnedLand$Ground;)I" } : Jvm.MethodName) prog_6_method_4_code (5 : Nat) (Option.some Jvm.ClassFile.FieldType.int)) ∈ zAll := zAll_t3 46 rfl rfl
set_option maxRecDepth 20000 in
theorem zw_527 : (Jvm.Cond.methodLink "TurnedLand$Shape" (52 : Nat) ({ cls := "java/lang/Integer", name := "bitCount", desc := "(I)I" } : Jvm.MethodName)) ∈ zAll := zAll_t3 47 rfl rfl
set_option maxRecDepth 20000 in
theorem zw_528 : (Jvm.Cond.static ({ cls := "java/lang/Integer", name := "bitCount", desc := "(I)I" } : Jvm.MethodName)) ∈ zAll := zAll_t3 48 rfl rfl
set_option maxRecDepth 20000 in
theorem zw_529 : (Jvm.Cond.code ({ cls := "java/lang/Integer", name := "bitCount", desc := "(I)I" } : Jvm.MethodName) prog_15_method_49_code (1 : Nat) (Option.some Jvm.ClassFile.FieldType.int)) ∈ zAll := zAll_t3 49 rfl rfl
set_option maxRecDepth 20000 in
theorem zw_530 : (Jvm.Cond.constant "java/lang/Integer" (265 : Nat) (1431655765 : Int32)) ∈ zAll := zAll_t3 50 rfl rfl
set_option maxRecDepth 20000 in
theorem zw_531 : (Jvm.Cond.constant "java/lang/Integer" (266 : Nat) (858993459 : Int32)) ∈ zAll := zAll_t3 51 rfl rfl
set_option maxRecDepth 20000 in
theorem zw_532 : (Jvm.Cond.constant "java/lang/Integer" (267 : Nat) (252645135 : Int32)) ∈ zAll := zAll_t3 52 rfl rfl
set_option maxRecDepth 20000 in
theorem zw_533 : (Jvm.Cond.methodLink "TurnedLand" (148 : Nat) ({ cls := "TurnedLand$Shape", name := "turnsHome", desc := "(LTurnedLand$Ground;I)Z" } : Jvm.MethodName)) ∈ zAll := zAll_t3 53 rfl rfl
set_option maxRecDepth 20000 in
theorem zw_534 : (Jvm.Cond.instanceMethod ({ cls := "TurnedLand$Shape", name := "turnsHome", desc := "(LTurnedLand$Ground;I)Z" } : Jvm.MethodName)) ∈ zAll := zAll_t3 54 rfl rfl
set_option maxRecDepth 20000 in
theorem zw_535 : (Jvm.Cond.selects "TurnedLand$Shape" ({ cls := "TurnedLand$Shape", name := "turnsHome", desc := "(LTurnedLand$Ground;I)Z" } : Jvm.MethodName) ({ cls := "TurnedLand$Shape", name := "turnsHome", desc := "(LTurnedLand$Ground;I)Z" } : Jvm.MethodName)) ∈ zAll := zAll_t3 55 rfl rfl
set_option maxRecDepth 20000 in
theorem zw_536 : (Jvm.Cond.code ({ cls := "TurnedLand$Shape", name := "turnsHome", desc := "(LTurnedLand$Ground;I)Z" } : Jvm.MethodName) prog_6_method_5_code (5 : Nat) (Option.some Jvm.ClassFile.FieldType.boolean)) ∈ zAll := zAll_t3 56 rfl rfl
set_option maxRecDepth 20000 in
theorem zw_537 : (Jvm.Cond.methodLink "TurnedLand$Shape" (57 : Nat) ({ cls := "java/util/Arrays", name := "fill", desc := "([II)V" } : Jvm.MethodName)) ∈ zAll := zAll_t3 57 rfl rfl
set_option maxRecDepth 20000 in
theorem zw_538 : (Jvm.Cond.methodLink "TurnedLand$Shape" (63 : Nat) ({ cls := "TurnedLand$Shape", name := "hangsTogether", desc := "(LTurnedLand$Ground;I)Z" } : Jvm.MethodName)) ∈ zAll := zAll_t3 58 rfl rfl
set_option maxRecDepth 20000 in
theorem zw_540 : (Jvm.Cond.instanceMethod ({ cls := "TurnedLand$Shape", name := "hangsTogether", desc := "(LTurnedLand$Ground;I)Z" } : Jvm.MethodName)) ∈ zAll := zAll_t3 60 rfl rfl
set_option maxRecDepth 20000 in
theorem zw_541 : (Jvm.Cond.code ({ cls := "TurnedLand$Shape", name := "hangsTogether", desc := "(LTurnedLand$Ground;I)Z" } : Jvm.MethodName) prog_6_method_9_code (8 : Nat) (Option.some Jvm.ClassFile.FieldType.boolean)) ∈ zAll := zAll_t3 61 rfl rfl
set_option maxRecDepth 20000 in
theorem zw_545 : (Jvm.Cond.code ({ cls := "TurnedLand", name := "plain", desc := "()I" } : Jvm.MethodName) prog_1_method_10_code (2 : Nat) (Option.some Jvm.ClassFile.FieldType.int)) ∈ zAll := zAll_t3 65 rfl rfl
set_option maxRecDepth 20000 in
theorem zw_546 : (Jvm.Cond.methodLink "TurnedLand" (152 : Nat) ({ cls := "TurnedLand$Shape", name := "leastCuts", desc := "(LTurnedLand$Ground;)I" } : Jvm.MethodName)) ∈ zAll := zAll_t3 66 rfl rfl
set_option maxRecDepth 20000 in
theorem zw_547 : (Jvm.Cond.instanceMethod ({ cls := "TurnedLand$Shape", name := "leastCuts", desc := "(LTurnedLand$Ground;)I" } : Jvm.MethodName)) ∈ zAll := zAll_t3 67 rfl rfl
set_option maxRecDepth 20000 in
theorem zw_548 : (Jvm.Cond.selects "TurnedLand$Shape" ({ cls := "TurnedLand$Shape", name := "leastCuts", desc := "(LTurnedLand$Ground;)I" } : Jvm.MethodName) ({ cls := "TurnedLand$Shape", name := "leastCuts", desc := "(LTurnedLand$Ground;)I" } : Jvm.MethodName)) ∈ zAll := zAll_t3 68 rfl rfl
set_option maxRecDepth 20000 in
theorem zw_549 : (Jvm.Cond.code ({ cls := "TurnedLand$Shape", name := "leastCuts", desc := "(LTurnedLand$Ground;)I" } : Jvm.MethodName) prog_6_method_6_code (4 : Nat) (Option.some Jvm.ClassFile.FieldType.int)) ∈ zAll := zAll_t3 69 rfl rfl
set_option maxRecDepth 20000 in
theorem zw_550 : (Jvm.Cond.methodLink "TurnedLand$Shape" (67 : Nat) ({ cls := "TurnedLand$Shape", name := "turnsHome", desc := "(LTurnedLand$Ground;I)Z" } : Jvm.MethodName)) ∈ zAll := zAll_t3 70 rfl rfl
set_option maxRecDepth 20000 in
theorem zw_554 : (Jvm.Cond.code ({ cls := "TurnedLand", name := "feed", desc := "(JI)I" } : Jvm.MethodName) prog_1_method_11_code (5 : Nat) (Option.some Jvm.ClassFile.FieldType.int)) ∈ zAll := zAll_t3 74 rfl rfl
set_option maxRecDepth 20000 in
theorem zw_558 : (Jvm.Cond.code ({ cls := "TurnedLand", name := "text", desc := "(I)I" } : Jvm.MethodName) prog_1_method_12_code (3 : Nat) (Option.some Jvm.ClassFile.FieldType.int)) ∈ zAll := zAll_t3 78 rfl rfl
set_option maxRecDepth 20000 in
theorem zw_559 : (Jvm.Cond.methodLink "TurnedLand" (161 : Nat) ({ cls := "TurnedLand$Reader", name := "read", desc := "([III)Z" } : Jvm.MethodName)) ∈ zAll := zAll_t3 79 rfl rfl
set_option maxRecDepth 20000 in
theorem zw_560 : (Jvm.Cond.instanceMethod ({ cls := "TurnedLand$Reader", name := "read", desc := "([III)Z" } : Jvm.MethodName)) ∈ zAll := zAll_t3 80 rfl rfl
set_option maxRecDepth 20000 in
theorem zw_561 : (Jvm.Cond.selects "TurnedLand$Reader" ({ cls := "TurnedLand$Reader", name := "read", desc := "([III)Z" } : Jvm.MethodName) ({ cls := "TurnedLand$Reader", name := "read", desc := "([III)Z" } : Jvm.MethodName)) ∈ zAll := zAll_t3 81 rfl rfl
set_option maxRecDepth 20000 in
theorem zw_562 : (Jvm.Cond.code ({ cls := "TurnedLand$Reader", name := "read", desc := "([III)Z" } : Jvm.MethodName) prog_5_method_2_code (4 : Nat) (Option.some Jvm.ClassFile.FieldType.boolean)) ∈ zAll := zAll_t3 82 rfl rfl
set_option maxRecDepth 20000 in
theorem zw_563 : (Jvm.Cond.methodLink "TurnedLand$Reader" (34 : Nat) ({ cls := "java/lang/System", name := "arraycopy", desc := "(Ljava/lang/Object;ILjava/lang/Object;II)V" } : Jvm.MethodName)) ∈ zAll := zAll_t3 83 rfl rfl
set_option maxRecDepth 20000 in
theorem zw_564 : (Jvm.Cond.static ({ cls := "java/lang/System", name := "arraycopy", desc := "(Ljava/lang/Object;ILjava/lang/Object;II)V" } : Jvm.MethodName)) ∈ zAll := zAll_t3 84 rfl rfl
set_option maxRecDepth 20000 in
theorem zw_565 : (Jvm.Cond.native ({ cls := "java/lang/System", name := "arraycopy", desc := "(Ljava/lang/Object;ILjava/lang/Object;II)V" } : Jvm.MethodName)) ∈ zAll := zAll_t3 85 rfl rfl
set_option maxRecDepth 20000 in
theorem zw_566 : (Jvm.Cond.methodLink "TurnedLand$Reader" (40 : Nat) ({ cls := "TurnedLand$Reader", name := "readOr", desc := "(I)Z" } : Jvm.MethodName)) ∈ zAll := zAll_t3 86 rfl rfl
set_option maxRecDepth 20000 in
theorem zw_568 : (Jvm.Cond.instanceMethod ({ cls := "TurnedLand$Reader", name := "readOr", desc := "(I)Z" } : Jvm.MethodName)) ∈ zAll := zAll_t3 88 rfl rfl
set_option maxRecDepth 20000 in
theorem zw_569 : (Jvm.Cond.code ({ cls := "TurnedLand$Reader", name := "readOr", desc := "(I)Z" } : Jvm.MethodName) prog_5_method_5_code (3 : Nat) (Option.some Jvm.ClassFile.FieldType.boolean)) ∈ zAll := zAll_t3 89 rfl rfl
set_option maxRecDepth 20000 in
theorem zw_570 : (Jvm.Cond.methodLink "TurnedLand$Reader" (44 : Nat) ({ cls := "TurnedLand$Reader", name := "readAnd", desc := "(I)Z" } : Jvm.MethodName)) ∈ zAll := zAll_t3 90 rfl rfl
set_option maxRecDepth 20000 in
theorem zw_572 : (Jvm.Cond.instanceMethod ({ cls := "TurnedLand$Reader", name := "readAnd", desc := "(I)Z" } : Jvm.MethodName)) ∈ zAll := zAll_t3 92 rfl rfl
set_option maxRecDepth 20000 in
theorem zw_573 : (Jvm.Cond.code ({ cls := "TurnedLand$Reader", name := "readAnd", desc := "(I)Z" } : Jvm.MethodName) prog_5_method_6_code (3 : Nat) (Option.some Jvm.ClassFile.FieldType.boolean)) ∈ zAll := zAll_t3 93 rfl rfl
set_option maxRecDepth 20000 in
theorem zw_574 : (Jvm.Cond.methodLink "TurnedLand$Reader" (55 : Nat) ({ cls := "TurnedLand$Reader", name := "readCompared", desc := "(I)Z" } : Jvm.MethodName)) ∈ zAll := zAll_t3 94 rfl rfl
set_option maxRecDepth 20000 in
theorem zw_576 : (Jvm.Cond.instanceMethod ({ cls := "TurnedLand$Reader", name := "readCompared", desc := "(I)Z" } : Jvm.MethodName)) ∈ zAll := zAll_t3 96 rfl rfl
set_option maxRecDepth 20000 in
theorem zw_577 : (Jvm.Cond.code ({ cls := "TurnedLand$Reader", name := "readCompared", desc := "(I)Z" } : Jvm.MethodName) prog_5_method_7_code (3 : Nat) (Option.some Jvm.ClassFile.FieldType.boolean)) ∈ zAll := zAll_t3 97 rfl rfl
set_option maxRecDepth 20000 in
theorem zw_578 : (Jvm.Cond.methodLink "TurnedLand$Reader" (58 : Nat) ({ cls := "TurnedLand$Reader", name := "readSum", desc := "(I)Z" } : Jvm.MethodName)) ∈ zAll := zAll_t3 98 rfl rfl
set_option maxRecDepth 20000 in
theorem zw_580 : (Jvm.Cond.instanceMethod ({ cls := "TurnedLand$Reader", name := "readSum", desc := "(I)Z" } : Jvm.MethodName)) ∈ zAll := zAll_t3 100 rfl rfl
set_option maxRecDepth 20000 in
theorem zw_581 : (Jvm.Cond.code ({ cls := "TurnedLand$Reader", name := "readSum", desc := "(I)Z" } : Jvm.MethodName) prog_5_method_8_code (4 : Nat) (Option.some Jvm.ClassFile.FieldType.boolean)) ∈ zAll := zAll_t3 101 rfl rfl
set_option maxRecDepth 20000 in
theorem zw_582 : (Jvm.Cond.methodLink "TurnedLand$Reader" (61 : Nat) ({ cls := "TurnedLand$Reader", name := "readProduct", desc := "(I)Z" } : Jvm.MethodName)) ∈ zAll := zAll_t3 102 rfl rfl
set_option maxRecDepth 20000 in
theorem zw_584 : (Jvm.Cond.instanceMethod ({ cls := "TurnedLand$Reader", name := "readProduct", desc := "(I)Z" } : Jvm.MethodName)) ∈ zAll := zAll_t3 104 rfl rfl
set_option maxRecDepth 20000 in
theorem zw_585 : (Jvm.Cond.code ({ cls := "TurnedLand$Reader", name := "readProduct", desc := "(I)Z" } : Jvm.MethodName) prog_5_method_9_code (4 : Nat) (Option.some Jvm.ClassFile.FieldType.boolean)) ∈ zAll := zAll_t3 105 rfl rfl
set_option maxRecDepth 20000 in
theorem zw_586 : (Jvm.Cond.methodLink "TurnedLand$Reader" (64 : Nat) ({ cls := "TurnedLand$Reader", name := "readSingle", desc := "(I)Z" } : Jvm.MethodName)) ∈ zAll := zAll_t3 106 rfl rfl
set_option maxRecDepth 20000 in
theorem zw_588 : (Jvm.Cond.instanceMethod ({ cls := "TurnedLand$Reader", name := "readSingle", desc := "(I)Z" } : Jvm.MethodName)) ∈ zAll := zAll_t3 108 rfl rfl
set_option maxRecDepth 20000 in
theorem zw_589 : (Jvm.Cond.code ({ cls := "TurnedLand$Reader", name := "readSingle", desc := "(I)Z" } : Jvm.MethodName) prog_5_method_10_code (3 : Nat) (Option.some Jvm.ClassFile.FieldType.boolean)) ∈ zAll := zAll_t3 109 rfl rfl
set_option maxRecDepth 20000 in
theorem zw_590 : (Jvm.Cond.methodLink "TurnedLand$Reader" (47 : Nat) ({ cls := "TurnedLand$Reader", name := "next", desc := "()I" } : Jvm.MethodName)) ∈ zAll := zAll_t3 110 rfl rfl
set_option maxRecDepth 20000 in
theorem zw_592 : (Jvm.Cond.instanceMethod ({ cls := "TurnedLand$Reader", name := "next", desc := "()I" } : Jvm.MethodName)) ∈ zAll := zAll_t3 112 rfl rfl
set_option maxRecDepth 20000 in
theorem zw_593 : (Jvm.Cond.code ({ cls := "TurnedLand$Reader", name := "next", desc := "()I" } : Jvm.MethodName) prog_5_method_3_code (1 : Nat) (Option.some Jvm.ClassFile.FieldType.int)) ∈ zAll := zAll_t3 113 rfl rfl
set_option maxRecDepth 20000 in
theorem zw_594 : (Jvm.Cond.methodLink "TurnedLand$Reader" (67 : Nat) ({ cls := "TurnedLand$Reader", name := "isDigit", desc := "(I)Z" } : Jvm.MethodName)) ∈ zAll := zAll_t3 114 rfl rfl
set_option maxRecDepth 20000 in
theorem zw_595 : (Jvm.Cond.static ({ cls := "TurnedLand$Reader", name := "isDigit", desc := "(I)Z" } : Jvm.MethodName)) ∈ zAll := zAll_t3 115 rfl rfl
set_option maxRecDepth 20000 in
theorem zw_596 : (Jvm.Cond.code ({ cls := "TurnedLand$Reader", name := "isDigit", desc := "(I)Z" } : Jvm.MethodName) prog_5_method_13_code (1 : Nat) (Option.some Jvm.ClassFile.FieldType.boolean)) ∈ zAll := zAll_t3 116 rfl rfl
set_option maxRecDepth 20000 in
theorem zw_598 : (Jvm.Cond.methodLink "TurnedLand$Reader" (70 : Nat) ({ cls := "TurnedLand$Reader", name := "readNumber", desc := "()Z" } : Jvm.MethodName)) ∈ zAll := zAll_t3 118 rfl rfl
set_option maxRecDepth 20000 in
theorem zw_600 : (Jvm.Cond.instanceMethod ({ cls := "TurnedLand$Reader", name := "readNumber", desc := "()Z" } : Jvm.MethodName)) ∈ zAll := zAll_t3 120 rfl rfl
set_option maxRecDepth 20000 in
theorem zw_601 : (Jvm.Cond.code ({ cls := "TurnedLand$Reader", name := "readNumber", desc := "()Z" } : Jvm.MethodName) prog_5_method_11_code (3 : Nat) (Option.some Jvm.ClassFile.FieldType.boolean)) ∈ zAll := zAll_t3 121 rfl rfl
set_option maxRecDepth 20000 in
theorem zw_602 : (Jvm.Cond.methodLink "TurnedLand$Reader" (51 : Nat) ({ cls := "TurnedLand$Reader", name := "write", desc := "(II)V" } : Jvm.MethodName)) ∈ zAll := zAll_t3 122 rfl rfl
set_option maxRecDepth 20000 in
theorem zw_604 : (Jvm.Cond.instanceMethod ({ cls := "TurnedLand$Reader", name := "write", desc := "(II)V" } : Jvm.MethodName)) ∈ zAll := zAll_t3 124 rfl rfl
set_option maxRecDepth 20000 in
theorem zw_605 : (Jvm.Cond.code ({ cls := "TurnedLand$Reader", name := "write", desc := "(II)V" } : Jvm.MethodName) prog_5_method_4_code (3 : Nat) (Option.none : Option Jvm.ClassFile.FieldType)) ∈ zAll := zAll_t3 125 rfl rfl
set_option maxRecDepth 20000 in
theorem zw_606 : (Jvm.Cond.methodLink "TurnedLand$Reader" (74 : Nat) ({ cls := "TurnedLand$Reader", name := "readName", desc := "(I)Z" } : Jvm.MethodName)) ∈ zAll := zAll_t3 126 rfl rfl
set_option maxRecDepth 20000 in
theorem zw_608 : (Jvm.Cond.instanceMethod ({ cls := "TurnedLand$Reader", name := "readName", desc := "(I)Z" } : Jvm.MethodName)) ∈ zAll := zAll_t3 128 rfl rfl
set_option maxRecDepth 20000 in
theorem zw_609 : (Jvm.Cond.code ({ cls := "TurnedLand$Reader", name := "readName", desc := "(I)Z" } : Jvm.MethodName) prog_5_method_12_code (4 : Nat) (Option.some Jvm.ClassFile.FieldType.boolean)) ∈ zAll := zAll_t3 129 rfl rfl
set_option maxRecDepth 20000 in
theorem zw_610 : (Jvm.Cond.fieldLink "TurnedLand$Reader" (79 : Nat) "TurnedLand$Reader" "HOURS_NAMES" "[C") ∈ zAll := zAll_t3 130 rfl rfl
set_option maxRecDepth 20000 in
theorem zw_612 : (Jvm.Cond.fieldLink "TurnedLand$Reader" (83 : Nat) "TurnedLand$Reader" "PRICE_NAMES" "[C") ∈ zAll := zAll_t3 132 rfl rfl
set_option maxRecDepth 20000 in
theorem zw_614 : (Jvm.Cond.methodLink "TurnedLand" (168 : Nat) ({ cls := "TurnedLand", name := "textOf", desc := "(I)LTurnedLand$Text;" } : Jvm.MethodName)) ∈ zAll := zAll_t3 134 rfl rfl
set_option maxRecDepth 20000 in
theorem zw_616 : (Jvm.Cond.instanceMethod ({ cls := "TurnedLand", name := "textOf", desc := "(I)LTurnedLand$Text;" } : Jvm.MethodName)) ∈ zAll := zAll_t3 136 rfl rfl
set_option maxRecDepth 20000 in
theorem zw_617 : (Jvm.Cond.code ({ cls := "TurnedLand", name := "textOf", desc := "(I)LTurnedLand$Text;" } : Jvm.MethodName) prog_1_method_54_code (2 : Nat) (Option.some (Jvm.ClassFile.FieldType.object "TurnedLand$Text"))) ∈ zAll := zAll_t3 137 rfl rfl
set_option maxRecDepth 20000 in
theorem zw_618 : (Jvm.Cond.methodLink "TurnedLand" (172 : Nat) ({ cls := "TurnedLand$Text", name := "takeFrom", desc := "(LTurnedLand$Reader;)V" } : Jvm.MethodName)) ∈ zAll := zAll_t3 138 rfl rfl
set_option maxRecDepth 20000 in
theorem zw_619 : (Jvm.Cond.instanceMethod ({ cls := "TurnedLand$Text", name := "takeFrom", desc := "(LTurnedLand$Reader;)V" } : Jvm.MethodName)) ∈ zAll := zAll_t3 139 rfl rfl
set_option maxRecDepth 20000 in
theorem zw_620 : (Jvm.Cond.selects "TurnedLand$Text" ({ cls := "TurnedLand$Text", name := "takeFrom", desc := "(LTurnedLand$Reader;)V" } : Jvm.MethodName) ({ cls := "TurnedLand$Text", name := "takeFrom", desc := "(LTurnedLand$Reader;)V" } : Jvm.MethodName)) ∈ zAll := zAll_t3 140 rfl rfl
set_option maxRecDepth 20000 in
theorem zw_621 : (Jvm.Cond.code ({ cls := "TurnedLand$Text", name := "takeFrom", desc := "(LTurnedLand$Reader;)V" } : Jvm.MethodName) prog_7_method_3_code (2 : Nat) (Option.none : Option Jvm.ClassFile.FieldType)) ∈ zAll := zAll_t3 141 rfl rfl
set_option maxRecDepth 20000 in
theorem zw_622 : (Jvm.Cond.methodLink "TurnedLand$Text" (32 : Nat) ({ cls := "java/lang/System", name := "arraycopy", desc := "(Ljava/lang/Object;ILjava/lang/Object;II)V" } : Jvm.MethodName)) ∈ zAll := zAll_t3 142 rfl rfl
set_option maxRecDepth 20000 in
theorem zw_626 : (Jvm.Cond.code ({ cls := "TurnedLand", name := "untell", desc := "(I)I" } : Jvm.MethodName) prog_1_method_13_code (4 : Nat) (Option.some Jvm.ClassFile.FieldType.int)) ∈ zAll := zAll_t3 146 rfl rfl
set_option maxRecDepth 20000 in
theorem zw_630 : (Jvm.Cond.code ({ cls := "TurnedLand", name := "soonest", desc := "(II)I" } : Jvm.MethodName) prog_1_method_14_code (3 : Nat) (Option.some Jvm.ClassFile.FieldType.int)) ∈ zAll := zAll_t3 150 rfl rfl
set_option maxRecDepth 20000 in
theorem zw_631 : (Jvm.Cond.methodLink "TurnedLand" (182 : Nat) ({ cls := "TurnedLand$Ground", name := "hasPlace", desc := "(I)Z" } : Jvm.MethodName)) ∈ zAll := zAll_t3 151 rfl rfl
set_option maxRecDepth 20000 in
theorem zw_632 : (Jvm.Cond.instanceMethod ({ cls := "TurnedLand$Ground", name := "hasPlace", desc := "(I)Z" } : Jvm.MethodName)) ∈ zAll := zAll_t3 152 rfl rfl
set_option maxRecDepth 20000 in
theorem zw_633 : (Jvm.Cond.selects "TurnedLand$Ground" ({ cls := "TurnedLand$Ground", name := "hasPlace", desc := "(I)Z" } : Jvm.MethodName) ({ cls := "TurnedLand$Ground", name := "hasPlace", desc := "(I)Z" } : Jvm.MethodName)) ∈ zAll := zAll_t3 153 rfl rfl
set_option maxRecDepth 20000 in
theorem zw_634 : (Jvm.Cond.code ({ cls := "TurnedLand$Ground", name := "hasPlace", desc := "(I)Z" } : Jvm.MethodName) prog_4_method_4_code (2 : Nat) (Option.some Jvm.ClassFile.FieldType.boolean)) ∈ zAll := zAll_t3 154 rfl rfl
set_option maxRecDepth 20000 in
theorem zw_635 : (Jvm.Cond.methodLink "TurnedLand" (185 : Nat) ({ cls := "TurnedLand$Ways", name := "survey", desc := "(LTurnedLand$World;)V" } : Jvm.MethodName)) ∈ zAll := zAll_t3 155 rfl rfl
set_option maxRecDepth 20000 in
theorem zw_636 : (Jvm.Cond.instanceMethod ({ cls := "TurnedLand$Ways", name := "survey", desc := "(LTurnedLand$World;)V" } : Jvm.MethodName)) ∈ zAll := zAll_t3 156 rfl rfl
set_option maxRecDepth 20000 in
theorem zw_637 : (Jvm.Cond.selects "TurnedLand$Ways" ({ cls := "TurnedLand$Ways", name := "survey", desc := "(LTurnedLand$World;)V" } : Jvm.MethodName) ({ cls := "TurnedLand$Ways", name := "survey", desc := "(LTurnedLand$World;)V" } : Jvm.MethodName)) ∈ zAll := zAll_t3 157 rfl rfl
set_option maxRecDepth 20000 in
theorem zw_638 : (Jvm.Cond.code ({ cls := "TurnedLand$Ways", name := "survey", desc := "(LTurnedLand$World;)V" } : Jvm.MethodName) prog_11_method_2_code (4 : Nat) (Option.none : Option Jvm.ClassFile.FieldType)) ∈ zAll := zAll_t3 158 rfl rfl
set_option maxRecDepth 20000 in
theorem zw_639 : (Jvm.Cond.methodLink "TurnedLand$Ways" (41 : Nat) ({ cls := "TurnedLand$Ground", name := "comesTo", desc := "(II)I" } : Jvm.MethodName)) ∈ zAll := zAll_t3 159 rfl rfl
set_option maxRecDepth 20000 in
theorem zw_640 : (Jvm.Cond.instanceMethod ({ cls := "TurnedLand$Ground", name := "comesTo", desc := "(II)I" } : Jvm.MethodName)) ∈ zAll := zAll_t3 160 rfl rfl
set_option maxRecDepth 20000 in
theorem zw_641 : (Jvm.Cond.selects "TurnedLand$Ground" ({ cls := "TurnedLand$Ground", name := "comesTo", desc := "(II)I" } : Jvm.MethodName) ({ cls := "TurnedLand$Ground", name := "comesTo", desc := "(II)I" } : Jvm.MethodName)) ∈ zAll := zAll_t3 161 rfl rfl
set_option maxRecDepth 20000 in
theorem zw_642 : (Jvm.Cond.code ({ cls := "TurnedLand$Ground", name := "comesTo", desc := "(II)I" } : Jvm.MethodName) prog_4_method_11_code (5 : Nat) (Option.some Jvm.ClassFile.FieldType.int)) ∈ zAll := zAll_t3 162 rfl rfl
set_option maxRecDepth 20000 in
theorem zw_643 : (Jvm.Cond.methodLink "TurnedLand$Ground" (51 : Nat) ({ cls := "TurnedLand$Ground", name := "otherEdge", desc := "(I)I" } : Jvm.MethodName)) ∈ zAll := zAll_t3 163 rfl rfl
set_option maxRecDepth 20000 in
theorem zw_644 : (Jvm.Cond.methodLink "TurnedLand$Ways" (45 : Nat) ({ cls := "TurnedLand$World", name := "hours", desc := "(II)I" } : Jvm.MethodName)) ∈ zAll := zAll_t3 164 rfl rfl
set_option maxRecDepth 20000 in
theorem zw_645 : (Jvm.Cond.instanceMethod ({ cls := "TurnedLand$World", name := "hours", desc := "(II)I" } : Jvm.MethodName)) ∈ zAll := zAll_t3 165 rfl rfl
set_option maxRecDepth 20000 in
theorem zw_646 : (Jvm.Cond.selects "TurnedLand$World" ({ cls := "TurnedLand$World", name := "hours", desc := "(II)I" } : Jvm.MethodName) ({ cls := "TurnedLand$World", name := "hours", desc := "(II)I" } : Jvm.MethodName)) ∈ zAll := zAll_t3 166 rfl rfl
set_option maxRecDepth 20000 in
theorem zw_647 : (Jvm.Cond.code ({ cls := "TurnedLand$World", name := "hours", desc := "(II)I" } : Jvm.MethodName) prog_12_method_4_code (7 : Nat) (Option.some Jvm.ClassFile.FieldType.int)) ∈ zAll := zAll_t3 167 rfl rfl
set_option maxRecDepth 20000 in
theorem zw_648 : (Jvm.Cond.methodLink "TurnedLand$World" (89 : Nat) ({ cls := "TurnedLand$Ground", name := "comesTo", desc := "(II)I" } : Jvm.MethodName)) ∈ zAll := zAll_t3 168 rfl rfl
set_option maxRecDepth 20000 in
theorem zw_649 : (Jvm.Cond.methodLink "TurnedLand$World" (100 : Nat) ({ cls := "TurnedLand$Text", name := "workOut", desc := "(IIII)I" } : Jvm.MethodName)) ∈ zAll := zAll_t3 169 rfl rfl
set_option maxRecDepth 20000 in
theorem zw_650 : (Jvm.Cond.instanceMethod ({ cls := "TurnedLand$Text", name := "workOut", desc := "(IIII)I" } : Jvm.MethodName)) ∈ zAll := zAll_t3 170 rfl rfl
set_option maxRecDepth 20000 in
theorem zw_651 : (Jvm.Cond.selects "TurnedLand$Text" ({ cls := "TurnedLand$Text", name := "workOut", desc := "(IIII)I" } : Jvm.MethodName) ({ cls := "TurnedLand$Text", name := "workOut", desc := "(IIII)I" } : Jvm.MethodName)) ∈ zAll := zAll_t3 171 rfl rfl
set_option maxRecDepth 20000 in
theorem zw_652 : (Jvm.Cond.code ({ cls := "TurnedLand$Text", name := "workOut", desc := "(IIII)I" } : Jvm.MethodName) prog_7_method_4_code (8 : Nat) (Option.some Jvm.ClassFile.FieldType.int)) ∈ zAll := zAll_t3 172 rfl rfl
set_option maxRecDepth 20000 in
theorem zw_653 : (Jvm.Cond.methodLink "TurnedLand$Text" (43 : Nat) ({ cls := "TurnedLand$Text", name := "valueAt", desc := "(I)I" } : Jvm.MethodName)) ∈ zAll := zAll_t3 173 rfl rfl
set_option maxRecDepth 20000 in
theorem zw_655 : (Jvm.Cond.instanceMethod ({ cls := "TurnedLand$Text", name := "valueAt", desc := "(I)I" } : Jvm.MethodName)) ∈ zAll := zAll_t3 175 rfl rfl
set_option maxRecDepth 20000 in
theorem zw_656 : (Jvm.Cond.code ({ cls := "TurnedLand$Text", name := "valueAt", desc := "(I)I" } : Jvm.MethodName) prog_7_method_5_code (3 : Nat) (Option.some Jvm.ClassFile.FieldType.int)) ∈ zAll := zAll_t3 176 rfl rfl
set_option maxRecDepth 20000 in
theorem zw_658 : (Jvm.Cond.methodLink "TurnedLand$Text" (47 : Nat) ({ cls := "TurnedLand$Text", name := "bit", desc := "(Z)I" } : Jvm.MethodName)) ∈ zAll := zAll_t3 178 rfl rfl
set_option maxRecDepth 20000 in
theorem zw_659 : (Jvm.Cond.static ({ cls := "TurnedLand$Text", name := "bit", desc := "(Z)I" } : Jvm.MethodName)) ∈ zAll := zAll_t3 179 rfl rfl
set_option maxRecDepth 20000 in
theorem zw_660 : (Jvm.Cond.code ({ cls := "TurnedLand$Text", name := "bit", desc := "(Z)I" } : Jvm.MethodName) prog_7_method_7_code (1 : Nat) (Option.some Jvm.ClassFile.FieldType.int)) ∈ zAll := zAll_t3 180 rfl rfl
set_option maxRecDepth 20000 in
theorem zw_661 : (Jvm.Cond.methodLink "TurnedLand$Text" (51 : Nat) ({ cls := "TurnedLand$Text", name := "combine", desc := "(III)I" } : Jvm.MethodName)) ∈ zAll := zAll_t3 181 rfl rfl
set_option maxRecDepth 20000 in
theorem zw_662 : (Jvm.Cond.static ({ cls := "TurnedLand$Text", name := "combine", desc := "(III)I" } : Jvm.MethodName)) ∈ zAll := zAll_t3 182 rfl rfl
set_option maxRecDepth 20000 in
theorem zw_663 : (Jvm.Cond.code ({ cls := "TurnedLand$Text", name := "combine", desc := "(III)I" } : Jvm.MethodName) prog_7_method_6_code (3 : Nat) (Option.some Jvm.ClassFile.FieldType.int)) ∈ zAll := zAll_t3 183 rfl rfl
set_option maxRecDepth 20000 in
theorem zw_665 : (Jvm.Cond.static ({ cls := "TurnedLand", name := "held", desc := "(III)I" } : Jvm.MethodName)) ∈ zAll := zAll_t3 185 rfl rfl
set_option maxRecDepth 20000 in
theorem zw_666 : (Jvm.Cond.code ({ cls := "TurnedLand", name := "held", desc := "(III)I" } : Jvm.MethodName) prog_1_method_52_code (3 : Nat) (Option.some Jvm.ClassFile.FieldType.int)) ∈ zAll := zAll_t3 186 rfl rfl
set_option maxRecDepth 20000 in
theorem zw_667 : (Jvm.Cond.methodLink "TurnedLand" (382 : Nat) ({ cls := "java/lang/Math", name := "min", desc := "(II)I" } : Jvm.MethodName)) ∈ zAll := zAll_t3 187 rfl rfl
set_option maxRecDepth 20000 in
theorem zw_668 : (Jvm.Cond.static ({ cls := "java/lang/Math", name := "min", desc := "(II)I" } : Jvm.MethodName)) ∈ zAll := zAll_t3 188 rfl rfl
set_option maxRecDepth 20000 in
theorem zw_669 : (Jvm.Cond.code ({ cls := "java/lang/Math", name := "min", desc := "(II)I" } : Jvm.MethodName) prog_16_method_69_code (2 : Nat) (Option.some Jvm.ClassFile.FieldType.int)) ∈ zAll := zAll_t3 189 rfl rfl
set_option maxRecDepth 20000 in
theorem zw_670 : (Jvm.Cond.methodLink "TurnedLand" (387 : Nat) ({ cls := "java/lang/Math", name := "max", desc := "(II)I" } : Jvm.MethodName)) ∈ zAll := zAll_t3 190 rfl rfl
set_option maxRecDepth 20000 in
theorem zw_671 : (Jvm.Cond.static ({ cls := "java/lang/Math", name := "max", desc := "(II)I" } : Jvm.MethodName)) ∈ zAll := zAll_t3 191 rfl rfl
set_option maxRecDepth 20000 in
theorem zw_672 : (Jvm.Cond.code ({ cls := "java/lang/Math", name := "max", desc := "(II)I" } : Jvm.MethodName) prog_16_method_65_code (2 : Nat) (Option.some Jvm.ClassFile.FieldType.int)) ∈ zAll := zAll_t3 192 rfl rfl
set_option maxRecDepth 20000 in
theorem zw_673 : (Jvm.Cond.methodLink "TurnedLand" (189 : Nat) ({ cls := "TurnedLand$Ways", name := "spread", desc := "(I)V" } : Jvm.MethodName)) ∈ zAll := zAll_t3 193 rfl rfl
set_option maxRecDepth 20000 in
theorem zw_674 : (Jvm.Cond.instanceMethod ({ cls := "TurnedLand$Ways", name := "spread", desc := "(I)V" } : Jvm.MethodName)) ∈ zAll := zAll_t3 194 rfl rfl
set_option maxRecDepth 20000 in
theorem zw_675 : (Jvm.Cond.selects "TurnedLand$Ways" ({ cls := "TurnedLand$Ways", name := "spread", desc := "(I)V" } : Jvm.MethodName) ({ cls := "TurnedLand$Ways", name := "spread", desc := "(I)V" } : Jvm.MethodName)) ∈ zAll := zAll_t3 195 rfl rfl
set_option maxRecDepth 20000 in
theorem zw_676 : (Jvm.Cond.code ({ cls := "TurnedLand$Ways", name := "spread", desc := "(I)V" } : Jvm.MethodName) prog_11_method_3_code (7 : Nat) (Option.none : Option Jvm.ClassFile.FieldType)) ∈ zAll := zAll_t3 196 rfl rfl
set_option maxRecDepth 20000 in
theorem zw_677 : (Jvm.Cond.methodLink "TurnedLand$Ways" (47 : Nat) ({ cls := "java/util/Arrays", name := "fill", desc := "([II)V" } : Jvm.MethodName)) ∈ zAll := zAll_t3 197 rfl rfl
set_option maxRecDepth 20000 in
theorem zw_678 : (Jvm.Cond.methodLink "TurnedLand$Ways" (53 : Nat) ({ cls := "TurnedLand$Ways", name := "nearest", desc := "(I)I" } : Jvm.MethodName)) ∈ zAll := zAll_t3 198 rfl rfl
set_option maxRecDepth 20000 in
theorem zw_680 : (Jvm.Cond.instanceMethod ({ cls := "TurnedLand$Ways", name := "nearest", desc := "(I)I" } : Jvm.MethodName)) ∈ zAll := zAll_t3 200 rfl rfl
set_option maxRecDepth 20000 in
theorem zw_681 : (Jvm.Cond.code ({ cls := "TurnedLand$Ways", name := "nearest", desc := "(I)I" } : Jvm.MethodName) prog_11_method_5_code (5 : Nat) (Option.some Jvm.ClassFile.FieldType.int)) ∈ zAll := zAll_t3 201 rfl rfl
set_option maxRecDepth 20000 in
theorem zw_682 : (Jvm.Cond.methodLink "TurnedLand$Ways" (57 : Nat) ({ cls := "TurnedLand$Ways", name := "comeTo", desc := "(III)V" } : Jvm.MethodName)) ∈ zAll := zAll_t3 202 rfl rfl
set_option maxRecDepth 20000 in
theorem zw_684 : (Jvm.Cond.instanceMethod ({ cls := "TurnedLand$Ways", name := "comeTo", desc := "(III)V" } : Jvm.MethodName)) ∈ zAll := zAll_t3 204 rfl rfl
set_option maxRecDepth 20000 in
theorem zw_685 : (Jvm.Cond.code ({ cls := "TurnedLand$Ways", name := "comeTo", desc := "(III)V" } : Jvm.MethodName) prog_11_method_6_code (4 : Nat) (Option.none : Option Jvm.ClassFile.FieldType)) ∈ zAll := zAll_t3 205 rfl rfl
set_option maxRecDepth 20000 in
theorem zw_689 : (Jvm.Cond.code ({ cls := "TurnedLand", name := "reached", desc := "(I)I" } : Jvm.MethodName) prog_1_method_15_code (4 : Nat) (Option.some Jvm.ClassFile.FieldType.int)) ∈ zAll := zAll_t3 209 rfl rfl
set_option maxRecDepth 20000 in
theorem zw_693 : (Jvm.Cond.code ({ cls := "TurnedLand", name := "first", desc := "(II)I" } : Jvm.MethodName) prog_1_method_16_code (4 : Nat) (Option.some Jvm.ClassFile.FieldType.int)) ∈ zAll := zAll_t3 213 rfl rfl
set_option maxRecDepth 20000 in
theorem zw_697 : (Jvm.Cond.code ({ cls := "TurnedLand", name := "walk", desc := "(III)I" } : Jvm.MethodName) prog_1_method_17_code (6 : Nat) (Option.some Jvm.ClassFile.FieldType.int)) ∈ zAll := zAll_t3 217 rfl rfl
set_option maxRecDepth 20000 in
theorem zw_698 : (Jvm.Cond.methodLink "TurnedLand" (203 : Nat) ({ cls := "TurnedLand$Walks", name := "stepsOf", desc := "(I)I" } : Jvm.MethodName)) ∈ zAll := zAll_t3 218 rfl rfl
set_option maxRecDepth 20000 in
theorem zw_699 : (Jvm.Cond.static ({ cls := "TurnedLand$Walks", name := "stepsOf", desc := "(I)I" } : Jvm.MethodName)) ∈ zAll := zAll_t3 219 rfl rfl
set_option maxRecDepth 20000 in
theorem zw_700 : (Jvm.Cond.code ({ cls := "TurnedLand$Walks", name := "stepsOf", desc := "(I)I" } : Jvm.MethodName) prog_10_method_4_code (4 : Nat) (Option.some Jvm.ClassFile.FieldType.int)) ∈ zAll := zAll_t3 220 rfl rfl
set_option maxRecDepth 20000 in
theorem zw_702 : (Jvm.Cond.methodLink "TurnedLand" (211 : Nat) ({ cls := "TurnedLand$Walks", name := "add", desc := "(III)I" } : Jvm.MethodName)) ∈ zAll := zAll_t3 222 rfl rfl
set_option maxRecDepth 20000 in
theorem zw_703 : (Jvm.Cond.instanceMethod ({ cls := "TurnedLand$Walks", name := "add", desc := "(III)I" } : Jvm.MethodName)) ∈ zAll := zAll_t3 223 rfl rfl
set_option maxRecDepth 20000 in
theorem zw_704 : (Jvm.Cond.selects "TurnedLand$Walks" ({ cls := "TurnedLand$Walks", name := "add", desc := "(III)I" } : Jvm.MethodName) ({ cls := "TurnedLand$Walks", name := "add", desc := "(III)I" } : Jvm.MethodName)) ∈ zAll := zAll_t3 224 rfl rfl
set_option maxRecDepth 20000 in
theorem zw_705 : (Jvm.Cond.code ({ cls := "TurnedLand$Walks", name := "add", desc := "(III)I" } : Jvm.MethodName) prog_10_method_5_code (6 : Nat) (Option.some Jvm.ClassFile.FieldType.int)) ∈ zAll := zAll_t3 225 rfl rfl
set_option maxRecDepth 20000 in
theorem zw_706 : (Jvm.Cond.methodLink "TurnedLand$Walks" (43 : Nat) ({ cls := "TurnedLand$Walks", name := "stepsOf", desc := "(I)I" } : Jvm.MethodName)) ∈ zAll := zAll_t3 226 rfl rfl
set_option maxRecDepth 20000 in
theorem zw_710 : (Jvm.Cond.code ({ cls := "TurnedLand", name := "walkIs", desc := "(II)I" } : Jvm.MethodName) prog_1_method_18_code (4 : Nat) (Option.some Jvm.ClassFile.FieldType.int)) ∈ zAll := zAll_t3 230 rfl rfl
set_option maxRecDepth 20000 in
theorem zw_711 : (Jvm.Cond.methodLink "TurnedLand" (214 : Nat) ({ cls := "TurnedLand$Walks", name := "has", desc := "(I)Z" } : Jvm.MethodName)) ∈ zAll := zAll_t3 231 rfl rfl
set_option maxRecDepth 20000 in
theorem zw_712 : (Jvm.Cond.instanceMethod ({ cls := "TurnedLand$Walks", name := "has", desc := "(I)Z" } : Jvm.MethodName)) ∈ zAll := zAll_t3 232 rfl rfl
set_option maxRecDepth 20000 in
theorem zw_713 : (Jvm.Cond.selects "TurnedLand$Walks" ({ cls := "TurnedLand$Walks", name := "has", desc := "(I)Z" } : Jvm.MethodName) ({ cls := "TurnedLand$Walks", name := "has", desc := "(I)Z" } : Jvm.MethodName)) ∈ zAll := zAll_t3 233 rfl rfl
set_option maxRecDepth 20000 in
theorem zw_714 : (Jvm.Cond.code ({ cls := "TurnedLand$Walks", name := "has", desc := "(I)Z" } : Jvm.MethodName) prog_10_method_3_code (2 : Nat) (Option.some Jvm.ClassFile.FieldType.boolean)) ∈ zAll := zAll_t3 234 rfl rfl
set_option maxRecDepth 20000 in
theorem zw_715 : (Jvm.Cond.methodLink "TurnedLand" (229 : Nat) ({ cls := "TurnedLand$Walker", name := "isSo", desc := "(LTurnedLand$World;I)Z" } : Jvm.MethodName)) ∈ zAll := zAll_t3 235 rfl rfl
set_option maxRecDepth 20000 in
theorem zw_716 : (Jvm.Cond.instanceMethod ({ cls := "TurnedLand$Walker", name := "isSo", desc := "(LTurnedLand$World;I)Z" } : Jvm.MethodName)) ∈ zAll := zAll_t3 236 rfl rfl
set_option maxRecDepth 20000 in
theorem zw_717 : (Jvm.Cond.selects "TurnedLand$Walker" ({ cls := "TurnedLand$Walker", name := "isSo", desc := "(LTurnedLand$World;I)Z" } : Jvm.MethodName) ({ cls := "TurnedLand$Walker", name := "isSo", desc := "(LTurnedLand$World;I)Z" } : Jvm.MethodName)) ∈ zAll := zAll_t3 237 rfl rfl
set_option maxRecDepth 20000 in
theorem zw_718 : (Jvm.Cond.code ({ cls := "TurnedLand$Walker", name := "isSo", desc := "(LTurnedLand$World;I)Z" } : Jvm.MethodName) prog_9_method_8_code (6 : Nat) (Option.some Jvm.ClassFile.FieldType.boolean)) ∈ zAll := zAll_t3 238 rfl rfl
set_option maxRecDepth 20000 in
theorem zw_719 : (Jvm.Cond.methodLink "TurnedLand$Walker" (57 : Nat) ({ cls := "TurnedLand$Walker", name := "goes", desc := "(LTurnedLand$World;II)Z" } : Jvm.MethodName)) ∈ zAll := zAll_t3 239 rfl rfl
set_option maxRecDepth 20000 in
theorem zw_720 : (Jvm.Cond.instanceMethod ({ cls := "TurnedLand$Walker", name := "goes", desc := "(LTurnedLand$World;II)Z" } : Jvm.MethodName)) ∈ zAll := zAll_t4 0 rfl rfl
set_option maxRecDepth 20000 in
theorem zw_721 : (Jvm.Cond.selects "TurnedLand$Walker" ({ cls := "TurnedLand$Walker", name := "goes", desc := "(LTurnedLand$World;II)Z" } : Jvm.MethodName) ({ cls := "TurnedLand$Walker", name := "goes", desc := "(LTurnedLand$World;II)Z" } : Jvm.MethodName)) ∈ zAll := zAll_t4 1 rfl rfl
set_option maxRecDepth 20000 in
theorem zw_722 : (Jvm.Cond.code ({ cls := "TurnedLand$Walker", name := "goes", desc := "(LTurnedLand$World;II)Z" } : Jvm.MethodName) prog_9_method_2_code (7 : Nat) (Option.some Jvm.ClassFile.FieldType.boolean)) ∈ zAll := zAll_t4 2 rfl rfl
set_option maxRecDepth 20000 in
theorem zw_723 : (Jvm.Cond.methodLink "TurnedLand$Walker" (25 : Nat) ({ cls := "TurnedLand$Walks", name := "has", desc := "(I)Z" } : Jvm.MethodName)) ∈ zAll := zAll_t4 3 rfl rfl
set_option maxRecDepth 20000 in
theorem zw_724 : (Jvm.Cond.methodLink "TurnedLand$Walker" (45 : Nat) ({ cls := "TurnedLand$Ground", name := "comesTo", desc := "(II)I" } : Jvm.MethodName)) ∈ zAll := zAll_t4 4 rfl rfl
set_option maxRecDepth 20000 in
theorem zw_725 : (Jvm.Cond.methodLink "TurnedLand$Walker" (61 : Nat) ({ cls := "TurnedLand$Walker", name := "end", desc := "()I" } : Jvm.MethodName)) ∈ zAll := zAll_t4 5 rfl rfl
set_option maxRecDepth 20000 in
theorem zw_726 : (Jvm.Cond.instanceMethod ({ cls := "TurnedLand$Walker", name := "end", desc := "()I" } : Jvm.MethodName)) ∈ zAll := zAll_t4 6 rfl rfl
set_option maxRecDepth 20000 in
theorem zw_727 : (Jvm.Cond.selects "TurnedLand$Walker" ({ cls := "TurnedLand$Walker", name := "end", desc := "()I" } : Jvm.MethodName) ({ cls := "TurnedLand$Walker", name := "end", desc := "()I" } : Jvm.MethodName)) ∈ zAll := zAll_t4 7 rfl rfl
set_option maxRecDepth 20000 in
theorem zw_728 : (Jvm.Cond.code ({ cls := "TurnedLand$Walker", name := "end", desc := "()I" } : Jvm.MethodName) prog_9_method_3_code (1 : Nat) (Option.some Jvm.ClassFile.FieldType.int)) ∈ zAll := zAll_t4 8 rfl rfl
set_option maxRecDepth 20000 in
theorem zw_729 : (Jvm.Cond.methodLink "TurnedLand$Walker" (71 : Nat) ({ cls := "TurnedLand$Walker", name := "hours", desc := "(LTurnedLand$World;I)I" } : Jvm.MethodName)) ∈ zAll := zAll_t4 9 rfl rfl
set_option maxRecDepth 20000 in
theorem zw_730 : (Jvm.Cond.instanceMethod ({ cls := "TurnedLand$Walker", name := "hours", desc := "(LTurnedLand$World;I)I" } : Jvm.MethodName)) ∈ zAll := zAll_t4 10 rfl rfl
set_option maxRecDepth 20000 in
theorem zw_731 : (Jvm.Cond.selects "TurnedLand$Walker" ({ cls := "TurnedLand$Walker", name := "hours", desc := "(LTurnedLand$World;I)I" } : Jvm.MethodName) ({ cls := "TurnedLand$Walker", name := "hours", desc := "(LTurnedLand$World;I)I" } : Jvm.MethodName)) ∈ zAll := zAll_t4 11 rfl rfl
set_option maxRecDepth 20000 in
theorem zw_732 : (Jvm.Cond.code ({ cls := "TurnedLand$Walker", name := "hours", desc := "(LTurnedLand$World;I)I" } : Jvm.MethodName) prog_9_method_4_code (5 : Nat) (Option.some Jvm.ClassFile.FieldType.int)) ∈ zAll := zAll_t4 12 rfl rfl
set_option maxRecDepth 20000 in
theorem zw_733 : (Jvm.Cond.methodLink "TurnedLand$Walker" (51 : Nat) ({ cls := "TurnedLand$World", name := "hours", desc := "(II)I" } : Jvm.MethodName)) ∈ zAll := zAll_t4 13 rfl rfl
set_option maxRecDepth 20000 in
theorem zw_734 : (Jvm.Cond.methodLink "TurnedLand$Walker" (74 : Nat) ({ cls := "TurnedLand$Walker", name := "seen", desc := "()I" } : Jvm.MethodName)) ∈ zAll := zAll_t4 14 rfl rfl
set_option maxRecDepth 20000 in
theorem zw_736 : (Jvm.Cond.instanceMethod ({ cls := "TurnedLand$Walker", name := "seen", desc := "()I" } : Jvm.MethodName)) ∈ zAll := zAll_t4 16 rfl rfl
set_option maxRecDepth 20000 in
theorem zw_737 : (Jvm.Cond.code ({ cls := "TurnedLand$Walker", name := "seen", desc := "()I" } : Jvm.MethodName) prog_9_method_9_code (3 : Nat) (Option.some Jvm.ClassFile.FieldType.int)) ∈ zAll := zAll_t4 17 rfl rfl
set_option maxRecDepth 20000 in
theorem zw_741 : (Jvm.Cond.code ({ cls := "TurnedLand", name := "as", desc := "(II)I" } : Jvm.MethodName) prog_1_method_19_code (4 : Nat) (Option.some Jvm.ClassFile.FieldType.int)) ∈ zAll := zAll_t4 21 rfl rfl
set_option maxRecDepth 20000 in
theorem zw_742 : (Jvm.Cond.methodLink "TurnedLand" (233 : Nat) ({ cls := "TurnedLand", name := "isUnder", desc := "(II)Z" } : Jvm.MethodName)) ∈ zAll := zAll_t4 22 rfl rfl
set_option maxRecDepth 20000 in
theorem zw_743 : (Jvm.Cond.static ({ cls := "TurnedLand", name := "isUnder", desc := "(II)Z" } : Jvm.MethodName)) ∈ zAll := zAll_t4 23 rfl rfl
set_option maxRecDepth 20000 in
theorem zw_744 : (Jvm.Cond.code ({ cls := "TurnedLand", name := "isUnder", desc := "(II)Z" } : Jvm.MethodName) prog_1_method_55_code (4 : Nat) (Option.some Jvm.ClassFile.FieldType.boolean)) ∈ zAll := zAll_t4 24 rfl rfl
set_option maxRecDepth 20000 in
theorem zw_745 : (Jvm.Cond.fieldLink "TurnedLand" (397 : Nat) "TurnedLand" "KIND_ABOVE" "[I") ∈ zAll := zAll_t4 25 rfl rfl
set_option maxRecDepth 20000 in
theorem zw_750 : (Jvm.Cond.code ({ cls := "TurnedLand", name := "set", desc := "(III)I" } : Jvm.MethodName) prog_1_method_20_code (6 : Nat) (Option.some Jvm.ClassFile.FieldType.int)) ∈ zAll := zAll_t4 30 rfl rfl
set_option maxRecDepth 20000 in
theorem zw_754 : (Jvm.Cond.code ({ cls := "TurnedLand", name := "gone", desc := "(III)I" } : Jvm.MethodName) prog_1_method_21_code (4 : Nat) (Option.some Jvm.ClassFile.FieldType.int)) ∈ zAll := zAll_t4 34 rfl rfl
set_option maxRecDepth 20000 in
theorem zw_755 : (Jvm.Cond.methodLink "TurnedLand" (237 : Nat) ({ cls := "TurnedLand$Walker", name := "goes", desc := "(LTurnedLand$World;II)Z" } : Jvm.MethodName)) ∈ zAll := zAll_t4 35 rfl rfl
set_option maxRecDepth 20000 in
theorem zw_756 : (Jvm.Cond.methodLink "TurnedLand" (241 : Nat) ({ cls := "TurnedLand$Walker", name := "end", desc := "()I" } : Jvm.MethodName)) ∈ zAll := zAll_t4 36 rfl rfl
set_option maxRecDepth 20000 in
theorem zw_757 : (Jvm.Cond.methodLink "TurnedLand" (245 : Nat) ({ cls := "TurnedLand$Walker", name := "hours", desc := "(LTurnedLand$World;I)I" } : Jvm.MethodName)) ∈ zAll := zAll_t4 37 rfl rfl
set_option maxRecDepth 20000 in
theorem zw_758 : (Jvm.Cond.methodLink "TurnedLand" (249 : Nat) ({ cls := "TurnedLand$Walker", name := "turns", desc := "()I" } : Jvm.MethodName)) ∈ zAll := zAll_t4 38 rfl rfl
set_option maxRecDepth 20000 in
theorem zw_759 : (Jvm.Cond.instanceMethod ({ cls := "TurnedLand$Walker", name := "turns", desc := "()I" } : Jvm.MethodName)) ∈ zAll := zAll_t4 39 rfl rfl
set_option maxRecDepth 20000 in
theorem zw_760 : (Jvm.Cond.selects "TurnedLand$Walker" ({ cls := "TurnedLand$Walker", name := "turns", desc := "()I" } : Jvm.MethodName) ({ cls := "TurnedLand$Walker", name := "turns", desc := "()I" } : Jvm.MethodName)) ∈ zAll := zAll_t4 40 rfl rfl
set_option maxRecDepth 20000 in
theorem zw_761 : (Jvm.Cond.code ({ cls := "TurnedLand$Walker", name := "turns", desc := "()I" } : Jvm.MethodName) prog_9_method_5_code (3 : Nat) (Option.some Jvm.ClassFile.FieldType.int)) ∈ zAll := zAll_t4 41 rfl rfl
set_option maxRecDepth 20000 in
theorem zw_765 : (Jvm.Cond.code ({ cls := "TurnedLand", name := "stops", desc := "(I)I" } : Jvm.MethodName) prog_1_method_22_code (2 : Nat) (Option.some Jvm.ClassFile.FieldType.int)) ∈ zAll := zAll_t4 45 rfl rfl
set_option maxRecDepth 20000 in
theorem zw_769 : (Jvm.Cond.code ({ cls := "TurnedLand", name := "person", desc := "(I)I" } : Jvm.MethodName) prog_1_method_23_code (3 : Nat) (Option.some Jvm.ClassFile.FieldType.int)) ∈ zAll := zAll_t4 49 rfl rfl
set_option maxRecDepth 20000 in
theorem zw_773 : (Jvm.Cond.code ({ cls := "TurnedLand", name := "personIs", desc := "(II)I" } : Jvm.MethodName) prog_1_method_24_code (4 : Nat) (Option.some Jvm.ClassFile.FieldType.int)) ∈ zAll := zAll_t4 53 rfl rfl
set_option maxRecDepth 20000 in
theorem zw_774 : (Jvm.Cond.methodLink "TurnedLand" (269 : Nat) ({ cls := "TurnedLand$Folk", name := "hasPerson", desc := "(I)Z" } : Jvm.MethodName)) ∈ zAll := zAll_t4 54 rfl rfl
set_option maxRecDepth 20000 in
theorem zw_775 : (Jvm.Cond.instanceMethod ({ cls := "TurnedLand$Folk", name := "hasPerson", desc := "(I)Z" } : Jvm.MethodName)) ∈ zAll := zAll_t4 55 rfl rfl
set_option maxRecDepth 20000 in
theorem zw_776 : (Jvm.Cond.selects "TurnedLand$Folk" ({ cls := "TurnedLand$Folk", name := "hasPerson", desc := "(I)Z" } : Jvm.MethodName) ({ cls := "TurnedLand$Folk", name := "hasPerson", desc := "(I)Z" } : Jvm.MethodName)) ∈ zAll := zAll_t4 56 rfl rfl
set_option maxRecDepth 20000 in
theorem zw_777 : (Jvm.Cond.code ({ cls := "TurnedLand$Folk", name := "hasPerson", desc := "(I)Z" } : Jvm.MethodName) prog_3_method_3_code (2 : Nat) (Option.some Jvm.ClassFile.FieldType.boolean)) ∈ zAll := zAll_t4 57 rfl rfl
set_option maxRecDepth 20000 in
theorem zw_782 : (Jvm.Cond.code ({ cls := "TurnedLand", name := "cross", desc := "(II)I" } : Jvm.MethodName) prog_1_method_25_code (3 : Nat) (Option.some Jvm.ClassFile.FieldType.int)) ∈ zAll := zAll_t4 62 rfl rfl
set_option maxRecDepth 20000 in
theorem zw_783 : (Jvm.Cond.methodLink "TurnedLand" (272 : Nat) ({ cls := "TurnedLand$World", name := "crosses", desc := "(II)Z" } : Jvm.MethodName)) ∈ zAll := zAll_t4 63 rfl rfl
set_option maxRecDepth 20000 in
theorem zw_784 : (Jvm.Cond.instanceMethod ({ cls := "TurnedLand$World", name := "crosses", desc := "(II)Z" } : Jvm.MethodName)) ∈ zAll := zAll_t4 64 rfl rfl
set_option maxRecDepth 20000 in
theorem zw_785 : (Jvm.Cond.selects "TurnedLand$World" ({ cls := "TurnedLand$World", name := "crosses", desc := "(II)Z" } : Jvm.MethodName) ({ cls := "TurnedLand$World", name := "crosses", desc := "(II)Z" } : Jvm.MethodName)) ∈ zAll := zAll_t4 65 rfl rfl
set_option maxRecDepth 20000 in
theorem zw_786 : (Jvm.Cond.code ({ cls := "TurnedLand$World", name := "crosses", desc := "(II)Z" } : Jvm.MethodName) prog_12_method_6_code (5 : Nat) (Option.some Jvm.ClassFile.FieldType.boolean)) ∈ zAll := zAll_t4 66 rfl rfl
set_option maxRecDepth 20000 in
theorem zw_787 : (Jvm.Cond.constant "TurnedLand$World" (120 : Nat) (999999 : Int32)) ∈ zAll := zAll_t4 67 rfl rfl
set_option maxRecDepth 20000 in
theorem zw_788 : (Jvm.Cond.methodLink "TurnedLand$World" (121 : Nat) ({ cls := "TurnedLand$World", name := "hours", desc := "(II)I" } : Jvm.MethodName)) ∈ zAll := zAll_t4 68 rfl rfl
set_option maxRecDepth 20000 in
theorem zw_789 : (Jvm.Cond.methodLink "TurnedLand$World" (123 : Nat) ({ cls := "java/lang/Math", name := "min", desc := "(II)I" } : Jvm.MethodName)) ∈ zAll := zAll_t4 69 rfl rfl
set_option maxRecDepth 20000 in
theorem zw_793 : (Jvm.Cond.code ({ cls := "TurnedLand", name := "stroll", desc := "(II)I" } : Jvm.MethodName) prog_1_method_26_code (4 : Nat) (Option.some Jvm.ClassFile.FieldType.int)) ∈ zAll := zAll_t4 73 rfl rfl
set_option maxRecDepth 20000 in
theorem zw_794 : (Jvm.Cond.methodLink "TurnedLand" (275 : Nat) ({ cls := "TurnedLand$World", name := "draw", desc := "()I" } : Jvm.MethodName)) ∈ zAll := zAll_t4 74 rfl rfl
set_option maxRecDepth 20000 in
theorem zw_795 : (Jvm.Cond.instanceMethod ({ cls := "TurnedLand$World", name := "draw", desc := "()I" } : Jvm.MethodName)) ∈ zAll := zAll_t4 75 rfl rfl
set_option maxRecDepth 20000 in
theorem zw_796 : (Jvm.Cond.selects "TurnedLand$World" ({ cls := "TurnedLand$World", name := "draw", desc := "()I" } : Jvm.MethodName) ({ cls := "TurnedLand$World", name := "draw", desc := "()I" } : Jvm.MethodName)) ∈ zAll := zAll_t4 76 rfl rfl
set_option maxRecDepth 20000 in
theorem zw_797 : (Jvm.Cond.code ({ cls := "TurnedLand$World", name := "draw", desc := "()I" } : Jvm.MethodName) prog_12_method_3_code (1 : Nat) (Option.some Jvm.ClassFile.FieldType.int)) ∈ zAll := zAll_t4 77 rfl rfl
set_option maxRecDepth 20000 in
theorem zw_798 : (Jvm.Cond.constant "TurnedLand$World" (88 : Nat) (1103515245 : Int32)) ∈ zAll := zAll_t4 78 rfl rfl
set_option maxRecDepth 20000 in
theorem zw_802 : (Jvm.Cond.code ({ cls := "TurnedLand", name := "meet", desc := "(III)I" } : Jvm.MethodName) prog_1_method_27_code (7 : Nat) (Option.some Jvm.ClassFile.FieldType.int)) ∈ zAll := zAll_t4 82 rfl rfl
set_option maxRecDepth 20000 in
theorem zw_803 : (Jvm.Cond.methodLink "TurnedLand" (278 : Nat) ({ cls := "TurnedLand", name := "meetingPlace", desc := "(II)I" } : Jvm.MethodName)) ∈ zAll := zAll_t4 83 rfl rfl
set_option maxRecDepth 20000 in
theorem zw_805 : (Jvm.Cond.instanceMethod ({ cls := "TurnedLand", name := "meetingPlace", desc := "(II)I" } : Jvm.MethodName)) ∈ zAll := zAll_t4 85 rfl rfl
set_option maxRecDepth 20000 in
theorem zw_806 : (Jvm.Cond.code ({ cls := "TurnedLand", name := "meetingPlace", desc := "(II)I" } : Jvm.MethodName) prog_1_method_56_code (7 : Nat) (Option.some Jvm.ClassFile.FieldType.int)) ∈ zAll := zAll_t4 86 rfl rfl
set_option maxRecDepth 20000 in
theorem zw_810 : (Jvm.Cond.code ({ cls := "TurnedLand", name := "thing", desc := "(III)I" } : Jvm.MethodName) prog_1_method_28_code (6 : Nat) (Option.some Jvm.ClassFile.FieldType.int)) ∈ zAll := zAll_t4 90 rfl rfl
set_option maxRecDepth 20000 in
theorem zw_811 : (Jvm.Cond.methodLink "TurnedLand" (285 : Nat) ({ cls := "TurnedLand$Folk", name := "addThing", desc := "(III)I" } : Jvm.MethodName)) ∈ zAll := zAll_t4 91 rfl rfl
set_option maxRecDepth 20000 in
theorem zw_812 : (Jvm.Cond.instanceMethod ({ cls := "TurnedLand$Folk", name := "addThing", desc := "(III)I" } : Jvm.MethodName)) ∈ zAll := zAll_t4 92 rfl rfl
set_option maxRecDepth 20000 in
theorem zw_813 : (Jvm.Cond.selects "TurnedLand$Folk" ({ cls := "TurnedLand$Folk", name := "addThing", desc := "(III)I" } : Jvm.MethodName) ({ cls := "TurnedLand$Folk", name := "addThing", desc := "(III)I" } : Jvm.MethodName)) ∈ zAll := zAll_t4 93 rfl rfl
set_option maxRecDepth 20000 in
theorem zw_814 : (Jvm.Cond.code ({ cls := "TurnedLand$Folk", name := "addThing", desc := "(III)I" } : Jvm.MethodName) prog_3_method_5_code (4 : Nat) (Option.some Jvm.ClassFile.FieldType.int)) ∈ zAll := zAll_t4 94 rfl rfl
set_option maxRecDepth 20000 in
theorem zw_818 : (Jvm.Cond.code ({ cls := "TurnedLand", name := "thingIs", desc := "(II)I" } : Jvm.MethodName) prog_1_method_29_code (4 : Nat) (Option.some Jvm.ClassFile.FieldType.int)) ∈ zAll := zAll_t4 98 rfl rfl
set_option maxRecDepth 20000 in
theorem zw_819 : (Jvm.Cond.methodLink "TurnedLand" (288 : Nat) ({ cls := "TurnedLand$Folk", name := "hasThing", desc := "(I)Z" } : Jvm.MethodName)) ∈ zAll := zAll_t4 99 rfl rfl
set_option maxRecDepth 20000 in
theorem zw_820 : (Jvm.Cond.instanceMethod ({ cls := "TurnedLand$Folk", name := "hasThing", desc := "(I)Z" } : Jvm.MethodName)) ∈ zAll := zAll_t4 100 rfl rfl
set_option maxRecDepth 20000 in
theorem zw_821 : (Jvm.Cond.selects "TurnedLand$Folk" ({ cls := "TurnedLand$Folk", name := "hasThing", desc := "(I)Z" } : Jvm.MethodName) ({ cls := "TurnedLand$Folk", name := "hasThing", desc := "(I)Z" } : Jvm.MethodName)) ∈ zAll := zAll_t4 101 rfl rfl
set_option maxRecDepth 20000 in
theorem zw_822 : (Jvm.Cond.code ({ cls := "TurnedLand$Folk", name := "hasThing", desc := "(I)Z" } : Jvm.MethodName) prog_3_method_4_code (2 : Nat) (Option.some Jvm.ClassFile.FieldType.boolean)) ∈ zAll := zAll_t4 102 rfl rfl
set_option maxRecDepth 20000 in
theorem zw_823 : (Jvm.Cond.methodLink "TurnedLand" (300 : Nat) ({ cls := "TurnedLand$World", name := "price", desc := "(III)I" } : Jvm.MethodName)) ∈ zAll := zAll_t4 103 rfl rfl
set_option maxRecDepth 20000 in
theorem zw_824 : (Jvm.Cond.instanceMethod ({ cls := "TurnedLand$World", name := "price", desc := "(III)I" } : Jvm.MethodName)) ∈ zAll := zAll_t4 104 rfl rfl
set_option maxRecDepth 20000 in
theorem zw_825 : (Jvm.Cond.selects "TurnedLand$World" ({ cls := "TurnedLand$World", name := "price", desc := "(III)I" } : Jvm.MethodName) ({ cls := "TurnedLand$World", name := "price", desc := "(III)I" } : Jvm.MethodName)) ∈ zAll := zAll_t4 105 rfl rfl
set_option maxRecDepth 20000 in
theorem zw_826 : (Jvm.Cond.code ({ cls := "TurnedLand$World", name := "price", desc := "(III)I" } : Jvm.MethodName) prog_12_method_5_code (7 : Nat) (Option.some Jvm.ClassFile.FieldType.int)) ∈ zAll := zAll_t4 106 rfl rfl
set_option maxRecDepth 20000 in
theorem zw_830 : (Jvm.Cond.code ({ cls := "TurnedLand", name := "bring", desc := "(I)I" } : Jvm.MethodName) prog_1_method_30_code (8 : Nat) (Option.some Jvm.ClassFile.FieldType.int)) ∈ zAll := zAll_t4 110 rfl rfl
set_option maxRecDepth 20000 in
theorem zw_831 : (Jvm.Cond.methodLink "TurnedLand" (303 : Nat) ({ cls := "TurnedLand$Ways", name := "sooner", desc := "(I)I" } : Jvm.MethodName)) ∈ zAll := zAll_t4 111 rfl rfl
set_option maxRecDepth 20000 in
theorem zw_832 : (Jvm.Cond.instanceMethod ({ cls := "TurnedLand$Ways", name := "sooner", desc := "(I)I" } : Jvm.MethodName)) ∈ zAll := zAll_t4 112 rfl rfl
set_option maxRecDepth 20000 in
theorem zw_833 : (Jvm.Cond.selects "TurnedLand$Ways" ({ cls := "TurnedLand$Ways", name := "sooner", desc := "(I)I" } : Jvm.MethodName) ({ cls := "TurnedLand$Ways", name := "sooner", desc := "(I)I" } : Jvm.MethodName)) ∈ zAll := zAll_t4 113 rfl rfl
set_option maxRecDepth 20000 in
theorem zw_834 : (Jvm.Cond.code ({ cls := "TurnedLand$Ways", name := "sooner", desc := "(I)I" } : Jvm.MethodName) prog_11_method_4_code (5 : Nat) (Option.some Jvm.ClassFile.FieldType.int)) ∈ zAll := zAll_t4 114 rfl rfl
set_option maxRecDepth 20000 in
theorem zw_838 : (Jvm.Cond.code ({ cls := "TurnedLand", name := "doubt", desc := "(I)I" } : Jvm.MethodName) prog_1_method_31_code (4 : Nat) (Option.some Jvm.ClassFile.FieldType.int)) ∈ zAll := zAll_t4 118 rfl rfl
set_option maxRecDepth 20000 in
theorem zw_839 : (Jvm.Cond.methodLink "TurnedLand" (306 : Nat) ({ cls := "java/lang/Integer", name := "bitCount", desc := "(I)I" } : Jvm.MethodName)) ∈ zAll := zAll_t4 119 rfl rfl
set_option maxRecDepth 20000 in
theorem zw_843 : (Jvm.Cond.code ({ cls := "TurnedLand", name := "fact", desc := "(II)I" } : Jvm.MethodName) prog_1_method_32_code (4 : Nat) (Option.some Jvm.ClassFile.FieldType.int)) ∈ zAll := zAll_t4 123 rfl rfl
set_option maxRecDepth 20000 in
theorem zw_847 : (Jvm.Cond.code ({ cls := "TurnedLand", name := "forget", desc := "()I" } : Jvm.MethodName) prog_1_method_33_code (2 : Nat) (Option.some Jvm.ClassFile.FieldType.int)) ∈ zAll := zAll_t4 127 rfl rfl
set_option maxRecDepth 20000 in
theorem zw_851 : (Jvm.Cond.code ({ cls := "TurnedLand", name := "agree", desc := "()I" } : Jvm.MethodName) prog_1_method_34_code (1 : Nat) (Option.some Jvm.ClassFile.FieldType.int)) ∈ zAll := zAll_t4 131 rfl rfl
set_option maxRecDepth 20000 in
theorem zw_852 : (Jvm.Cond.methodLink "TurnedLand" (320 : Nat) ({ cls := "TurnedLand$Doubts", name := "weigh", desc := "(LTurnedLand$World;LTurnedLand$Walker;)V" } : Jvm.MethodName)) ∈ zAll := zAll_t4 132 rfl rfl
set_option maxRecDepth 20000 in
theorem zw_853 : (Jvm.Cond.instanceMethod ({ cls := "TurnedLand$Doubts", name := "weigh", desc := "(LTurnedLand$World;LTurnedLand$Walker;)V" } : Jvm.MethodName)) ∈ zAll := zAll_t4 133 rfl rfl
set_option maxRecDepth 20000 in
theorem zw_854 : (Jvm.Cond.selects "TurnedLand$Doubts" ({ cls := "TurnedLand$Doubts", name := "weigh", desc := "(LTurnedLand$World;LTurnedLand$Walker;)V" } : Jvm.MethodName) ({ cls := "TurnedLand$Doubts", name := "weigh", desc := "(LTurnedLand$World;LTurnedLand$Walker;)V" } : Jvm.MethodName)) ∈ zAll := zAll_t4 134 rfl rfl
set_option maxRecDepth 20000 in
theorem zw_855 : (Jvm.Cond.code ({ cls := "TurnedLand$Doubts", name := "weigh", desc := "(LTurnedLand$World;LTurnedLand$Walker;)V" } : Jvm.MethodName) prog_2_method_3_code (6 : Nat) (Option.none : Option Jvm.ClassFile.FieldType)) ∈ zAll := zAll_t4 135 rfl rfl
set_option maxRecDepth 20000 in
theorem zw_856 : (Jvm.Cond.methodLink "TurnedLand$Doubts" (54 : Nat) ({ cls := "TurnedLand$Walker", name := "goes", desc := "(LTurnedLand$World;II)Z" } : Jvm.MethodName)) ∈ zAll := zAll_t4 136 rfl rfl
set_option maxRecDepth 20000 in
theorem zw_857 : (Jvm.Cond.methodLink "TurnedLand$Doubts" (60 : Nat) ({ cls := "TurnedLand$Walker", name := "oddJoins", desc := "(LTurnedLand$World;I)I" } : Jvm.MethodName)) ∈ zAll := zAll_t4 137 rfl rfl
set_option maxRecDepth 20000 in
theorem zw_858 : (Jvm.Cond.instanceMethod ({ cls := "TurnedLand$Walker", name := "oddJoins", desc := "(LTurnedLand$World;I)I" } : Jvm.MethodName)) ∈ zAll := zAll_t4 138 rfl rfl
set_option maxRecDepth 20000 in
theorem zw_859 : (Jvm.Cond.selects "TurnedLand$Walker" ({ cls := "TurnedLand$Walker", name := "oddJoins", desc := "(LTurnedLand$World;I)I" } : Jvm.MethodName) ({ cls := "TurnedLand$Walker", name := "oddJoins", desc := "(LTurnedLand$World;I)I" } : Jvm.MethodName)) ∈ zAll := zAll_t4 139 rfl rfl
set_option maxRecDepth 20000 in
theorem zw_860 : (Jvm.Cond.code ({ cls := "TurnedLand$Walker", name := "oddJoins", desc := "(LTurnedLand$World;I)I" } : Jvm.MethodName) prog_9_method_6_code (5 : Nat) (Option.some Jvm.ClassFile.FieldType.int)) ∈ zAll := zAll_t4 140 rfl rfl
set_option maxRecDepth 20000 in
theorem zw_861 : (Jvm.Cond.methodLink "TurnedLand$Walker" (54 : Nat) ({ cls := "TurnedLand$Ground", name := "joinOf", desc := "(II)I" } : Jvm.MethodName)) ∈ zAll := zAll_t4 141 rfl rfl
set_option maxRecDepth 20000 in
theorem zw_862 : (Jvm.Cond.instanceMethod ({ cls := "TurnedLand$Ground", name := "joinOf", desc := "(II)I" } : Jvm.MethodName)) ∈ zAll := zAll_t4 142 rfl rfl
set_option maxRecDepth 20000 in
theorem zw_863 : (Jvm.Cond.selects "TurnedLand$Ground" ({ cls := "TurnedLand$Ground", name := "joinOf", desc := "(II)I" } : Jvm.MethodName) ({ cls := "TurnedLand$Ground", name := "joinOf", desc := "(II)I" } : Jvm.MethodName)) ∈ zAll := zAll_t4 143 rfl rfl
set_option maxRecDepth 20000 in
theorem zw_864 : (Jvm.Cond.code ({ cls := "TurnedLand$Ground", name := "joinOf", desc := "(II)I" } : Jvm.MethodName) prog_4_method_12_code (4 : Nat) (Option.some Jvm.ClassFile.FieldType.int)) ∈ zAll := zAll_t4 144 rfl rfl
set_option maxRecDepth 20000 in
theorem zw_865 : (Jvm.Cond.methodLink "TurnedLand$Doubts" (63 : Nat) ({ cls := "java/util/Arrays", name := "fill", desc := "([II)V" } : Jvm.MethodName)) ∈ zAll := zAll_t4 145 rfl rfl
set_option maxRecDepth 20000 in
theorem zw_866 : (Jvm.Cond.methodLink "TurnedLand$Doubts" (73 : Nat) ({ cls := "TurnedLand$Ground", name := "turnedSet", desc := "()I" } : Jvm.MethodName)) ∈ zAll := zAll_t4 146 rfl rfl
set_option maxRecDepth 20000 in
theorem zw_867 : (Jvm.Cond.instanceMethod ({ cls := "TurnedLand$Ground", name := "turnedSet", desc := "()I" } : Jvm.MethodName)) ∈ zAll := zAll_t4 147 rfl rfl
set_option maxRecDepth 20000 in
theorem zw_868 : (Jvm.Cond.selects "TurnedLand$Ground" ({ cls := "TurnedLand$Ground", name := "turnedSet", desc := "()I" } : Jvm.MethodName) ({ cls := "TurnedLand$Ground", name := "turnedSet", desc := "()I" } : Jvm.MethodName)) ∈ zAll := zAll_t4 148 rfl rfl
set_option maxRecDepth 20000 in
theorem zw_869 : (Jvm.Cond.code ({ cls := "TurnedLand$Ground", name := "turnedSet", desc := "()I" } : Jvm.MethodName) prog_4_method_13_code (3 : Nat) (Option.some Jvm.ClassFile.FieldType.int)) ∈ zAll := zAll_t4 149 rfl rfl
set_option maxRecDepth 20000 in
theorem zw_870 : (Jvm.Cond.methodLink "TurnedLand$Doubts" (79 : Nat) ({ cls := "java/lang/Integer", name := "bitCount", desc := "(I)I" } : Jvm.MethodName)) ∈ zAll := zAll_t4 150 rfl rfl
set_option maxRecDepth 20000 in
theorem zw_871 : (Jvm.Cond.methodLink "TurnedLand$Doubts" (85 : Nat) ({ cls := "TurnedLand$Doubts", name := "areSo", desc := "(I)Z" } : Jvm.MethodName)) ∈ zAll := zAll_t4 151 rfl rfl
set_option maxRecDepth 20000 in
theorem zw_873 : (Jvm.Cond.instanceMethod ({ cls := "TurnedLand$Doubts", name := "areSo", desc := "(I)Z" } : Jvm.MethodName)) ∈ zAll := zAll_t4 153 rfl rfl
set_option maxRecDepth 20000 in
theorem zw_874 : (Jvm.Cond.code ({ cls := "TurnedLand$Doubts", name := "areSo", desc := "(I)Z" } : Jvm.MethodName) prog_2_method_5_code (4 : Nat) (Option.some Jvm.ClassFile.FieldType.boolean)) ∈ zAll := zAll_t4 154 rfl rfl
set_option maxRecDepth 20000 in
theorem zw_875 : (Jvm.Cond.methodLink "TurnedLand$Doubts" (99 : Nat) ({ cls := "TurnedLand$Doubts", name := "turnsOver", desc := "(II)I" } : Jvm.MethodName)) ∈ zAll := zAll_t4 155 rfl rfl
set_option maxRecDepth 20000 in
theorem zw_876 : (Jvm.Cond.static ({ cls := "TurnedLand$Doubts", name := "turnsOver", desc := "(II)I" } : Jvm.MethodName)) ∈ zAll := zAll_t4 156 rfl rfl
set_option maxRecDepth 20000 in
theorem zw_877 : (Jvm.Cond.code ({ cls := "TurnedLand$Doubts", name := "turnsOver", desc := "(II)I" } : Jvm.MethodName) prog_2_method_7_code (2 : Nat) (Option.some Jvm.ClassFile.FieldType.int)) ∈ zAll := zAll_t4 157 rfl rfl
set_option maxRecDepth 20000 in
theorem zw_878 : (Jvm.Cond.methodLink "TurnedLand$Doubts" (89 : Nat) ({ cls := "TurnedLand$Doubts", name := "countIn", desc := "(LTurnedLand$World;I)V" } : Jvm.MethodName)) ∈ zAll := zAll_t4 158 rfl rfl
set_option maxRecDepth 20000 in
theorem zw_880 : (Jvm.Cond.instanceMethod ({ cls := "TurnedLand$Doubts", name := "countIn", desc := "(LTurnedLand$World;I)V" } : Jvm.MethodName)) ∈ zAll := zAll_t4 160 rfl rfl
set_option maxRecDepth 20000 in
theorem zw_881 : (Jvm.Cond.code ({ cls := "TurnedLand$Doubts", name := "countIn", desc := "(LTurnedLand$World;I)V" } : Jvm.MethodName) prog_2_method_6_code (4 : Nat) (Option.none : Option Jvm.ClassFile.FieldType)) ∈ zAll := zAll_t4 161 rfl rfl
set_option maxRecDepth 20000 in
theorem zw_885 : (Jvm.Cond.code ({ cls := "TurnedLand", name := "known", desc := "(I)I" } : Jvm.MethodName) prog_1_method_35_code (3 : Nat) (Option.some Jvm.ClassFile.FieldType.int)) ∈ zAll := zAll_t4 165 rfl rfl
set_option maxRecDepth 20000 in
theorem zw_889 : (Jvm.Cond.code ({ cls := "TurnedLand", name := "test", desc := "()I" } : Jvm.MethodName) prog_1_method_36_code (2 : Nat) (Option.some Jvm.ClassFile.FieldType.int)) ∈ zAll := zAll_t4 169 rfl rfl
set_option maxRecDepth 20000 in
theorem zw_890 : (Jvm.Cond.methodLink "TurnedLand" (328 : Nat) ({ cls := "TurnedLand$Doubts", name := "mostTelling", desc := "(I)I" } : Jvm.MethodName)) ∈ zAll := zAll_t4 170 rfl rfl
set_option maxRecDepth 20000 in
theorem zw_891 : (Jvm.Cond.instanceMethod ({ cls := "TurnedLand$Doubts", name := "mostTelling", desc := "(I)I" } : Jvm.MethodName)) ∈ zAll := zAll_t4 171 rfl rfl
set_option maxRecDepth 20000 in
theorem zw_892 : (Jvm.Cond.selects "TurnedLand$Doubts" ({ cls := "TurnedLand$Doubts", name := "mostTelling", desc := "(I)I" } : Jvm.MethodName) ({ cls := "TurnedLand$Doubts", name := "mostTelling", desc := "(I)I" } : Jvm.MethodName)) ∈ zAll := zAll_t4 172 rfl rfl
set_option maxRecDepth 20000 in
theorem zw_893 : (Jvm.Cond.code ({ cls := "TurnedLand$Doubts", name := "mostTelling", desc := "(I)I" } : Jvm.MethodName) prog_2_method_4_code (6 : Nat) (Option.some Jvm.ClassFile.FieldType.int)) ∈ zAll := zAll_t4 173 rfl rfl
set_option maxRecDepth 20000 in
theorem zw_894 : (Jvm.Cond.methodLink "TurnedLand$Doubts" (93 : Nat) ({ cls := "java/lang/Math", name := "max", desc := "(II)I" } : Jvm.MethodName)) ∈ zAll := zAll_t4 174 rfl rfl
set_option maxRecDepth 20000 in
theorem zw_898 : (Jvm.Cond.code ({ cls := "TurnedLand", name := "seed", desc := "(I)I" } : Jvm.MethodName) prog_1_method_37_code (3 : Nat) (Option.some Jvm.ClassFile.FieldType.int)) ∈ zAll := zAll_t4 178 rfl rfl
set_option maxRecDepth 20000 in
theorem zw_902 : (Jvm.Cond.code ({ cls := "TurnedLand", name := "voice", desc := "(III)I" } : Jvm.MethodName) prog_1_method_38_code (6 : Nat) (Option.some Jvm.ClassFile.FieldType.int)) ∈ zAll := zAll_t4 182 rfl rfl
set_option maxRecDepth 20000 in
theorem zw_903 : (Jvm.Cond.methodLink "TurnedLand" (334 : Nat) ({ cls := "TurnedLand$Voices", name := "speak", desc := "(IIIII)I" } : Jvm.MethodName)) ∈ zAll := zAll_t4 183 rfl rfl
set_option maxRecDepth 20000 in
theorem zw_904 : (Jvm.Cond.instanceMethod ({ cls := "TurnedLand$Voices", name := "speak", desc := "(IIIII)I" } : Jvm.MethodName)) ∈ zAll := zAll_t4 184 rfl rfl
set_option maxRecDepth 20000 in
theorem zw_905 : (Jvm.Cond.selects "TurnedLand$Voices" ({ cls := "TurnedLand$Voices", name := "speak", desc := "(IIIII)I" } : Jvm.MethodName) ({ cls := "TurnedLand$Voices", name := "speak", desc := "(IIIII)I" } : Jvm.MethodName)) ∈ zAll := zAll_t4 185 rfl rfl
set_option maxRecDepth 20000 in
theorem zw_906 : (Jvm.Cond.code ({ cls := "TurnedLand$Voices", name := "speak", desc := "(IIIII)I" } : Jvm.MethodName) prog_8_method_2_code (6 : Nat) (Option.some Jvm.ClassFile.FieldType.int)) ∈ zAll := zAll_t4 186 rfl rfl
set_option maxRecDepth 20000 in
theorem zw_907 : (Jvm.Cond.methodLink "TurnedLand$Voices" (32 : Nat) ({ cls := "TurnedLand$Voices", name := "say", desc := "(IIII)I" } : Jvm.MethodName)) ∈ zAll := zAll_t4 187 rfl rfl
set_option maxRecDepth 20000 in
theorem zw_909 : (Jvm.Cond.instanceMethod ({ cls := "TurnedLand$Voices", name := "say", desc := "(IIII)I" } : Jvm.MethodName)) ∈ zAll := zAll_t4 189 rfl rfl
set_option maxRecDepth 20000 in
theorem zw_910 : (Jvm.Cond.code ({ cls := "TurnedLand$Voices", name := "say", desc := "(IIII)I" } : Jvm.MethodName) prog_8_method_3_code (8 : Nat) (Option.some Jvm.ClassFile.FieldType.int)) ∈ zAll := zAll_t4 190 rfl rfl
set_option maxRecDepth 20000 in
theorem zw_912 : (Jvm.Cond.fieldLink "TurnedLand$Voices" (40 : Nat) "TurnedLand$Voices" "BODIES" "[I") ∈ zAll := zAll_t4 192 rfl rfl
set_option maxRecDepth 20000 in
theorem zw_914 : (Jvm.Cond.methodLink "TurnedLand$Voices" (43 : Nat) ({ cls := "TurnedLand$Voices", name := "begin", desc := "(I)V" } : Jvm.MethodName)) ∈ zAll := zAll_t4 194 rfl rfl
set_option maxRecDepth 20000 in
theorem zw_916 : (Jvm.Cond.instanceMethod ({ cls := "TurnedLand$Voices", name := "begin", desc := "(I)V" } : Jvm.MethodName)) ∈ zAll := zAll_t4 196 rfl rfl
set_option maxRecDepth 20000 in
theorem zw_917 : (Jvm.Cond.code ({ cls := "TurnedLand$Voices", name := "begin", desc := "(I)V" } : Jvm.MethodName) prog_8_method_4_code (2 : Nat) (Option.none : Option Jvm.ClassFile.FieldType)) ∈ zAll := zAll_t4 197 rfl rfl
set_option maxRecDepth 20000 in
theorem zw_918 : (Jvm.Cond.methodLink "TurnedLand$Voices" (47 : Nat) ({ cls := "TurnedLand$Voices", name := "work", desc := "(IIII)I" } : Jvm.MethodName)) ∈ zAll := zAll_t4 198 rfl rfl
set_option maxRecDepth 20000 in
theorem zw_920 : (Jvm.Cond.instanceMethod ({ cls := "TurnedLand$Voices", name := "work", desc := "(IIII)I" } : Jvm.MethodName)) ∈ zAll := zAll_t4 200 rfl rfl
set_option maxRecDepth 20000 in
theorem zw_921 : (Jvm.Cond.code ({ cls := "TurnedLand$Voices", name := "work", desc := "(IIII)I" } : Jvm.MethodName) prog_8_method_5_code (6 : Nat) (Option.some Jvm.ClassFile.FieldType.int)) ∈ zAll := zAll_t4 201 rfl rfl
set_option maxRecDepth 20000 in
theorem zw_923 : (Jvm.Cond.methodLink "TurnedLand$Voices" (53 : Nat) ({ cls := "TurnedLand$Voices", name := "divide", desc := "(I)I" } : Jvm.MethodName)) ∈ zAll := zAll_t4 203 rfl rfl
set_option maxRecDepth 20000 in
theorem zw_925 : (Jvm.Cond.instanceMethod ({ cls := "TurnedLand$Voices", name := "divide", desc := "(I)I" } : Jvm.MethodName)) ∈ zAll := zAll_t4 205 rfl rfl
set_option maxRecDepth 20000 in
theorem zw_926 : (Jvm.Cond.code ({ cls := "TurnedLand$Voices", name := "divide", desc := "(I)I" } : Jvm.MethodName) prog_8_method_6_code (3 : Nat) (Option.some Jvm.ClassFile.FieldType.int)) ∈ zAll := zAll_t4 206 rfl rfl
set_option maxRecDepth 20000 in
theorem zw_927 : (Jvm.Cond.methodLink "TurnedLand$Voices" (57 : Nat) ({ cls := "TurnedLand$Voices", name := "endsRound", desc := "(III)I" } : Jvm.MethodName)) ∈ zAll := zAll_t4 207 rfl rfl
set_option maxRecDepth 20000 in
theorem zw_929 : (Jvm.Cond.instanceMethod ({ cls := "TurnedLand$Voices", name := "endsRound", desc := "(III)I" } : Jvm.MethodName)) ∈ zAll := zAll_t4 209 rfl rfl
set_option maxRecDepth 20000 in
theorem zw_930 : (Jvm.Cond.code ({ cls := "TurnedLand$Voices", name := "endsRound", desc := "(III)I" } : Jvm.MethodName) prog_8_method_7_code (5 : Nat) (Option.some Jvm.ClassFile.FieldType.int)) ∈ zAll := zAll_t4 210 rfl rfl
set_option maxRecDepth 20000 in
theorem zw_931 : (Jvm.Cond.methodLink "TurnedLand$Voices" (61 : Nat) ({ cls := "TurnedLand$Voices", name := "endsWhole", desc := "(III)I" } : Jvm.MethodName)) ∈ zAll := zAll_t4 211 rfl rfl
set_option maxRecDepth 20000 in
theorem zw_933 : (Jvm.Cond.instanceMethod ({ cls := "TurnedLand$Voices", name := "endsWhole", desc := "(III)I" } : Jvm.MethodName)) ∈ zAll := zAll_t4 213 rfl rfl
set_option maxRecDepth 20000 in
theorem zw_934 : (Jvm.Cond.code ({ cls := "TurnedLand$Voices", name := "endsWhole", desc := "(III)I" } : Jvm.MethodName) prog_8_method_8_code (5 : Nat) (Option.some Jvm.ClassFile.FieldType.int)) ∈ zAll := zAll_t4 214 rfl rfl
set_option maxRecDepth 20000 in
theorem zw_938 : (Jvm.Cond.code ({ cls := "TurnedLand", name := "body", desc := "(I)I" } : Jvm.MethodName) prog_1_method_39_code (2 : Nat) (Option.some Jvm.ClassFile.FieldType.int)) ∈ zAll := zAll_t4 218 rfl rfl
set_option maxRecDepth 20000 in
theorem zw_942 : (Jvm.Cond.code ({ cls := "TurnedLand", name := "sheet", desc := "(III)I" } : Jvm.MethodName) prog_1_method_40_code (5 : Nat) (Option.some Jvm.ClassFile.FieldType.int)) ∈ zAll := zAll_t4 222 rfl rfl
set_option maxRecDepth 20000 in
theorem zw_943 : (Jvm.Cond.methodLink "TurnedLand" (347 : Nat) ({ cls := "TurnedLand", name := "isSheet", desc := "(I)Z" } : Jvm.MethodName)) ∈ zAll := zAll_t4 223 rfl rfl
set_option maxRecDepth 20000 in
theorem zw_944 : (Jvm.Cond.static ({ cls := "TurnedLand", name := "isSheet", desc := "(I)Z" } : Jvm.MethodName)) ∈ zAll := zAll_t4 224 rfl rfl
set_option maxRecDepth 20000 in
theorem zw_945 : (Jvm.Cond.code ({ cls := "TurnedLand", name := "isSheet", desc := "(I)Z" } : Jvm.MethodName) prog_1_method_57_code (1 : Nat) (Option.some Jvm.ClassFile.FieldType.boolean)) ∈ zAll := zAll_t4 225 rfl rfl
set_option maxRecDepth 20000 in
theorem zw_946 : (Jvm.Cond.methodLink "TurnedLand" (350 : Nat) ({ cls := "java/util/Arrays", name := "fill", desc := "([II)V" } : Jvm.MethodName)) ∈ zAll := zAll_t4 226 rfl rfl
set_option maxRecDepth 20000 in
theorem zw_950 : (Jvm.Cond.code ({ cls := "TurnedLand", name := "put", desc := "(III)I" } : Jvm.MethodName) prog_1_method_41_code (4 : Nat) (Option.some Jvm.ClassFile.FieldType.int)) ∈ zAll := zAll_t4 230 rfl rfl
set_option maxRecDepth 20000 in
theorem zw_951 : (Jvm.Cond.methodLink "TurnedLand" (356 : Nat) ({ cls := "TurnedLand", name := "lowestBits", desc := "(II)I" } : Jvm.MethodName)) ∈ zAll := zAll_t4 231 rfl rfl
set_option maxRecDepth 20000 in
theorem zw_952 : (Jvm.Cond.static ({ cls := "TurnedLand", name := "lowestBits", desc := "(II)I" } : Jvm.MethodName)) ∈ zAll := zAll_t4 232 rfl rfl
set_option maxRecDepth 20000 in
theorem zw_953 : (Jvm.Cond.code ({ cls := "TurnedLand", name := "lowestBits", desc := "(II)I" } : Jvm.MethodName) prog_1_method_58_code (2 : Nat) (Option.some Jvm.ClassFile.FieldType.int)) ∈ zAll := zAll_t4 233 rfl rfl
set_option maxRecDepth 20000 in
theorem zw_957 : (Jvm.Cond.code ({ cls := "TurnedLand", name := "move", desc := "(IIIII)I" } : Jvm.MethodName) prog_1_method_42_code (6 : Nat) (Option.some Jvm.ClassFile.FieldType.int)) ∈ zAll := zAll_t4 237 rfl rfl
set_option maxRecDepth 20000 in
theorem zw_958 : (Jvm.Cond.methodLink "TurnedLand" (359 : Nat) ({ cls := "TurnedLand", name := "standThere", desc := "(III)Z" } : Jvm.MethodName)) ∈ zAll := zAll_t4 238 rfl rfl
set_option maxRecDepth 20000 in
theorem zw_960 : (Jvm.Cond.instanceMethod ({ cls := "TurnedLand", name := "standThere", desc := "(III)Z" } : Jvm.MethodName)) ∈ zAll := zAll_t5 0 rfl rfl
set_option maxRecDepth 20000 in
theorem zw_961 : (Jvm.Cond.code ({ cls := "TurnedLand", name := "standThere", desc := "(III)Z" } : Jvm.MethodName) prog_1_method_59_code (4 : Nat) (Option.some Jvm.ClassFile.FieldType.boolean)) ∈ zAll := zAll_t5 1 rfl rfl
set_option maxRecDepth 20000 in
theorem zw_962 : (Jvm.Cond.methodLink "TurnedLand" (362 : Nat) ({ cls := "java/lang/System", name := "arraycopy", desc := "(Ljava/lang/Object;ILjava/lang/Object;II)V" } : Jvm.MethodName)) ∈ zAll := zAll_t5 2 rfl rfl
set_option maxRecDepth 20000 in
theorem zw_966 : (Jvm.Cond.code ({ cls := "TurnedLand", name := "joins", desc := "(I)I" } : Jvm.MethodName) prog_1_method_43_code (5 : Nat) (Option.some Jvm.ClassFile.FieldType.int)) ∈ zAll := zAll_t5 6 rfl rfl
set_option maxRecDepth 20000 in
theorem zw_970 : (Jvm.Cond.code ({ cls := "TurnedLand", name := "image", desc := "()I" } : Jvm.MethodName) prog_1_method_44_code (1 : Nat) (Option.some Jvm.ClassFile.FieldType.int)) ∈ zAll := zAll_t5 10 rfl rfl
set_option maxRecDepth 20000 in
theorem zw_971 : (Jvm.Cond.methodLink "TurnedLand" (368 : Nat) ({ cls := "TurnedLand$World", name := "takeOver", desc := "(LTurnedLand$World;)V" } : Jvm.MethodName)) ∈ zAll := zAll_t5 11 rfl rfl
set_option maxRecDepth 20000 in
theorem zw_972 : (Jvm.Cond.instanceMethod ({ cls := "TurnedLand$World", name := "takeOver", desc := "(LTurnedLand$World;)V" } : Jvm.MethodName)) ∈ zAll := zAll_t5 12 rfl rfl
set_option maxRecDepth 20000 in
theorem zw_973 : (Jvm.Cond.selects "TurnedLand$World" ({ cls := "TurnedLand$World", name := "takeOver", desc := "(LTurnedLand$World;)V" } : Jvm.MethodName) ({ cls := "TurnedLand$World", name := "takeOver", desc := "(LTurnedLand$World;)V" } : Jvm.MethodName)) ∈ zAll := zAll_t5 13 rfl rfl
set_option maxRecDepth 20000 in
theorem zw_974 : (Jvm.Cond.code ({ cls := "TurnedLand$World", name := "takeOver", desc := "(LTurnedLand$World;)V" } : Jvm.MethodName) prog_12_method_2_code (2 : Nat) (Option.none : Option Jvm.ClassFile.FieldType)) ∈ zAll := zAll_t5 14 rfl rfl
set_option maxRecDepth 20000 in
theorem zw_975 : (Jvm.Cond.methodLink "TurnedLand$World" (66 : Nat) ({ cls := "TurnedLand$Ground", name := "takeOver", desc := "(LTurnedLand$Ground;)V" } : Jvm.MethodName)) ∈ zAll := zAll_t5 15 rfl rfl
set_option maxRecDepth 20000 in
theorem zw_976 : (Jvm.Cond.instanceMethod ({ cls := "TurnedLand$Ground", name := "takeOver", desc := "(LTurnedLand$Ground;)V" } : Jvm.MethodName)) ∈ zAll := zAll_t5 16 rfl rfl
set_option maxRecDepth 20000 in
theorem zw_977 : (Jvm.Cond.selects "TurnedLand$Ground" ({ cls := "TurnedLand$Ground", name := "takeOver", desc := "(LTurnedLand$Ground;)V" } : Jvm.MethodName) ({ cls := "TurnedLand$Ground", name := "takeOver", desc := "(LTurnedLand$Ground;)V" } : Jvm.MethodName)) ∈ zAll := zAll_t5 17 rfl rfl
set_option maxRecDepth 20000 in
theorem zw_978 : (Jvm.Cond.code ({ cls := "TurnedLand$Ground", name := "takeOver", desc := "(LTurnedLand$Ground;)V" } : Jvm.MethodName) prog_4_method_2_code (2 : Nat) (Option.none : Option Jvm.ClassFile.FieldType)) ∈ zAll := zAll_t5 18 rfl rfl
set_option maxRecDepth 20000 in
theorem zw_979 : (Jvm.Cond.methodLink "TurnedLand$Ground" (37 : Nat) ({ cls := "java/lang/System", name := "arraycopy", desc := "(Ljava/lang/Object;ILjava/lang/Object;II)V" } : Jvm.MethodName)) ∈ zAll := zAll_t5 19 rfl rfl
set_option maxRecDepth 20000 in
theorem zw_980 : (Jvm.Cond.methodLink "TurnedLand$World" (70 : Nat) ({ cls := "TurnedLand$Walks", name := "takeOver", desc := "(LTurnedLand$Walks;)V" } : Jvm.MethodName)) ∈ zAll := zAll_t5 20 rfl rfl
set_option maxRecDepth 20000 in
theorem zw_981 : (Jvm.Cond.instanceMethod ({ cls := "TurnedLand$Walks", name := "takeOver", desc := "(LTurnedLand$Walks;)V" } : Jvm.MethodName)) ∈ zAll := zAll_t5 21 rfl rfl
set_option maxRecDepth 20000 in
theorem zw_982 : (Jvm.Cond.selects "TurnedLand$Walks" ({ cls := "TurnedLand$Walks", name := "takeOver", desc := "(LTurnedLand$Walks;)V" } : Jvm.MethodName) ({ cls := "TurnedLand$Walks", name := "takeOver", desc := "(LTurnedLand$Walks;)V" } : Jvm.MethodName)) ∈ zAll := zAll_t5 22 rfl rfl
set_option maxRecDepth 20000 in
theorem zw_983 : (Jvm.Cond.code ({ cls := "TurnedLand$Walks", name := "takeOver", desc := "(LTurnedLand$Walks;)V" } : Jvm.MethodName) prog_10_method_2_code (3 : Nat) (Option.none : Option Jvm.ClassFile.FieldType)) ∈ zAll := zAll_t5 23 rfl rfl
set_option maxRecDepth 20000 in
theorem zw_984 : (Jvm.Cond.methodLink "TurnedLand$Walks" (33 : Nat) ({ cls := "java/lang/System", name := "arraycopy", desc := "(Ljava/lang/Object;ILjava/lang/Object;II)V" } : Jvm.MethodName)) ∈ zAll := zAll_t5 24 rfl rfl
set_option maxRecDepth 20000 in
theorem zw_985 : (Jvm.Cond.methodLink "TurnedLand$World" (73 : Nat) ({ cls := "TurnedLand$Folk", name := "takeOver", desc := "(LTurnedLand$Folk;)V" } : Jvm.MethodName)) ∈ zAll := zAll_t5 25 rfl rfl
set_option maxRecDepth 20000 in
theorem zw_986 : (Jvm.Cond.instanceMethod ({ cls := "TurnedLand$Folk", name := "takeOver", desc := "(LTurnedLand$Folk;)V" } : Jvm.MethodName)) ∈ zAll := zAll_t5 26 rfl rfl
set_option maxRecDepth 20000 in
theorem zw_987 : (Jvm.Cond.selects "TurnedLand$Folk" ({ cls := "TurnedLand$Folk", name := "takeOver", desc := "(LTurnedLand$Folk;)V" } : Jvm.MethodName) ({ cls := "TurnedLand$Folk", name := "takeOver", desc := "(LTurnedLand$Folk;)V" } : Jvm.MethodName)) ∈ zAll := zAll_t5 27 rfl rfl
set_option maxRecDepth 20000 in
theorem zw_988 : (Jvm.Cond.code ({ cls := "TurnedLand$Folk", name := "takeOver", desc := "(LTurnedLand$Folk;)V" } : Jvm.MethodName) prog_3_method_2_code (2 : Nat) (Option.none : Option Jvm.ClassFile.FieldType)) ∈ zAll := zAll_t5 28 rfl rfl
set_option maxRecDepth 20000 in
theorem zw_989 : (Jvm.Cond.methodLink "TurnedLand$Folk" (34 : Nat) ({ cls := "java/lang/System", name := "arraycopy", desc := "(Ljava/lang/Object;ILjava/lang/Object;II)V" } : Jvm.MethodName)) ∈ zAll := zAll_t5 29 rfl rfl
set_option maxRecDepth 20000 in
theorem zw_990 : (Jvm.Cond.methodLink "TurnedLand$World" (76 : Nat) ({ cls := "TurnedLand$Doubts", name := "takeOver", desc := "(LTurnedLand$Doubts;)V" } : Jvm.MethodName)) ∈ zAll := zAll_t5 30 rfl rfl
set_option maxRecDepth 20000 in
theorem zw_991 : (Jvm.Cond.instanceMethod ({ cls := "TurnedLand$Doubts", name := "takeOver", desc := "(LTurnedLand$Doubts;)V" } : Jvm.MethodName)) ∈ zAll := zAll_t5 31 rfl rfl
set_option maxRecDepth 20000 in
theorem zw_992 : (Jvm.Cond.selects "TurnedLand$Doubts" ({ cls := "TurnedLand$Doubts", name := "takeOver", desc := "(LTurnedLand$Doubts;)V" } : Jvm.MethodName) ({ cls := "TurnedLand$Doubts", name := "takeOver", desc := "(LTurnedLand$Doubts;)V" } : Jvm.MethodName)) ∈ zAll := zAll_t5 32 rfl rfl
set_option maxRecDepth 20000 in
theorem zw_993 : (Jvm.Cond.code ({ cls := "TurnedLand$Doubts", name := "takeOver", desc := "(LTurnedLand$Doubts;)V" } : Jvm.MethodName) prog_2_method_2_code (2 : Nat) (Option.none : Option Jvm.ClassFile.FieldType)) ∈ zAll := zAll_t5 33 rfl rfl
set_option maxRecDepth 20000 in
theorem zw_994 : (Jvm.Cond.methodLink "TurnedLand$Doubts" (37 : Nat) ({ cls := "java/lang/System", name := "arraycopy", desc := "(Ljava/lang/Object;ILjava/lang/Object;II)V" } : Jvm.MethodName)) ∈ zAll := zAll_t5 34 rfl rfl
set_option maxRecDepth 20000 in
theorem zw_995 : (Jvm.Cond.methodLink "TurnedLand$World" (79 : Nat) ({ cls := "TurnedLand$Text", name := "takeOver", desc := "(LTurnedLand$Text;)V" } : Jvm.MethodName)) ∈ zAll := zAll_t5 35 rfl rfl
set_option maxRecDepth 20000 in
theorem zw_996 : (Jvm.Cond.instanceMethod ({ cls := "TurnedLand$Text", name := "takeOver", desc := "(LTurnedLand$Text;)V" } : Jvm.MethodName)) ∈ zAll := zAll_t5 36 rfl rfl
set_option maxRecDepth 20000 in
theorem zw_997 : (Jvm.Cond.selects "TurnedLand$Text" ({ cls := "TurnedLand$Text", name := "takeOver", desc := "(LTurnedLand$Text;)V" } : Jvm.MethodName) ({ cls := "TurnedLand$Text", name := "takeOver", desc := "(LTurnedLand$Text;)V" } : Jvm.MethodName)) ∈ zAll := zAll_t5 37 rfl rfl
set_option maxRecDepth 20000 in
theorem zw_998 : (Jvm.Cond.code ({ cls := "TurnedLand$Text", name := "takeOver", desc := "(LTurnedLand$Text;)V" } : Jvm.MethodName) prog_7_method_2_code (2 : Nat) (Option.none : Option Jvm.ClassFile.FieldType)) ∈ zAll := zAll_t5 38 rfl rfl
set_option maxRecDepth 20000 in
theorem zw_999 : (Jvm.Cond.methodLink "TurnedLand$World" (82 : Nat) ({ cls := "java/lang/System", name := "arraycopy", desc := "(Ljava/lang/Object;ILjava/lang/Object;II)V" } : Jvm.MethodName)) ∈ zAll := zAll_t5 39 rfl rfl
set_option maxRecDepth 20000 in
theorem zw_1003 : (Jvm.Cond.code ({ cls := "TurnedLand", name := "restore", desc := "()I" } : Jvm.MethodName) prog_1_method_45_code (1 : Nat) (Option.some Jvm.ClassFile.FieldType.int)) ∈ zAll := zAll_t5 43 rfl rfl
set_option maxRecDepth 20000 in
theorem zw_1007 : (Jvm.Cond.code ({ cls := "TurnedLand", name := "tell", desc := "(I)I" } : Jvm.MethodName) prog_1_method_46_code (2 : Nat) (Option.some Jvm.ClassFile.FieldType.int)) ∈ zAll := zAll_t5 47 rfl rfl
set_option maxRecDepth 20000 in
theorem zw_1011 : (Jvm.Cond.code ({ cls := "TurnedLand", name := "check", desc := "(I)I" } : Jvm.MethodName) prog_1_method_47_code (4 : Nat) (Option.some Jvm.ClassFile.FieldType.int)) ∈ zAll := zAll_t5 51 rfl rfl
set_option maxRecDepth 20000 in
theorem zw_1012 : (Jvm.Cond.methodLink "TurnedLand" (377 : Nat) ({ cls := "TurnedLand$Walker", name := "firstUnlike", desc := "([II)I" } : Jvm.MethodName)) ∈ zAll := zAll_t5 52 rfl rfl
set_option maxRecDepth 20000 in
theorem zw_1013 : (Jvm.Cond.instanceMethod ({ cls := "TurnedLand$Walker", name := "firstUnlike", desc := "([II)I" } : Jvm.MethodName)) ∈ zAll := zAll_t5 53 rfl rfl
set_option maxRecDepth 20000 in
theorem zw_1014 : (Jvm.Cond.selects "TurnedLand$Walker" ({ cls := "TurnedLand$Walker", name := "firstUnlike", desc := "([II)I" } : Jvm.MethodName) ({ cls := "TurnedLand$Walker", name := "firstUnlike", desc := "([II)I" } : Jvm.MethodName)) ∈ zAll := zAll_t5 54 rfl rfl
set_option maxRecDepth 20000 in
theorem zw_1015 : (Jvm.Cond.code ({ cls := "TurnedLand$Walker", name := "firstUnlike", desc := "([II)I" } : Jvm.MethodName) prog_9_method_7_code (4 : Nat) (Option.some Jvm.ClassFile.FieldType.int)) ∈ zAll := zAll_t5 55 rfl rfl
set_option maxRecDepth 20000 in
theorem zw_1019 : (Jvm.Cond.code ({ cls := "TurnedLand", name := "count", desc := "(I)I" } : Jvm.MethodName) prog_1_method_48_code (2 : Nat) (Option.some Jvm.ClassFile.FieldType.int)) ∈ zAll := zAll_t5 59 rfl rfl
set_option maxRecDepth 20000 in
theorem zw_1023 : (Jvm.Cond.code ({ cls := "TurnedLand", name := "told", desc := "(I)I" } : Jvm.MethodName) prog_1_method_49_code (2 : Nat) (Option.some Jvm.ClassFile.FieldType.int)) ∈ zAll := zAll_t5 63 rfl rfl
set_option maxRecDepth 20000 in
theorem zw_1034 : (Jvm.Cond.fieldLink "TurnedLandModel" (9 : Nat) "TurnedLandModel" "now" "[I") ∈ zAll := zAll_t5 74 rfl rfl
set_option maxRecDepth 20000 in
theorem zw_1035 : (Jvm.Cond.fieldLink "TurnedLandModel" (13 : Nat) "TurnedLandModel" "kept" "[I") ∈ zAll := zAll_t5 75 rfl rfl
set_option maxRecDepth 20000 in
theorem zw_1036 : (Jvm.Cond.fieldLink "TurnedLandModel" (331 : Nat) "TurnedLandModel" "images" "I") ∈ zAll := zAll_t5 76 rfl rfl
set_option maxRecDepth 20000 in
theorem zw_1037 : (Jvm.Cond.fieldLink "TurnedLandModel" (16 : Nat) "TurnedLandModel" "errors" "[I") ∈ zAll := zAll_t5 77 rfl rfl
set_option maxRecDepth 20000 in
theorem zw_1038 : (Jvm.Cond.fieldLink "TurnedLandModel" (19 : Nat) "TurnedLandModel" "corner" "[I") ∈ zAll := zAll_t5 78 rfl rfl
set_option maxRecDepth 20000 in
theorem zw_1039 : (Jvm.Cond.fieldLink "TurnedLandModel" (28 : Nat) "TurnedLandModel" "NAMED" "[Ljava/lang/String;") ∈ zAll := zAll_t5 79 rfl rfl
set_option maxRecDepth 20000 in
theorem zw_1040 : (Jvm.Cond.fieldLink "TurnedLandModel" (149 : Nat) "TurnedLandModel" "at" "I") ∈ zAll := zAll_t5 80 rfl rfl
set_option maxRecDepth 20000 in
theorem zw_1041 : (Jvm.Cond.fieldLink "TurnedLandModel" (191 : Nat) "TurnedLandModel" "open" "I") ∈ zAll := zAll_t5 81 rfl rfl
set_option maxRecDepth 20000 in
theorem zw_1042 : (Jvm.Cond.fieldLink "TurnedLandModel" (181 : Nat) "TurnedLandModel" "use" "I") ∈ zAll := zAll_t5 82 rfl rfl
set_option maxRecDepth 20000 in
theorem zw_1043 : (Jvm.Cond.fieldLink "TurnedLandModel" (145 : Nat) "TurnedLandModel" "isWrong" "Z") ∈ zAll := zAll_t5 83 rfl rfl
set_option maxRecDepth 20000 in
theorem zw_1044 : (Jvm.Cond.fieldLink "TurnedLandModel" (32 : Nat) "TurnedLandModel" "code" "[I") ∈ zAll := zAll_t5 84 rfl rfl
set_option maxRecDepth 20000 in
theorem zw_1045 : (Jvm.Cond.fieldLink "TurnedLandModel" (156 : Nat) "TurnedLandModel" "coded" "I") ∈ zAll := zAll_t5 85 rfl rfl
set_option maxRecDepth 20000 in
theorem zw_1046 : (Jvm.Cond.fieldLink "TurnedLandModel" (35 : Nat) "TurnedLandModel" "named" "[I") ∈ zAll := zAll_t5 86 rfl rfl
set_option maxRecDepth 20000 in
theorem zw_1047 : (Jvm.Cond.fieldLink "TurnedLandModel" (38 : Nat) "TurnedLandModel" "pile" "[I") ∈ zAll := zAll_t5 87 rfl rfl
set_option maxRecDepth 20000 in
theorem zw_1048 : (Jvm.Cond.fieldLink "TurnedLandModel" (209 : Nat) "TurnedLandModel" "place" "I") ∈ zAll := zAll_t5 88 rfl rfl
set_option maxRecDepth 20000 in
theorem zw_1049 : (Jvm.Cond.fieldLink "TurnedLandModel" (216 : Nat) "TurnedLandModel" "hours" "I") ∈ zAll := zAll_t5 89 rfl rfl
set_option maxRecDepth 20000 in
theorem zw_1050 : (Jvm.Cond.fieldLink "TurnedLandModel" (41 : Nat) "TurnedLandModel" "soon" "[I") ∈ zAll := zAll_t5 90 rfl rfl
set_option maxRecDepth 20000 in
theorem zw_1051 : (Jvm.Cond.fieldLink "TurnedLandModel" (239 : Nat) "TurnedLandModel" "ends" "I") ∈ zAll := zAll_t5 91 rfl rfl
set_option maxRecDepth 20000 in
theorem zw_1052 : (Jvm.Cond.fieldLink "TurnedLandModel" (242 : Nat) "TurnedLandModel" "took" "I") ∈ zAll := zAll_t5 92 rfl rfl
set_option maxRecDepth 20000 in
theorem zw_1053 : (Jvm.Cond.fieldLink "TurnedLandModel" (245 : Nat) "TurnedLandModel" "turns" "I") ∈ zAll := zAll_t5 93 rfl rfl
set_option maxRecDepth 20000 in
theorem zw_1054 : (Jvm.Cond.fieldLink "TurnedLandModel" (248 : Nat) "TurnedLandModel" "by" "I") ∈ zAll := zAll_t5 94 rfl rfl
set_option maxRecDepth 20000 in
theorem zw_1055 : (Jvm.Cond.fieldLink "TurnedLandModel" (251 : Nat) "TurnedLandModel" "crossedMany" "I") ∈ zAll := zAll_t5 95 rfl rfl
set_option maxRecDepth 20000 in
theorem zw_1056 : (Jvm.Cond.fieldLink "TurnedLandModel" (44 : Nat) "TurnedLandModel" "ways" "[I") ∈ zAll := zAll_t5 96 rfl rfl
set_option maxRecDepth 20000 in
theorem zw_1057 : (Jvm.Cond.fieldLink "TurnedLandModel" (284 : Nat) "TurnedLandModel" "wayMany" "I") ∈ zAll := zAll_t5 97 rfl rfl
set_option maxRecDepth 20000 in
theorem zw_1058 : (Jvm.Cond.fieldLink "TurnedLandModel" (47 : Nat) "TurnedLandModel" "trace" "[I") ∈ zAll := zAll_t5 98 rfl rfl
set_option maxRecDepth 20000 in
theorem zw_1059 : (Jvm.Cond.fieldLink "TurnedLandModel" (299 : Nat) "TurnedLandModel" "traced" "I") ∈ zAll := zAll_t5 99 rfl rfl
set_option maxRecDepth 20000 in
theorem zw_1060 : (Jvm.Cond.fieldLink "TurnedLandModel" (302 : Nat) "TurnedLandModel" "speaker" "I") ∈ zAll := zAll_t5 100 rfl rfl
set_option maxRecDepth 20000 in
theorem zw_1061 : (Jvm.Cond.fieldLink "TurnedLandModel" (311 : Nat) "TurnedLandModel" "isParted" "Z") ∈ zAll := zAll_t5 101 rfl rfl
set_option maxRecDepth 20000 in
theorem zw_1062 : (Jvm.Cond.fieldLink "TurnedLandModel" (50 : Nat) "TurnedLandModel" "widths" "[I") ∈ zAll := zAll_t5 102 rfl rfl
set_option maxRecDepth 20000 in
theorem zw_1063 : (Jvm.Cond.fieldLink "TurnedLandModel" (53 : Nat) "TurnedLandModel" "sizes" "[I") ∈ zAll := zAll_t5 103 rfl rfl
set_option maxRecDepth 20000 in
theorem zw_1064 : (Jvm.Cond.fieldLink "TurnedLandModel" (56 : Nat) "TurnedLandModel" "numbers" "[I") ∈ zAll := zAll_t5 104 rfl rfl
set_option maxRecDepth 20000 in
theorem zw_1065 : (Jvm.Cond.fieldLink "TurnedLandModel" (59 : Nat) "TurnedLandModel" "carried" "[I") ∈ zAll := zAll_t5 105 rfl rfl
set_option maxRecDepth 20000 in
theorem zw_1135 : (Jvm.Cond.code ({ cls := "TurnedLandModel", name := "square", desc := "(I)I" } : Jvm.MethodName) prog_14_method_9_code (3 : Nat) (Option.some Jvm.ClassFile.FieldType.int)) ∈ zAll := zAll_t5 175 rfl rfl
set_option maxRecDepth 20000 in
theorem zw_1136 : (Jvm.Cond.methodLink "TurnedLandModel" (72 : Nat) ({ cls := "TurnedLandModel", name := "within", desc := "(III)Z" } : Jvm.MethodName)) ∈ zAll := zAll_t5 176 rfl rfl
set_option maxRecDepth 20000 in
theorem zw_1137 : (Jvm.Cond.static ({ cls := "TurnedLandModel", name := "within", desc := "(III)Z" } : Jvm.MethodName)) ∈ zAll := zAll_t5 177 rfl rfl
set_option maxRecDepth 20000 in
theorem zw_1138 : (Jvm.Cond.code ({ cls := "TurnedLandModel", name := "within", desc := "(III)Z" } : Jvm.MethodName) prog_14_method_3_code (3 : Nat) (Option.some Jvm.ClassFile.FieldType.boolean)) ∈ zAll := zAll_t5 178 rfl rfl
set_option maxRecDepth 20000 in
theorem zw_1139 : (Jvm.Cond.constant "TurnedLandModel" (76 : Nat) (-1000001 : Int32)) ∈ zAll := zAll_t5 179 rfl rfl
set_option maxRecDepth 20000 in
theorem zw_1140 : (Jvm.Cond.methodLink "TurnedLandModel" (77 : Nat) ({ cls := "TurnedLandModel", name := "finding", desc := "(I)I" } : Jvm.MethodName)) ∈ zAll := zAll_t5 180 rfl rfl
set_option maxRecDepth 20000 in
theorem zw_1142 : (Jvm.Cond.instanceMethod ({ cls := "TurnedLandModel", name := "finding", desc := "(I)I" } : Jvm.MethodName)) ∈ zAll := zAll_t5 182 rfl rfl
set_option maxRecDepth 20000 in
theorem zw_1143 : (Jvm.Cond.code ({ cls := "TurnedLandModel", name := "finding", desc := "(I)I" } : Jvm.MethodName) prog_14_method_2_code (2 : Nat) (Option.some Jvm.ClassFile.FieldType.int)) ∈ zAll := zAll_t5 183 rfl rfl
set_option maxRecDepth 20000 in
theorem zw_1144 : (Jvm.Cond.constant "TurnedLandModel" (62 : Nat) (-1000000 : Int32)) ∈ zAll := zAll_t5 184 rfl rfl
set_option maxRecDepth 20000 in
theorem zw_1145 : (Jvm.Cond.constant "TurnedLandModel" (81 : Nat) (-1000004 : Int32)) ∈ zAll := zAll_t5 185 rfl rfl
set_option maxRecDepth 20000 in
theorem zw_1149 : (Jvm.Cond.code ({ cls := "TurnedLandModel", name := "cost", desc := "(II)I" } : Jvm.MethodName) prog_14_method_10_code (3 : Nat) (Option.some Jvm.ClassFile.FieldType.int)) ∈ zAll := zAll_t5 189 rfl rfl
set_option maxRecDepth 20000 in
theorem zw_1150 : (Jvm.Cond.methodLink "TurnedLandModel" (82 : Nat) ({ cls := "TurnedLandModel", name := "is", desc := "(II)Z" } : Jvm.MethodName)) ∈ zAll := zAll_t5 190 rfl rfl
set_option maxRecDepth 20000 in
theorem zw_1152 : (Jvm.Cond.instanceMethod ({ cls := "TurnedLandModel", name := "is", desc := "(II)Z" } : Jvm.MethodName)) ∈ zAll := zAll_t5 192 rfl rfl
set_option maxRecDepth 20000 in
theorem zw_1153 : (Jvm.Cond.code ({ cls := "TurnedLandModel", name := "is", desc := "(II)Z" } : Jvm.MethodName) prog_14_method_6_code (3 : Nat) (Option.some Jvm.ClassFile.FieldType.boolean)) ∈ zAll := zAll_t5 193 rfl rfl
set_option maxRecDepth 20000 in
theorem zw_1154 : (Jvm.Cond.methodLink "TurnedLandModel" (86 : Nat) ({ cls := "TurnedLandModel", name := "become", desc := "(II)I" } : Jvm.MethodName)) ∈ zAll := zAll_t5 194 rfl rfl
set_option maxRecDepth 20000 in
theorem zw_1156 : (Jvm.Cond.instanceMethod ({ cls := "TurnedLandModel", name := "become", desc := "(II)I" } : Jvm.MethodName)) ∈ zAll := zAll_t5 196 rfl rfl
set_option maxRecDepth 20000 in
theorem zw_1157 : (Jvm.Cond.code ({ cls := "TurnedLandModel", name := "become", desc := "(II)I" } : Jvm.MethodName) prog_14_method_8_code (4 : Nat) (Option.some Jvm.ClassFile.FieldType.int)) ∈ zAll := zAll_t5 197 rfl rfl
set_option maxRecDepth 20000 in
theorem zw_1161 : (Jvm.Cond.code ({ cls := "TurnedLandModel", name := "join", desc := "(III)I" } : Jvm.MethodName) prog_14_method_17_code (5 : Nat) (Option.some Jvm.ClassFile.FieldType.int)) ∈ zAll := zAll_t5 201 rfl rfl
set_option maxRecDepth 20000 in
theorem zw_1162 : (Jvm.Cond.methodLink "TurnedLandModel" (100 : Nat) ({ cls := "TurnedLandModel", name := "whyNot", desc := "(III)I" } : Jvm.MethodName)) ∈ zAll := zAll_t5 202 rfl rfl
set_option maxRecDepth 20000 in
theorem zw_1164 : (Jvm.Cond.instanceMethod ({ cls := "TurnedLandModel", name := "whyNot", desc := "(III)I" } : Jvm.MethodName)) ∈ zAll := zAll_t5 204 rfl rfl
set_option maxRecDepth 20000 in
theorem zw_1165 : (Jvm.Cond.code ({ cls := "TurnedLandModel", name := "whyNot", desc := "(III)I" } : Jvm.MethodName) prog_14_method_15_code (4 : Nat) (Option.some Jvm.ClassFile.FieldType.int)) ∈ zAll := zAll_t5 205 rfl rfl
set_option maxRecDepth 20000 in
theorem zw_1166 : (Jvm.Cond.methodLink "TurnedLandModel" (92 : Nat) ({ cls := "TurnedLandModel", name := "isEdge", desc := "(I)Z" } : Jvm.MethodName)) ∈ zAll := zAll_t5 206 rfl rfl
set_option maxRecDepth 20000 in
theorem zw_1168 : (Jvm.Cond.instanceMethod ({ cls := "TurnedLandModel", name := "isEdge", desc := "(I)Z" } : Jvm.MethodName)) ∈ zAll := zAll_t5 208 rfl rfl
set_option maxRecDepth 20000 in
theorem zw_1169 : (Jvm.Cond.code ({ cls := "TurnedLandModel", name := "isEdge", desc := "(I)Z" } : Jvm.MethodName) prog_14_method_11_code (2 : Nat) (Option.some Jvm.ClassFile.FieldType.boolean)) ∈ zAll := zAll_t5 209 rfl rfl
set_option maxRecDepth 20000 in
theorem zw_1170 : (Jvm.Cond.methodLink "TurnedLandModel" (96 : Nat) ({ cls := "TurnedLandModel", name := "joinAt", desc := "(I)I" } : Jvm.MethodName)) ∈ zAll := zAll_t5 210 rfl rfl
set_option maxRecDepth 20000 in
theorem zw_1172 : (Jvm.Cond.instanceMethod ({ cls := "TurnedLandModel", name := "joinAt", desc := "(I)I" } : Jvm.MethodName)) ∈ zAll := zAll_t5 212 rfl rfl
set_option maxRecDepth 20000 in
theorem zw_1173 : (Jvm.Cond.code ({ cls := "TurnedLandModel", name := "joinAt", desc := "(I)I" } : Jvm.MethodName) prog_14_method_13_code (4 : Nat) (Option.some Jvm.ClassFile.FieldType.int)) ∈ zAll := zAll_t5 213 rfl rfl
set_option maxRecDepth 20000 in
theorem zw_1174 : (Jvm.Cond.methodLink "TurnedLandModel" (89 : Nat) ({ cls := "TurnedLandModel", name := "joinOf", desc := "(II)I" } : Jvm.MethodName)) ∈ zAll := zAll_t5 214 rfl rfl
set_option maxRecDepth 20000 in
theorem zw_1176 : (Jvm.Cond.instanceMethod ({ cls := "TurnedLandModel", name := "joinOf", desc := "(II)I" } : Jvm.MethodName)) ∈ zAll := zAll_t5 216 rfl rfl
set_option maxRecDepth 20000 in
theorem zw_1177 : (Jvm.Cond.code ({ cls := "TurnedLandModel", name := "joinOf", desc := "(II)I" } : Jvm.MethodName) prog_14_method_12_code (3 : Nat) (Option.some Jvm.ClassFile.FieldType.int)) ∈ zAll := zAll_t5 217 rfl rfl
set_option maxRecDepth 20000 in
theorem zw_1178 : (Jvm.Cond.constant "TurnedLandModel" (99 : Nat) (-1000003 : Int32)) ∈ zAll := zAll_t5 218 rfl rfl
set_option maxRecDepth 20000 in
theorem zw_1179 : (Jvm.Cond.methodLink "TurnedLandModel" (104 : Nat) ({ cls := "TurnedLandModel", name := "joined", desc := "(III)I" } : Jvm.MethodName)) ∈ zAll := zAll_t5 219 rfl rfl
set_option maxRecDepth 20000 in
theorem zw_1181 : (Jvm.Cond.instanceMethod ({ cls := "TurnedLandModel", name := "joined", desc := "(III)I" } : Jvm.MethodName)) ∈ zAll := zAll_t5 221 rfl rfl
set_option maxRecDepth 20000 in
theorem zw_1182 : (Jvm.Cond.code ({ cls := "TurnedLandModel", name := "joined", desc := "(III)I" } : Jvm.MethodName) prog_14_method_16_code (5 : Nat) (Option.some Jvm.ClassFile.FieldType.int)) ∈ zAll := zAll_t5 222 rfl rfl
set_option maxRecDepth 20000 in
theorem zw_1186 : (Jvm.Cond.code ({ cls := "TurnedLandModel", name := "joinIs", desc := "(II)I" } : Jvm.MethodName) prog_14_method_18_code (3 : Nat) (Option.some Jvm.ClassFile.FieldType.int)) ∈ zAll := zAll_t5 226 rfl rfl
set_option maxRecDepth 20000 in
theorem zw_1190 : (Jvm.Cond.code ({ cls := "TurnedLandModel", name := "turn", desc := "(II)I" } : Jvm.MethodName) prog_14_method_19_code (3 : Nat) (Option.some Jvm.ClassFile.FieldType.int)) ∈ zAll := zAll_t5 230 rfl rfl
set_option maxRecDepth 20000 in
theorem zw_1194 : (Jvm.Cond.code ({ cls := "TurnedLandModel", name := "part", desc := "()I" } : Jvm.MethodName) prog_14_method_20_code (1 : Nat) (Option.some Jvm.ClassFile.FieldType.int)) ∈ zAll := zAll_t5 234 rfl rfl
set_option maxRecDepth 20000 in
theorem zw_1198 : (Jvm.Cond.code ({ cls := "TurnedLandModel", name := "across", desc := "(I)I" } : Jvm.MethodName) prog_14_method_21_code (3 : Nat) (Option.some Jvm.ClassFile.FieldType.int)) ∈ zAll := zAll_t5 238 rfl rfl
set_option maxRecDepth 20000 in
theorem zw_1199 : (Jvm.Cond.constant "TurnedLandModel" (107 : Nat) (-1000002 : Int32)) ∈ zAll := zAll_t5 239 rfl rfl
set_option maxRecDepth 20000 in
theorem zw_1200 : (Jvm.Cond.methodLink "TurnedLandModel" (108 : Nat) ({ cls := "TurnedLandModel", name := "otherOf", desc := "(II)I" } : Jvm.MethodName)) ∈ zAll := zAll_t6 0 rfl rfl
set_option maxRecDepth 20000 in
theorem zw_1202 : (Jvm.Cond.instanceMethod ({ cls := "TurnedLandModel", name := "otherOf", desc := "(II)I" } : Jvm.MethodName)) ∈ zAll := zAll_t6 2 rfl rfl
set_option maxRecDepth 20000 in
theorem zw_1203 : (Jvm.Cond.code ({ cls := "TurnedLandModel", name := "otherOf", desc := "(II)I" } : Jvm.MethodName) prog_14_method_14_code (3 : Nat) (Option.some Jvm.ClassFile.FieldType.int)) ∈ zAll := zAll_t6 3 rfl rfl
set_option maxRecDepth 20000 in
theorem zw_1207 : (Jvm.Cond.code ({ cls := "TurnedLandModel", name := "land", desc := "(I)I" } : Jvm.MethodName) prog_14_method_31_code (3 : Nat) (Option.some Jvm.ClassFile.FieldType.int)) ∈ zAll := zAll_t6 7 rfl rfl
set_option maxRecDepth 20000 in
theorem zw_1208 : (Jvm.Cond.methodLink "TurnedLandModel" (130 : Nat) ({ cls := "TurnedLandModel", name := "cornersNow", desc := "()I" } : Jvm.MethodName)) ∈ zAll := zAll_t6 8 rfl rfl
set_option maxRecDepth 20000 in
theorem zw_1210 : (Jvm.Cond.instanceMethod ({ cls := "TurnedLandModel", name := "cornersNow", desc := "()I" } : Jvm.MethodName)) ∈ zAll := zAll_t6 10 rfl rfl
set_option maxRecDepth 20000 in
theorem zw_1211 : (Jvm.Cond.code ({ cls := "TurnedLandModel", name := "cornersNow", desc := "()I" } : Jvm.MethodName) prog_14_method_25_code (3 : Nat) (Option.some Jvm.ClassFile.FieldType.int)) ∈ zAll := zAll_t6 11 rfl rfl
set_option maxRecDepth 20000 in
theorem zw_1212 : (Jvm.Cond.methodLink "TurnedLandModel" (118 : Nat) ({ cls := "TurnedLandModel", name := "findCorners", desc := "()V" } : Jvm.MethodName)) ∈ zAll := zAll_t6 12 rfl rfl
set_option maxRecDepth 20000 in
theorem zw_1214 : (Jvm.Cond.instanceMethod ({ cls := "TurnedLandModel", name := "findCorners", desc := "()V" } : Jvm.MethodName)) ∈ zAll := zAll_t6 14 rfl rfl
set_option maxRecDepth 20000 in
theorem zw_1215 : (Jvm.Cond.code ({ cls := "TurnedLandModel", name := "findCorners", desc := "()V" } : Jvm.MethodName) prog_14_method_24_code (5 : Nat) (Option.none : Option Jvm.ClassFile.FieldType)) ∈ zAll := zAll_t6 15 rfl rfl
set_option maxRecDepth 20000 in
theorem zw_1216 : (Jvm.Cond.methodLink "TurnedLandModel" (111 : Nat) ({ cls := "TurnedLandModel", name := "second", desc := "(I)I" } : Jvm.MethodName)) ∈ zAll := zAll_t6 16 rfl rfl
set_option maxRecDepth 20000 in
theorem zw_1217 : (Jvm.Cond.static ({ cls := "TurnedLandModel", name := "second", desc := "(I)I" } : Jvm.MethodName)) ∈ zAll := zAll_t6 17 rfl rfl
set_option maxRecDepth 20000 in
theorem zw_1218 : (Jvm.Cond.code ({ cls := "TurnedLandModel", name := "second", desc := "(I)I" } : Jvm.MethodName) prog_14_method_23_code (1 : Nat) (Option.some Jvm.ClassFile.FieldType.int)) ∈ zAll := zAll_t6 18 rfl rfl
set_option maxRecDepth 20000 in
theorem zw_1219 : (Jvm.Cond.methodLink "TurnedLandModel" (114 : Nat) ({ cls := "TurnedLandModel", name := "oneOf", desc := "(II)V" } : Jvm.MethodName)) ∈ zAll := zAll_t6 19 rfl rfl
set_option maxRecDepth 20000 in
theorem zw_1221 : (Jvm.Cond.instanceMethod ({ cls := "TurnedLandModel", name := "oneOf", desc := "(II)V" } : Jvm.MethodName)) ∈ zAll := zAll_t6 21 rfl rfl
set_option maxRecDepth 20000 in
theorem zw_1222 : (Jvm.Cond.code ({ cls := "TurnedLandModel", name := "oneOf", desc := "(II)V" } : Jvm.MethodName) prog_14_method_22_code (6 : Nat) (Option.none : Option Jvm.ClassFile.FieldType)) ∈ zAll := zAll_t6 22 rfl rfl
set_option maxRecDepth 20000 in
theorem zw_1223 : (Jvm.Cond.methodLink "TurnedLandModel" (63 : Nat) ({ cls := "java/lang/Math", name := "min", desc := "(II)I" } : Jvm.MethodName)) ∈ zAll := zAll_t6 23 rfl rfl
set_option maxRecDepth 20000 in
theorem zw_1224 : (Jvm.Cond.methodLink "TurnedLandModel" (69 : Nat) ({ cls := "java/lang/Math", name := "max", desc := "(II)I" } : Jvm.MethodName)) ∈ zAll := zAll_t6 24 rfl rfl
set_option maxRecDepth 20000 in
theorem zw_1225 : (Jvm.Cond.methodLink "TurnedLandModel" (134 : Nat) ({ cls := "TurnedLandModel", name := "parts", desc := "()I" } : Jvm.MethodName)) ∈ zAll := zAll_t6 25 rfl rfl
set_option maxRecDepth 20000 in
theorem zw_1227 : (Jvm.Cond.instanceMethod ({ cls := "TurnedLandModel", name := "parts", desc := "()I" } : Jvm.MethodName)) ∈ zAll := zAll_t6 27 rfl rfl
set_option maxRecDepth 20000 in
theorem zw_1228 : (Jvm.Cond.code ({ cls := "TurnedLandModel", name := "parts", desc := "()I" } : Jvm.MethodName) prog_14_method_30_code (6 : Nat) (Option.some Jvm.ClassFile.FieldType.int)) ∈ zAll := zAll_t6 28 rfl rfl
set_option maxRecDepth 20000 in
theorem zw_1229 : (Jvm.Cond.methodLink "TurnedLandModel" (127 : Nat) ({ cls := "TurnedLandModel", name := "reachedBut", desc := "(III)I" } : Jvm.MethodName)) ∈ zAll := zAll_t6 29 rfl rfl
set_option maxRecDepth 20000 in
theorem zw_1231 : (Jvm.Cond.instanceMethod ({ cls := "TurnedLandModel", name := "reachedBut", desc := "(III)I" } : Jvm.MethodName)) ∈ zAll := zAll_t6 31 rfl rfl
set_option maxRecDepth 20000 in
theorem zw_1232 : (Jvm.Cond.code ({ cls := "TurnedLandModel", name := "reachedBut", desc := "(III)I" } : Jvm.MethodName) prog_14_method_27_code (7 : Nat) (Option.some Jvm.ClassFile.FieldType.int)) ∈ zAll := zAll_t6 32 rfl rfl
set_option maxRecDepth 20000 in
theorem zw_1233 : (Jvm.Cond.methodLink "TurnedLandModel" (121 : Nat) ({ cls := "TurnedLandModel", name := "crossed", desc := "(II)I" } : Jvm.MethodName)) ∈ zAll := zAll_t6 33 rfl rfl
set_option maxRecDepth 20000 in
theorem zw_1235 : (Jvm.Cond.instanceMethod ({ cls := "TurnedLandModel", name := "crossed", desc := "(II)I" } : Jvm.MethodName)) ∈ zAll := zAll_t6 35 rfl rfl
set_option maxRecDepth 20000 in
theorem zw_1236 : (Jvm.Cond.code ({ cls := "TurnedLandModel", name := "crossed", desc := "(II)I" } : Jvm.MethodName) prog_14_method_28_code (8 : Nat) (Option.some Jvm.ClassFile.FieldType.int)) ∈ zAll := zAll_t6 36 rfl rfl
set_option maxRecDepth 20000 in
theorem zw_1237 : (Jvm.Cond.methodLink "TurnedLandModel" (124 : Nat) ({ cls := "TurnedLandModel", name := "has", desc := "(II)Z" } : Jvm.MethodName)) ∈ zAll := zAll_t6 37 rfl rfl
set_option maxRecDepth 20000 in
theorem zw_1238 : (Jvm.Cond.static ({ cls := "TurnedLandModel", name := "has", desc := "(II)Z" } : Jvm.MethodName)) ∈ zAll := zAll_t6 38 rfl rfl
set_option maxRecDepth 20000 in
theorem zw_1239 : (Jvm.Cond.code ({ cls := "TurnedLandModel", name := "has", desc := "(II)Z" } : Jvm.MethodName) prog_14_method_4_code (2 : Nat) (Option.some Jvm.ClassFile.FieldType.boolean)) ∈ zAll := zAll_t6 39 rfl rfl
set_option maxRecDepth 20000 in
theorem zw_1240 : (Jvm.Cond.methodLink "TurnedLandModel" (137 : Nat) ({ cls := "TurnedLandModel", name := "rims", desc := "()I" } : Jvm.MethodName)) ∈ zAll := zAll_t6 40 rfl rfl
set_option maxRecDepth 20000 in
theorem zw_1242 : (Jvm.Cond.instanceMethod ({ cls := "TurnedLandModel", name := "rims", desc := "()I" } : Jvm.MethodName)) ∈ zAll := zAll_t6 42 rfl rfl
set_option maxRecDepth 20000 in
theorem zw_1243 : (Jvm.Cond.code ({ cls := "TurnedLandModel", name := "rims", desc := "()I" } : Jvm.MethodName) prog_14_method_26_code (6 : Nat) (Option.some Jvm.ClassFile.FieldType.int)) ∈ zAll := zAll_t6 43 rfl rfl
set_option maxRecDepth 20000 in
theorem zw_1244 : (Jvm.Cond.methodLink "TurnedLandModel" (140 : Nat) ({ cls := "TurnedLandModel", name := "comesTurned", desc := "(II)Z" } : Jvm.MethodName)) ∈ zAll := zAll_t6 44 rfl rfl
set_option maxRecDepth 20000 in
theorem zw_1246 : (Jvm.Cond.instanceMethod ({ cls := "TurnedLandModel", name := "comesTurned", desc := "(II)Z" } : Jvm.MethodName)) ∈ zAll := zAll_t6 46 rfl rfl
set_option maxRecDepth 20000 in
theorem zw_1247 : (Jvm.Cond.code ({ cls := "TurnedLandModel", name := "comesTurned", desc := "(II)Z" } : Jvm.MethodName) prog_14_method_29_code (5 : Nat) (Option.some Jvm.ClassFile.FieldType.boolean)) ∈ zAll := zAll_t6 47 rfl rfl
set_option maxRecDepth 20000 in
theorem zw_1251 : (Jvm.Cond.code ({ cls := "TurnedLandModel", name := "plain", desc := "()I" } : Jvm.MethodName) prog_14_method_32_code (3 : Nat) (Option.some Jvm.ClassFile.FieldType.int)) ∈ zAll := zAll_t6 51 rfl rfl
set_option maxRecDepth 20000 in
theorem zw_1255 : (Jvm.Cond.code ({ cls := "TurnedLandModel", name := "feed", desc := "(JI)I" } : Jvm.MethodName) prog_14_method_33_code (5 : Nat) (Option.some Jvm.ClassFile.FieldType.int)) ∈ zAll := zAll_t6 55 rfl rfl
set_option maxRecDepth 20000 in
theorem zw_1256 : (Jvm.Cond.constantLong "TurnedLandModel" (143 : Nat) (255 : Int64)) ∈ zAll := zAll_t6 56 rfl rfl
set_option maxRecDepth 20000 in
theorem zw_1260 : (Jvm.Cond.code ({ cls := "TurnedLandModel", name := "text", desc := "(I)I" } : Jvm.MethodName) prog_14_method_44_code (3 : Nat) (Option.some Jvm.ClassFile.FieldType.int)) ∈ zAll := zAll_t6 60 rfl rfl
set_option maxRecDepth 20000 in
theorem zw_1261 : (Jvm.Cond.methodLink "TurnedLandModel" (194 : Nat) ({ cls := "TurnedLandModel", name := "either", desc := "()V" } : Jvm.MethodName)) ∈ zAll := zAll_t6 61 rfl rfl
set_option maxRecDepth 20000 in
theorem zw_1263 : (Jvm.Cond.instanceMethod ({ cls := "TurnedLandModel", name := "either", desc := "()V" } : Jvm.MethodName)) ∈ zAll := zAll_t6 63 rfl rfl
set_option maxRecDepth 20000 in
theorem zw_1264 : (Jvm.Cond.code ({ cls := "TurnedLandModel", name := "either", desc := "()V" } : Jvm.MethodName) prog_14_method_37_code (1 : Nat) (Option.none : Option Jvm.ClassFile.FieldType)) ∈ zAll := zAll_t6 64 rfl rfl
set_option maxRecDepth 20000 in
theorem zw_1265 : (Jvm.Cond.methodLink "TurnedLandModel" (159 : Nat) ({ cls := "TurnedLandModel", name := "both", desc := "()V" } : Jvm.MethodName)) ∈ zAll := zAll_t6 65 rfl rfl
set_option maxRecDepth 20000 in
theorem zw_1267 : (Jvm.Cond.instanceMethod ({ cls := "TurnedLandModel", name := "both", desc := "()V" } : Jvm.MethodName)) ∈ zAll := zAll_t6 67 rfl rfl
set_option maxRecDepth 20000 in
theorem zw_1268 : (Jvm.Cond.code ({ cls := "TurnedLandModel", name := "both", desc := "()V" } : Jvm.MethodName) prog_14_method_38_code (1 : Nat) (Option.none : Option Jvm.ClassFile.FieldType)) ∈ zAll := zAll_t6 68 rfl rfl
set_option maxRecDepth 20000 in
theorem zw_1269 : (Jvm.Cond.methodLink "TurnedLandModel" (169 : Nat) ({ cls := "TurnedLandModel", name := "compared", desc := "()V" } : Jvm.MethodName)) ∈ zAll := zAll_t6 69 rfl rfl
set_option maxRecDepth 20000 in
theorem zw_1271 : (Jvm.Cond.instanceMethod ({ cls := "TurnedLandModel", name := "compared", desc := "()V" } : Jvm.MethodName)) ∈ zAll := zAll_t6 71 rfl rfl
set_option maxRecDepth 20000 in
theorem zw_1272 : (Jvm.Cond.code ({ cls := "TurnedLandModel", name := "compared", desc := "()V" } : Jvm.MethodName) prog_14_method_39_code (2 : Nat) (Option.none : Option Jvm.ClassFile.FieldType)) ∈ zAll := zAll_t6 72 rfl rfl
set_option maxRecDepth 20000 in
theorem zw_1273 : (Jvm.Cond.methodLink "TurnedLandModel" (172 : Nat) ({ cls := "TurnedLandModel", name := "sum", desc := "()V" } : Jvm.MethodName)) ∈ zAll := zAll_t6 73 rfl rfl
set_option maxRecDepth 20000 in
theorem zw_1275 : (Jvm.Cond.instanceMethod ({ cls := "TurnedLandModel", name := "sum", desc := "()V" } : Jvm.MethodName)) ∈ zAll := zAll_t6 75 rfl rfl
set_option maxRecDepth 20000 in
theorem zw_1276 : (Jvm.Cond.code ({ cls := "TurnedLandModel", name := "sum", desc := "()V" } : Jvm.MethodName) prog_14_method_40_code (2 : Nat) (Option.none : Option Jvm.ClassFile.FieldType)) ∈ zAll := zAll_t6 76 rfl rfl
set_option maxRecDepth 20000 in
theorem zw_1277 : (Jvm.Cond.methodLink "TurnedLandModel" (175 : Nat) ({ cls := "TurnedLandModel", name := "product", desc := "()V" } : Jvm.MethodName)) ∈ zAll := zAll_t6 77 rfl rfl
set_option maxRecDepth 20000 in
theorem zw_1279 : (Jvm.Cond.instanceMethod ({ cls := "TurnedLandModel", name := "product", desc := "()V" } : Jvm.MethodName)) ∈ zAll := zAll_t6 79 rfl rfl
set_option maxRecDepth 20000 in
theorem zw_1280 : (Jvm.Cond.code ({ cls := "TurnedLandModel", name := "product", desc := "()V" } : Jvm.MethodName) prog_14_method_41_code (2 : Nat) (Option.none : Option Jvm.ClassFile.FieldType)) ∈ zAll := zAll_t6 80 rfl rfl
set_option maxRecDepth 20000 in
theorem zw_1281 : (Jvm.Cond.methodLink "TurnedLandModel" (178 : Nat) ({ cls := "TurnedLandModel", name := "one", desc := "()V" } : Jvm.MethodName)) ∈ zAll := zAll_t6 81 rfl rfl
set_option maxRecDepth 20000 in
theorem zw_1283 : (Jvm.Cond.instanceMethod ({ cls := "TurnedLandModel", name := "one", desc := "()V" } : Jvm.MethodName)) ∈ zAll := zAll_t6 83 rfl rfl
set_option maxRecDepth 20000 in
theorem zw_1284 : (Jvm.Cond.code ({ cls := "TurnedLandModel", name := "one", desc := "()V" } : Jvm.MethodName) prog_14_method_43_code (4 : Nat) (Option.none : Option Jvm.ClassFile.FieldType)) ∈ zAll := zAll_t6 84 rfl rfl
set_option maxRecDepth 20000 in
theorem zw_1285 : (Jvm.Cond.methodLink "TurnedLandModel" (153 : Nat) ({ cls := "TurnedLandModel", name := "here", desc := "()I" } : Jvm.MethodName)) ∈ zAll := zAll_t6 85 rfl rfl
set_option maxRecDepth 20000 in
theorem zw_1287 : (Jvm.Cond.instanceMethod ({ cls := "TurnedLandModel", name := "here", desc := "()I" } : Jvm.MethodName)) ∈ zAll := zAll_t6 87 rfl rfl
set_option maxRecDepth 20000 in
theorem zw_1288 : (Jvm.Cond.code ({ cls := "TurnedLandModel", name := "here", desc := "()I" } : Jvm.MethodName) prog_14_method_34_code (1 : Nat) (Option.some Jvm.ClassFile.FieldType.int)) ∈ zAll := zAll_t6 88 rfl rfl
set_option maxRecDepth 20000 in
theorem zw_1289 : (Jvm.Cond.methodLink "TurnedLandModel" (165 : Nat) ({ cls := "TurnedLandModel", name := "codes", desc := "(I)V" } : Jvm.MethodName)) ∈ zAll := zAll_t6 89 rfl rfl
set_option maxRecDepth 20000 in
theorem zw_1291 : (Jvm.Cond.instanceMethod ({ cls := "TurnedLandModel", name := "codes", desc := "(I)V" } : Jvm.MethodName)) ∈ zAll := zAll_t6 91 rfl rfl
set_option maxRecDepth 20000 in
theorem zw_1292 : (Jvm.Cond.code ({ cls := "TurnedLandModel", name := "codes", desc := "(I)V" } : Jvm.MethodName) prog_14_method_36_code (2 : Nat) (Option.none : Option Jvm.ClassFile.FieldType)) ∈ zAll := zAll_t6 92 rfl rfl
set_option maxRecDepth 20000 in
theorem zw_1293 : (Jvm.Cond.methodLink "TurnedLandModel" (162 : Nat) ({ cls := "TurnedLandModel", name := "takes", desc := "(I)Z" } : Jvm.MethodName)) ∈ zAll := zAll_t6 93 rfl rfl
set_option maxRecDepth 20000 in
theorem zw_1295 : (Jvm.Cond.instanceMethod ({ cls := "TurnedLandModel", name := "takes", desc := "(I)Z" } : Jvm.MethodName)) ∈ zAll := zAll_t6 95 rfl rfl
set_option maxRecDepth 20000 in
theorem zw_1296 : (Jvm.Cond.code ({ cls := "TurnedLandModel", name := "takes", desc := "(I)Z" } : Jvm.MethodName) prog_14_method_35_code (3 : Nat) (Option.some Jvm.ClassFile.FieldType.boolean)) ∈ zAll := zAll_t6 96 rfl rfl
set_option maxRecDepth 20000 in
theorem zw_1297 : (Jvm.Cond.methodLink "TurnedLandModel" (197 : Nat) ({ cls := "TurnedLandModel", name := "nameOf", desc := "(I)I" } : Jvm.MethodName)) ∈ zAll := zAll_t6 97 rfl rfl
set_option maxRecDepth 20000 in
theorem zw_1299 : (Jvm.Cond.instanceMethod ({ cls := "TurnedLandModel", name := "nameOf", desc := "(I)I" } : Jvm.MethodName)) ∈ zAll := zAll_t6 99 rfl rfl
set_option maxRecDepth 20000 in
theorem zw_1300 : (Jvm.Cond.code ({ cls := "TurnedLandModel", name := "nameOf", desc := "(I)I" } : Jvm.MethodName) prog_14_method_42_code (4 : Nat) (Option.some Jvm.ClassFile.FieldType.int)) ∈ zAll := zAll_t6 100 rfl rfl
set_option maxRecDepth 20000 in
theorem zw_1301 : (Jvm.Cond.methodLink "TurnedLandModel" (184 : Nat) ({ cls := "java/lang/String", name := "length", desc := "()I" } : Jvm.MethodName)) ∈ zAll := zAll_t6 101 rfl rfl
set_option maxRecDepth 20000 in
theorem zw_1302 : (Jvm.Cond.instanceMethod ({ cls := "java/lang/String", name := "length", desc := "()I" } : Jvm.MethodName)) ∈ zAll := zAll_t6 102 rfl rfl
set_option maxRecDepth 20000 in
theorem zw_1303 : (Jvm.Cond.selects "java/lang/String" ({ cls := "java/lang/String", name := "length", desc := "()I" } : Jvm.MethodName) ({ cls := "java/lang/String", name := "length", desc := "()I" } : Jvm.MethodName)) ∈ zAll := zAll_t6 103 rfl rfl
set_option maxRecDepth 20000 in
theorem zw_1304 : (Jvm.Cond.code ({ cls := "java/lang/String", name := "length", desc := "()I" } : Jvm.MethodName) prog_17_method_54_code (1 : Nat) (Option.some Jvm.ClassFile.FieldType.int)) ∈ zAll := zAll_t6 104 rfl rfl
set_option maxRecDepth 20000 in
theorem zw_1305 : (Jvm.Cond.methodLink "java/lang/String" (335 : Nat) ({ cls := "java/lang/String", name := "coder", desc := "()B" } : Jvm.MethodName)) ∈ zAll := zAll_t6 105 rfl rfl
set_option maxRecDepth 20000 in
theorem zw_1306 : (Jvm.Cond.instanceMethod ({ cls := "java/lang/String", name := "coder", desc := "()B" } : Jvm.MethodName)) ∈ zAll := zAll_t6 106 rfl rfl
set_option maxRecDepth 20000 in
theorem zw_1307 : (Jvm.Cond.selects "java/lang/String" ({ cls := "java/lang/String", name := "coder", desc := "()B" } : Jvm.MethodName) ({ cls := "java/lang/String", name := "coder", desc := "()B" } : Jvm.MethodName)) ∈ zAll := zAll_t6 107 rfl rfl
set_option maxRecDepth 20000 in
theorem zw_1308 : (Jvm.Cond.code ({ cls := "java/lang/String", name := "coder", desc := "()B" } : Jvm.MethodName) prog_17_method_152_code (1 : Nat) (Option.some Jvm.ClassFile.FieldType.byte)) ∈ zAll := zAll_t6 108 rfl rfl
set_option maxRecDepth 20000 in
theorem zw_1309 : (Jvm.Cond.fieldLink "java/lang/String" (38 : Nat) "java/lang/String" "COMPACT_STRINGS" "Z") ∈ zAll := zAll_t6 109 rfl rfl
set_option maxRecDepth 20000 in
theorem zw_1311 : (Jvm.Cond.methodLink "TurnedLandModel" (187 : Nat) ({ cls := "java/lang/String", name := "charAt", desc := "(I)C" } : Jvm.MethodName)) ∈ zAll := zAll_t6 111 rfl rfl
set_option maxRecDepth 20000 in
theorem zw_1312 : (Jvm.Cond.instanceMethod ({ cls := "java/lang/String", name := "charAt", desc := "(I)C" } : Jvm.MethodName)) ∈ zAll := zAll_t6 112 rfl rfl
set_option maxRecDepth 20000 in
theorem zw_1313 : (Jvm.Cond.selects "java/lang/String" ({ cls := "java/lang/String", name := "charAt", desc := "(I)C" } : Jvm.MethodName) ({ cls := "java/lang/String", name := "charAt", desc := "(I)C" } : Jvm.MethodName)) ∈ zAll := zAll_t6 113 rfl rfl
set_option maxRecDepth 20000 in
theorem zw_1314 : (Jvm.Cond.code ({ cls := "java/lang/String", name := "charAt", desc := "(I)C" } : Jvm.MethodName) prog_17_method_56_code (2 : Nat) (Option.some Jvm.ClassFile.FieldType.char)) ∈ zAll := zAll_t6 114 rfl rfl
set_option maxRecDepth 20000 in
theorem zw_1315 : (Jvm.Cond.methodLink "java/lang/String" (492 : Nat) ({ cls := "java/lang/String", name := "isLatin1", desc := "()Z" } : Jvm.MethodName)) ∈ zAll := zAll_t6 115 rfl rfl
set_option maxRecDepth 20000 in
theorem zw_1316 : (Jvm.Cond.instanceMethod ({ cls := "java/lang/String", name := "isLatin1", desc := "()Z" } : Jvm.MethodName)) ∈ zAll := zAll_t6 116 rfl rfl
set_option maxRecDepth 20000 in
theorem zw_1317 : (Jvm.Cond.selects "java/lang/String" ({ cls := "java/lang/String", name := "isLatin1", desc := "()Z" } : Jvm.MethodName) ({ cls := "java/lang/String", name := "isLatin1", desc := "()Z" } : Jvm.MethodName)) ∈ zAll := zAll_t6 117 rfl rfl
set_option maxRecDepth 20000 in
theorem zw_1318 : (Jvm.Cond.code ({ cls := "java/lang/String", name := "isLatin1", desc := "()Z" } : Jvm.MethodName) prog_17_method_154_code (1 : Nat) (Option.some Jvm.ClassFile.FieldType.boolean)) ∈ zAll := zAll_t6 118 rfl rfl
set_option maxRecDepth 20000 in
theorem zw_1319 : (Jvm.Cond.methodLink "java/lang/String" (495 : Nat) ({ cls := "java/lang/StringLatin1", name := "charAt", desc := "([BI)C" } : Jvm.MethodName)) ∈ zAll := zAll_t6 119 rfl rfl
set_option maxRecDepth 20000 in
theorem zw_1320 : (Jvm.Cond.static ({ cls := "java/lang/StringLatin1", name := "charAt", desc := "([BI)C" } : Jvm.MethodName)) ∈ zAll := zAll_t6 120 rfl rfl
set_option maxRecDepth 20000 in
theorem zw_1321 : (Jvm.Cond.code ({ cls := "java/lang/StringLatin1", name := "charAt", desc := "([BI)C" } : Jvm.MethodName) prog_18_method_2_code (2 : Nat) (Option.some Jvm.ClassFile.FieldType.char)) ∈ zAll := zAll_t6 121 rfl rfl
set_option maxRecDepth 20000 in
theorem zw_1322 : (Jvm.Cond.methodLink "java/lang/StringLatin1" (9 : Nat) ({ cls := "java/lang/String", name := "checkIndex", desc := "(II)V" } : Jvm.MethodName)) ∈ zAll := zAll_t6 122 rfl rfl
set_option maxRecDepth 20000 in
theorem zw_1323 : (Jvm.Cond.static ({ cls := "java/lang/String", name := "checkIndex", desc := "(II)V" } : Jvm.MethodName)) ∈ zAll := zAll_t6 123 rfl rfl
set_option maxRecDepth 20000 in
theorem zw_1324 : (Jvm.Cond.code ({ cls := "java/lang/String", name := "checkIndex", desc := "(II)V" } : Jvm.MethodName) prog_17_method_155_code (2 : Nat) (Option.none : Option Jvm.ClassFile.FieldType)) ∈ zAll := zAll_t6 124 rfl rfl
set_option maxRecDepth 20000 in
theorem zw_1325 : (Jvm.Cond.fieldLink "java/lang/String" (1053 : Nat) "jdk/internal/util/Preconditions" "SIOOBE_FORMATTER" "Ljava/util/function/BiFunction;") ∈ zAll := zAll_t6 125 rfl rfl
set_option maxRecDepth 20000 in
theorem zw_1327 : (Jvm.Cond.methodLink "java/lang/String" (1059 : Nat) ({ cls := "jdk/internal/util/Preconditions", name := "checkIndex", desc := "(IILjava/util/function/BiFunction;)I" } : Jvm.MethodName)) ∈ zAll := zAll_t6 127 rfl rfl
set_option maxRecDepth 20000 in
theorem zw_1328 : (Jvm.Cond.static ({ cls := "jdk/internal/util/Preconditions", name := "checkIndex", desc := "(IILjava/util/function/BiFunction;)I" } : Jvm.MethodName)) ∈ zAll := zAll_t6 128 rfl rfl
set_option maxRecDepth 20000 in
theorem zw_1329 : (Jvm.Cond.code ({ cls := "jdk/internal/util/Preconditions", name := "checkIndex", desc := "(IILjava/util/function/BiFunction;)I" } : Jvm.MethodName) prog_22_method_11_code (3 : Nat) (Option.some Jvm.ClassFile.FieldType.int)) ∈ zAll := zAll_t6 129 rfl rfl
set_option maxRecDepth 20000 in
theorem zw_1352 : (Jvm.Cond.code ({ cls := "TurnedLandModel", name := "untell", desc := "(I)I" } : Jvm.MethodName) prog_14_method_45_code (2 : Nat) (Option.some Jvm.ClassFile.FieldType.int)) ∈ zAll := zAll_t6 152 rfl rfl
set_option maxRecDepth 20000 in
theorem zw_1356 : (Jvm.Cond.code ({ cls := "TurnedLandModel", name := "soonest", desc := "(II)I" } : Jvm.MethodName) prog_14_method_53_code (4 : Nat) (Option.some Jvm.ClassFile.FieldType.int)) ∈ zAll := zAll_t6 156 rfl rfl
set_option maxRecDepth 20000 in
theorem zw_1357 : (Jvm.Cond.methodLink "TurnedLandModel" (226 : Nat) ({ cls := "TurnedLandModel", name := "isPlace", desc := "(I)Z" } : Jvm.MethodName)) ∈ zAll := zAll_t6 157 rfl rfl
set_option maxRecDepth 20000 in
theorem zw_1359 : (Jvm.Cond.instanceMethod ({ cls := "TurnedLandModel", name := "isPlace", desc := "(I)Z" } : Jvm.MethodName)) ∈ zAll := zAll_t6 159 rfl rfl
set_option maxRecDepth 20000 in
theorem zw_1360 : (Jvm.Cond.code ({ cls := "TurnedLandModel", name := "isPlace", desc := "(I)Z" } : Jvm.MethodName) prog_14_method_51_code (2 : Nat) (Option.some Jvm.ClassFile.FieldType.boolean)) ∈ zAll := zAll_t6 160 rfl rfl
set_option maxRecDepth 20000 in
theorem zw_1361 : (Jvm.Cond.methodLink "TurnedLandModel" (229 : Nat) ({ cls := "TurnedLandModel", name := "soonestOf", desc := "(II)I" } : Jvm.MethodName)) ∈ zAll := zAll_t6 161 rfl rfl
set_option maxRecDepth 20000 in
theorem zw_1363 : (Jvm.Cond.instanceMethod ({ cls := "TurnedLandModel", name := "soonestOf", desc := "(II)I" } : Jvm.MethodName)) ∈ zAll := zAll_t6 163 rfl rfl
set_option maxRecDepth 20000 in
theorem zw_1364 : (Jvm.Cond.code ({ cls := "TurnedLandModel", name := "soonestOf", desc := "(II)I" } : Jvm.MethodName) prog_14_method_52_code (3 : Nat) (Option.some Jvm.ClassFile.FieldType.int)) ∈ zAll := zAll_t6 164 rfl rfl
set_option maxRecDepth 20000 in
theorem zw_1365 : (Jvm.Cond.methodLink "TurnedLandModel" (223 : Nat) ({ cls := "TurnedLandModel", name := "findSoonest", desc := "(I)V" } : Jvm.MethodName)) ∈ zAll := zAll_t6 165 rfl rfl
set_option maxRecDepth 20000 in
theorem zw_1367 : (Jvm.Cond.instanceMethod ({ cls := "TurnedLandModel", name := "findSoonest", desc := "(I)V" } : Jvm.MethodName)) ∈ zAll := zAll_t6 167 rfl rfl
set_option maxRecDepth 20000 in
theorem zw_1368 : (Jvm.Cond.code ({ cls := "TurnedLandModel", name := "findSoonest", desc := "(I)V" } : Jvm.MethodName) prog_14_method_50_code (5 : Nat) (Option.none : Option Jvm.ClassFile.FieldType)) ∈ zAll := zAll_t6 168 rfl rfl
set_option maxRecDepth 20000 in
theorem zw_1369 : (Jvm.Cond.constant "TurnedLandModel" (219 : Nat) (100000000 : Int32)) ∈ zAll := zAll_t6 169 rfl rfl
set_option maxRecDepth 20000 in
theorem zw_1370 : (Jvm.Cond.methodLink "TurnedLandModel" (220 : Nat) ({ cls := "TurnedLandModel", name := "crosses", desc := "(II)Z" } : Jvm.MethodName)) ∈ zAll := zAll_t6 170 rfl rfl
set_option maxRecDepth 20000 in
theorem zw_1372 : (Jvm.Cond.instanceMethod ({ cls := "TurnedLandModel", name := "crosses", desc := "(II)Z" } : Jvm.MethodName)) ∈ zAll := zAll_t6 172 rfl rfl
set_option maxRecDepth 20000 in
theorem zw_1373 : (Jvm.Cond.code ({ cls := "TurnedLandModel", name := "crosses", desc := "(II)Z" } : Jvm.MethodName) prog_14_method_49_code (8 : Nat) (Option.some Jvm.ClassFile.FieldType.boolean)) ∈ zAll := zAll_t6 173 rfl rfl
set_option maxRecDepth 20000 in
theorem zw_1374 : (Jvm.Cond.methodLink "TurnedLandModel" (212 : Nat) ({ cls := "TurnedLandModel", name := "given", desc := "(IIIII)I" } : Jvm.MethodName)) ∈ zAll := zAll_t6 174 rfl rfl
set_option maxRecDepth 20000 in
theorem zw_1376 : (Jvm.Cond.instanceMethod ({ cls := "TurnedLandModel", name := "given", desc := "(IIIII)I" } : Jvm.MethodName)) ∈ zAll := zAll_t6 176 rfl rfl
set_option maxRecDepth 20000 in
theorem zw_1377 : (Jvm.Cond.code ({ cls := "TurnedLandModel", name := "given", desc := "(IIIII)I" } : Jvm.MethodName) prog_14_method_48_code (8 : Nat) (Option.some Jvm.ClassFile.FieldType.int)) ∈ zAll := zAll_t6 177 rfl rfl
set_option maxRecDepth 20000 in
theorem zw_1378 : (Jvm.Cond.methodLink "TurnedLandModel" (203 : Nat) ({ cls := "TurnedLandModel", name := "worked", desc := "(I)I" } : Jvm.MethodName)) ∈ zAll := zAll_t6 178 rfl rfl
set_option maxRecDepth 20000 in
theorem zw_1380 : (Jvm.Cond.instanceMethod ({ cls := "TurnedLandModel", name := "worked", desc := "(I)I" } : Jvm.MethodName)) ∈ zAll := zAll_t6 180 rfl rfl
set_option maxRecDepth 20000 in
theorem zw_1381 : (Jvm.Cond.code ({ cls := "TurnedLandModel", name := "worked", desc := "(I)I" } : Jvm.MethodName) prog_14_method_47_code (5 : Nat) (Option.some Jvm.ClassFile.FieldType.int)) ∈ zAll := zAll_t6 181 rfl rfl
set_option maxRecDepth 20000 in
theorem zw_1382 : (Jvm.Cond.methodLink "TurnedLandModel" (200 : Nat) ({ cls := "TurnedLandModel", name := "done", desc := "(III)I" } : Jvm.MethodName)) ∈ zAll := zAll_t6 182 rfl rfl
set_option maxRecDepth 20000 in
theorem zw_1383 : (Jvm.Cond.static ({ cls := "TurnedLandModel", name := "done", desc := "(III)I" } : Jvm.MethodName)) ∈ zAll := zAll_t6 183 rfl rfl
set_option maxRecDepth 20000 in
theorem zw_1384 : (Jvm.Cond.code ({ cls := "TurnedLandModel", name := "done", desc := "(III)I" } : Jvm.MethodName) prog_14_method_46_code (3 : Nat) (Option.some Jvm.ClassFile.FieldType.int)) ∈ zAll := zAll_t6 184 rfl rfl
set_option maxRecDepth 20000 in
theorem zw_1385 : (Jvm.Cond.methodLink "TurnedLandModel" (206 : Nat) ({ cls := "TurnedLandModel", name := "held", desc := "(III)I" } : Jvm.MethodName)) ∈ zAll := zAll_t6 185 rfl rfl
set_option maxRecDepth 20000 in
theorem zw_1386 : (Jvm.Cond.static ({ cls := "TurnedLandModel", name := "held", desc := "(III)I" } : Jvm.MethodName)) ∈ zAll := zAll_t6 186 rfl rfl
set_option maxRecDepth 20000 in
theorem zw_1387 : (Jvm.Cond.code ({ cls := "TurnedLandModel", name := "held", desc := "(III)I" } : Jvm.MethodName) prog_14_method_5_code (3 : Nat) (Option.some Jvm.ClassFile.FieldType.int)) ∈ zAll := zAll_t6 187 rfl rfl
set_option maxRecDepth 20000 in
theorem zw_1391 : (Jvm.Cond.code ({ cls := "TurnedLandModel", name := "reached", desc := "(I)I" } : Jvm.MethodName) prog_14_method_54_code (2 : Nat) (Option.some Jvm.ClassFile.FieldType.int)) ∈ zAll := zAll_t6 191 rfl rfl
set_option maxRecDepth 20000 in
theorem zw_1395 : (Jvm.Cond.code ({ cls := "TurnedLandModel", name := "first", desc := "(II)I" } : Jvm.MethodName) prog_14_method_55_code (5 : Nat) (Option.some Jvm.ClassFile.FieldType.int)) ∈ zAll := zAll_t6 195 rfl rfl
set_option maxRecDepth 20000 in
theorem zw_1396 : (Jvm.Cond.methodLink "TurnedLandModel" (232 : Nat) ({ cls := "TurnedLandModel", name := "leads", desc := "(IIII)Z" } : Jvm.MethodName)) ∈ zAll := zAll_t6 196 rfl rfl
set_option maxRecDepth 20000 in
theorem zw_1398 : (Jvm.Cond.instanceMethod ({ cls := "TurnedLandModel", name := "leads", desc := "(IIII)Z" } : Jvm.MethodName)) ∈ zAll := zAll_t6 198 rfl rfl
set_option maxRecDepth 20000 in
theorem zw_1399 : (Jvm.Cond.code ({ cls := "TurnedLandModel", name := "leads", desc := "(IIII)Z" } : Jvm.MethodName) prog_14_method_56_code (7 : Nat) (Option.some Jvm.ClassFile.FieldType.boolean)) ∈ zAll := zAll_t6 199 rfl rfl
set_option maxRecDepth 20000 in
theorem zw_1403 : (Jvm.Cond.code ({ cls := "TurnedLandModel", name := "walk", desc := "(III)I" } : Jvm.MethodName) prog_14_method_58_code (10 : Nat) (Option.some Jvm.ClassFile.FieldType.int)) ∈ zAll := zAll_t6 203 rfl rfl
set_option maxRecDepth 20000 in
theorem zw_1407 : (Jvm.Cond.code ({ cls := "TurnedLandModel", name := "walkIs", desc := "(II)I" } : Jvm.MethodName) prog_14_method_61_code (3 : Nat) (Option.some Jvm.ClassFile.FieldType.int)) ∈ zAll := zAll_t6 207 rfl rfl
set_option maxRecDepth 20000 in
theorem zw_1408 : (Jvm.Cond.methodLink "TurnedLandModel" (236 : Nat) ({ cls := "TurnedLandModel", name := "walkOf", desc := "(II)I" } : Jvm.MethodName)) ∈ zAll := zAll_t6 208 rfl rfl
set_option maxRecDepth 20000 in
theorem zw_1410 : (Jvm.Cond.instanceMethod ({ cls := "TurnedLandModel", name := "walkOf", desc := "(II)I" } : Jvm.MethodName)) ∈ zAll := zAll_t6 210 rfl rfl
set_option maxRecDepth 20000 in
theorem zw_1411 : (Jvm.Cond.code ({ cls := "TurnedLandModel", name := "walkOf", desc := "(II)I" } : Jvm.MethodName) prog_14_method_57_code (3 : Nat) (Option.some Jvm.ClassFile.FieldType.int)) ∈ zAll := zAll_t6 211 rfl rfl
set_option maxRecDepth 20000 in
theorem zw_1412 : (Jvm.Cond.methodLink "TurnedLandModel" (257 : Nat) ({ cls := "TurnedLandModel", name := "isSo", desc := "(I)Z" } : Jvm.MethodName)) ∈ zAll := zAll_t6 212 rfl rfl
set_option maxRecDepth 20000 in
theorem zw_1414 : (Jvm.Cond.instanceMethod ({ cls := "TurnedLandModel", name := "isSo", desc := "(I)Z" } : Jvm.MethodName)) ∈ zAll := zAll_t6 214 rfl rfl
set_option maxRecDepth 20000 in
theorem zw_1415 : (Jvm.Cond.code ({ cls := "TurnedLandModel", name := "isSo", desc := "(I)Z" } : Jvm.MethodName) prog_14_method_60_code (5 : Nat) (Option.some Jvm.ClassFile.FieldType.boolean)) ∈ zAll := zAll_t6 215 rfl rfl
set_option maxRecDepth 20000 in
theorem zw_1416 : (Jvm.Cond.methodLink "TurnedLandModel" (254 : Nat) ({ cls := "TurnedLandModel", name := "goes", desc := "(II)Z" } : Jvm.MethodName)) ∈ zAll := zAll_t6 216 rfl rfl
set_option maxRecDepth 20000 in
theorem zw_1418 : (Jvm.Cond.instanceMethod ({ cls := "TurnedLandModel", name := "goes", desc := "(II)Z" } : Jvm.MethodName)) ∈ zAll := zAll_t6 218 rfl rfl
set_option maxRecDepth 20000 in
theorem zw_1419 : (Jvm.Cond.code ({ cls := "TurnedLandModel", name := "goes", desc := "(II)Z" } : Jvm.MethodName) prog_14_method_59_code (3 : Nat) (Option.some Jvm.ClassFile.FieldType.boolean)) ∈ zAll := zAll_t6 219 rfl rfl
set_option maxRecDepth 20000 in
theorem zw_1423 : (Jvm.Cond.code ({ cls := "TurnedLandModel", name := "as", desc := "(II)I" } : Jvm.MethodName) prog_14_method_63_code (4 : Nat) (Option.some Jvm.ClassFile.FieldType.int)) ∈ zAll := zAll_t6 223 rfl rfl
set_option maxRecDepth 20000 in
theorem zw_1424 : (Jvm.Cond.methodLink "TurnedLandModel" (260 : Nat) ({ cls := "TurnedLandModel", name := "above", desc := "(I)I" } : Jvm.MethodName)) ∈ zAll := zAll_t6 224 rfl rfl
set_option maxRecDepth 20000 in
theorem zw_1425 : (Jvm.Cond.static ({ cls := "TurnedLandModel", name := "above", desc := "(I)I" } : Jvm.MethodName)) ∈ zAll := zAll_t6 225 rfl rfl
set_option maxRecDepth 20000 in
theorem zw_1426 : (Jvm.Cond.code ({ cls := "TurnedLandModel", name := "above", desc := "(I)I" } : Jvm.MethodName) prog_14_method_62_code (1 : Nat) (Option.some Jvm.ClassFile.FieldType.int)) ∈ zAll := zAll_t6 226 rfl rfl
set_option maxRecDepth 20000 in
theorem zw_1427 : (Jvm.Cond.constant "TurnedLandModel" (263 : Nat) (-1000005 : Int32)) ∈ zAll := zAll_t6 227 rfl rfl
set_option maxRecDepth 20000 in
theorem zw_1431 : (Jvm.Cond.code ({ cls := "TurnedLandModel", name := "set", desc := "(III)I" } : Jvm.MethodName) prog_14_method_64_code (5 : Nat) (Option.some Jvm.ClassFile.FieldType.int)) ∈ zAll := zAll_t6 231 rfl rfl
set_option maxRecDepth 20000 in
theorem zw_1435 : (Jvm.Cond.code ({ cls := "TurnedLandModel", name := "gone", desc := "(III)I" } : Jvm.MethodName) prog_14_method_65_code (4 : Nat) (Option.some Jvm.ClassFile.FieldType.int)) ∈ zAll := zAll_t6 235 rfl rfl
set_option maxRecDepth 20000 in
theorem zw_1439 : (Jvm.Cond.code ({ cls := "TurnedLandModel", name := "stops", desc := "(I)I" } : Jvm.MethodName) prog_14_method_66_code (2 : Nat) (Option.some Jvm.ClassFile.FieldType.int)) ∈ zAll := zAll_t6 239 rfl rfl
set_option maxRecDepth 20000 in
theorem zw_1443 : (Jvm.Cond.code ({ cls := "TurnedLandModel", name := "person", desc := "(I)I" } : Jvm.MethodName) prog_14_method_67_code (3 : Nat) (Option.some Jvm.ClassFile.FieldType.int)) ∈ zAll := zAll_t7 3 rfl rfl
set_option maxRecDepth 20000 in
theorem zw_1447 : (Jvm.Cond.code ({ cls := "TurnedLandModel", name := "personIs", desc := "(II)I" } : Jvm.MethodName) prog_14_method_69_code (3 : Nat) (Option.some Jvm.ClassFile.FieldType.int)) ∈ zAll := zAll_t7 7 rfl rfl
set_option maxRecDepth 20000 in
theorem zw_1451 : (Jvm.Cond.code ({ cls := "TurnedLandModel", name := "cross", desc := "(II)I" } : Jvm.MethodName) prog_14_method_71_code (3 : Nat) (Option.some Jvm.ClassFile.FieldType.int)) ∈ zAll := zAll_t7 11 rfl rfl
set_option maxRecDepth 20000 in
theorem zw_1452 : (Jvm.Cond.methodLink "TurnedLandModel" (268 : Nat) ({ cls := "TurnedLandModel", name := "goesOver", desc := "(II)Z" } : Jvm.MethodName)) ∈ zAll := zAll_t7 12 rfl rfl
set_option maxRecDepth 20000 in
theorem zw_1454 : (Jvm.Cond.instanceMethod ({ cls := "TurnedLandModel", name := "goesOver", desc := "(II)Z" } : Jvm.MethodName)) ∈ zAll := zAll_t7 14 rfl rfl
set_option maxRecDepth 20000 in
theorem zw_1455 : (Jvm.Cond.code ({ cls := "TurnedLandModel", name := "goesOver", desc := "(II)Z" } : Jvm.MethodName) prog_14_method_70_code (3 : Nat) (Option.some Jvm.ClassFile.FieldType.boolean)) ∈ zAll := zAll_t7 15 rfl rfl
set_option maxRecDepth 20000 in
theorem zw_1456 : (Jvm.Cond.methodLink "TurnedLandModel" (264 : Nat) ({ cls := "TurnedLandModel", name := "whereIs", desc := "(I)I" } : Jvm.MethodName)) ∈ zAll := zAll_t7 16 rfl rfl
set_option maxRecDepth 20000 in
theorem zw_1458 : (Jvm.Cond.instanceMethod ({ cls := "TurnedLandModel", name := "whereIs", desc := "(I)I" } : Jvm.MethodName)) ∈ zAll := zAll_t7 18 rfl rfl
set_option maxRecDepth 20000 in
theorem zw_1459 : (Jvm.Cond.code ({ cls := "TurnedLandModel", name := "whereIs", desc := "(I)I" } : Jvm.MethodName) prog_14_method_68_code (2 : Nat) (Option.some Jvm.ClassFile.FieldType.int)) ∈ zAll := zAll_t7 19 rfl rfl
set_option maxRecDepth 20000 in
theorem zw_1460 : (Jvm.Cond.constant "TurnedLandModel" (267 : Nat) (999999 : Int32)) ∈ zAll := zAll_t7 20 rfl rfl
set_option maxRecDepth 20000 in
theorem zw_1464 : (Jvm.Cond.code ({ cls := "TurnedLandModel", name := "stroll", desc := "(II)I" } : Jvm.MethodName) prog_14_method_73_code (5 : Nat) (Option.some Jvm.ClassFile.FieldType.int)) ∈ zAll := zAll_t7 24 rfl rfl
set_option maxRecDepth 20000 in
theorem zw_1465 : (Jvm.Cond.methodLink "TurnedLandModel" (272 : Nat) ({ cls := "TurnedLandModel", name := "drawn", desc := "(I)I" } : Jvm.MethodName)) ∈ zAll := zAll_t7 25 rfl rfl
set_option maxRecDepth 20000 in
theorem zw_1467 : (Jvm.Cond.instanceMethod ({ cls := "TurnedLandModel", name := "drawn", desc := "(I)I" } : Jvm.MethodName)) ∈ zAll := zAll_t7 27 rfl rfl
set_option maxRecDepth 20000 in
theorem zw_1468 : (Jvm.Cond.code ({ cls := "TurnedLandModel", name := "drawn", desc := "(I)I" } : Jvm.MethodName) prog_14_method_72_code (2 : Nat) (Option.some Jvm.ClassFile.FieldType.int)) ∈ zAll := zAll_t7 28 rfl rfl
set_option maxRecDepth 20000 in
theorem zw_1469 : (Jvm.Cond.constant "TurnedLandModel" (271 : Nat) (1103515245 : Int32)) ∈ zAll := zAll_t7 29 rfl rfl
set_option maxRecDepth 20000 in
theorem zw_1473 : (Jvm.Cond.code ({ cls := "TurnedLandModel", name := "meet", desc := "(III)I" } : Jvm.MethodName) prog_14_method_74_code (8 : Nat) (Option.some Jvm.ClassFile.FieldType.int)) ∈ zAll := zAll_t7 33 rfl rfl
set_option maxRecDepth 20000 in
theorem zw_1477 : (Jvm.Cond.code ({ cls := "TurnedLandModel", name := "thing", desc := "(III)I" } : Jvm.MethodName) prog_14_method_76_code (5 : Nat) (Option.some Jvm.ClassFile.FieldType.int)) ∈ zAll := zAll_t7 37 rfl rfl
set_option maxRecDepth 20000 in
theorem zw_1481 : (Jvm.Cond.code ({ cls := "TurnedLandModel", name := "thingIs", desc := "(II)I" } : Jvm.MethodName) prog_14_method_78_code (3 : Nat) (Option.some Jvm.ClassFile.FieldType.int)) ∈ zAll := zAll_t7 41 rfl rfl
set_option maxRecDepth 20000 in
theorem zw_1482 : (Jvm.Cond.methodLink "TurnedLandModel" (275 : Nat) ({ cls := "TurnedLandModel", name := "thingOf", desc := "(II)I" } : Jvm.MethodName)) ∈ zAll := zAll_t7 42 rfl rfl
set_option maxRecDepth 20000 in
theorem zw_1484 : (Jvm.Cond.instanceMethod ({ cls := "TurnedLandModel", name := "thingOf", desc := "(II)I" } : Jvm.MethodName)) ∈ zAll := zAll_t7 44 rfl rfl
set_option maxRecDepth 20000 in
theorem zw_1485 : (Jvm.Cond.code ({ cls := "TurnedLandModel", name := "thingOf", desc := "(II)I" } : Jvm.MethodName) prog_14_method_75_code (3 : Nat) (Option.some Jvm.ClassFile.FieldType.int)) ∈ zAll := zAll_t7 45 rfl rfl
set_option maxRecDepth 20000 in
theorem zw_1486 : (Jvm.Cond.methodLink "TurnedLandModel" (278 : Nat) ({ cls := "TurnedLandModel", name := "priceOf", desc := "(III)I" } : Jvm.MethodName)) ∈ zAll := zAll_t7 46 rfl rfl
set_option maxRecDepth 20000 in
theorem zw_1488 : (Jvm.Cond.instanceMethod ({ cls := "TurnedLandModel", name := "priceOf", desc := "(III)I" } : Jvm.MethodName)) ∈ zAll := zAll_t7 48 rfl rfl
set_option maxRecDepth 20000 in
theorem zw_1489 : (Jvm.Cond.code ({ cls := "TurnedLandModel", name := "priceOf", desc := "(III)I" } : Jvm.MethodName) prog_14_method_77_code (4 : Nat) (Option.some Jvm.ClassFile.FieldType.int)) ∈ zAll := zAll_t7 49 rfl rfl
set_option maxRecDepth 20000 in
theorem zw_1493 : (Jvm.Cond.code ({ cls := "TurnedLandModel", name := "bring", desc := "(I)I" } : Jvm.MethodName) prog_14_method_79_code (9 : Nat) (Option.some Jvm.ClassFile.FieldType.int)) ∈ zAll := zAll_t7 53 rfl rfl
set_option maxRecDepth 20000 in
theorem zw_1497 : (Jvm.Cond.code ({ cls := "TurnedLandModel", name := "doubt", desc := "(I)I" } : Jvm.MethodName) prog_14_method_81_code (2 : Nat) (Option.some Jvm.ClassFile.FieldType.int)) ∈ zAll := zAll_t7 57 rfl rfl
set_option maxRecDepth 20000 in
theorem zw_1498 : (Jvm.Cond.methodLink "TurnedLandModel" (281 : Nat) ({ cls := "TurnedLandModel", name := "bits", desc := "(I)I" } : Jvm.MethodName)) ∈ zAll := zAll_t7 58 rfl rfl
set_option maxRecDepth 20000 in
theorem zw_1499 : (Jvm.Cond.static ({ cls := "TurnedLandModel", name := "bits", desc := "(I)I" } : Jvm.MethodName)) ∈ zAll := zAll_t7 59 rfl rfl
set_option maxRecDepth 20000 in
theorem zw_1500 : (Jvm.Cond.code ({ cls := "TurnedLandModel", name := "bits", desc := "(I)I" } : Jvm.MethodName) prog_14_method_80_code (3 : Nat) (Option.some Jvm.ClassFile.FieldType.int)) ∈ zAll := zAll_t7 60 rfl rfl
set_option maxRecDepth 20000 in
theorem zw_1504 : (Jvm.Cond.code ({ cls := "TurnedLandModel", name := "fact", desc := "(II)I" } : Jvm.MethodName) prog_14_method_82_code (4 : Nat) (Option.some Jvm.ClassFile.FieldType.int)) ∈ zAll := zAll_t7 64 rfl rfl
set_option maxRecDepth 20000 in
theorem zw_1508 : (Jvm.Cond.code ({ cls := "TurnedLandModel", name := "forget", desc := "()I" } : Jvm.MethodName) prog_14_method_83_code (1 : Nat) (Option.some Jvm.ClassFile.FieldType.int)) ∈ zAll := zAll_t7 68 rfl rfl
set_option maxRecDepth 20000 in
theorem zw_1512 : (Jvm.Cond.code ({ cls := "TurnedLandModel", name := "agree", desc := "()I" } : Jvm.MethodName) prog_14_method_88_code (1 : Nat) (Option.some Jvm.ClassFile.FieldType.int)) ∈ zAll := zAll_t7 72 rfl rfl
set_option maxRecDepth 20000 in
theorem zw_1513 : (Jvm.Cond.methodLink "TurnedLandModel" (296 : Nat) ({ cls := "TurnedLandModel", name := "findWays", desc := "()V" } : Jvm.MethodName)) ∈ zAll := zAll_t7 73 rfl rfl
set_option maxRecDepth 20000 in
theorem zw_1515 : (Jvm.Cond.instanceMethod ({ cls := "TurnedLandModel", name := "findWays", desc := "()V" } : Jvm.MethodName)) ∈ zAll := zAll_t7 75 rfl rfl
set_option maxRecDepth 20000 in
theorem zw_1516 : (Jvm.Cond.code ({ cls := "TurnedLandModel", name := "findWays", desc := "()V" } : Jvm.MethodName) prog_14_method_86_code (5 : Nat) (Option.none : Option Jvm.ClassFile.FieldType)) ∈ zAll := zAll_t7 76 rfl rfl
set_option maxRecDepth 20000 in
theorem zw_1517 : (Jvm.Cond.methodLink "TurnedLandModel" (287 : Nat) ({ cls := "TurnedLandModel", name := "turned", desc := "()I" } : Jvm.MethodName)) ∈ zAll := zAll_t7 77 rfl rfl
set_option maxRecDepth 20000 in
theorem zw_1519 : (Jvm.Cond.instanceMethod ({ cls := "TurnedLandModel", name := "turned", desc := "()I" } : Jvm.MethodName)) ∈ zAll := zAll_t7 79 rfl rfl
set_option maxRecDepth 20000 in
theorem zw_1520 : (Jvm.Cond.code ({ cls := "TurnedLandModel", name := "turned", desc := "()I" } : Jvm.MethodName) prog_14_method_85_code (3 : Nat) (Option.some Jvm.ClassFile.FieldType.int)) ∈ zAll := zAll_t7 80 rfl rfl
set_option maxRecDepth 20000 in
theorem zw_1521 : (Jvm.Cond.methodLink "TurnedLandModel" (290 : Nat) ({ cls := "TurnedLandModel", name := "agrees", desc := "(I)Z" } : Jvm.MethodName)) ∈ zAll := zAll_t7 81 rfl rfl
set_option maxRecDepth 20000 in
theorem zw_1523 : (Jvm.Cond.instanceMethod ({ cls := "TurnedLandModel", name := "agrees", desc := "(I)Z" } : Jvm.MethodName)) ∈ zAll := zAll_t7 83 rfl rfl
set_option maxRecDepth 20000 in
theorem zw_1524 : (Jvm.Cond.code ({ cls := "TurnedLandModel", name := "agrees", desc := "(I)Z" } : Jvm.MethodName) prog_14_method_87_code (5 : Nat) (Option.some Jvm.ClassFile.FieldType.boolean)) ∈ zAll := zAll_t7 84 rfl rfl
set_option maxRecDepth 20000 in
theorem zw_1525 : (Jvm.Cond.methodLink "TurnedLandModel" (293 : Nat) ({ cls := "TurnedLandModel", name := "oddOf", desc := "(I)I" } : Jvm.MethodName)) ∈ zAll := zAll_t7 85 rfl rfl
set_option maxRecDepth 20000 in
theorem zw_1527 : (Jvm.Cond.instanceMethod ({ cls := "TurnedLandModel", name := "oddOf", desc := "(I)I" } : Jvm.MethodName)) ∈ zAll := zAll_t7 87 rfl rfl
set_option maxRecDepth 20000 in
theorem zw_1528 : (Jvm.Cond.code ({ cls := "TurnedLandModel", name := "oddOf", desc := "(I)I" } : Jvm.MethodName) prog_14_method_84_code (7 : Nat) (Option.some Jvm.ClassFile.FieldType.int)) ∈ zAll := zAll_t7 88 rfl rfl
set_option maxRecDepth 20000 in
theorem zw_1532 : (Jvm.Cond.code ({ cls := "TurnedLandModel", name := "known", desc := "(I)I" } : Jvm.MethodName) prog_14_method_89_code (4 : Nat) (Option.some Jvm.ClassFile.FieldType.int)) ∈ zAll := zAll_t7 92 rfl rfl
set_option maxRecDepth 20000 in
theorem zw_1536 : (Jvm.Cond.code ({ cls := "TurnedLandModel", name := "test", desc := "()I" } : Jvm.MethodName) prog_14_method_90_code (7 : Nat) (Option.some Jvm.ClassFile.FieldType.int)) ∈ zAll := zAll_t7 96 rfl rfl
set_option maxRecDepth 20000 in
theorem zw_1540 : (Jvm.Cond.code ({ cls := "TurnedLandModel", name := "seed", desc := "(I)I" } : Jvm.MethodName) prog_14_method_91_code (2 : Nat) (Option.some Jvm.ClassFile.FieldType.int)) ∈ zAll := zAll_t7 100 rfl rfl
set_option maxRecDepth 20000 in
theorem zw_1544 : (Jvm.Cond.code ({ cls := "TurnedLandModel", name := "voice", desc := "(III)I" } : Jvm.MethodName) prog_14_method_97_code (5 : Nat) (Option.some Jvm.ClassFile.FieldType.int)) ∈ zAll := zAll_t7 104 rfl rfl
set_option maxRecDepth 20000 in
theorem zw_1545 : (Jvm.Cond.methodLink "TurnedLandModel" (320 : Nat) ({ cls := "TurnedLandModel", name := "voiced", desc := "(II)I" } : Jvm.MethodName)) ∈ zAll := zAll_t7 105 rfl rfl
set_option maxRecDepth 20000 in
theorem zw_1547 : (Jvm.Cond.instanceMethod ({ cls := "TurnedLandModel", name := "voiced", desc := "(II)I" } : Jvm.MethodName)) ∈ zAll := zAll_t7 107 rfl rfl
set_option maxRecDepth 20000 in
theorem zw_1548 : (Jvm.Cond.code ({ cls := "TurnedLandModel", name := "voiced", desc := "(II)I" } : Jvm.MethodName) prog_14_method_94_code (3 : Nat) (Option.some Jvm.ClassFile.FieldType.int)) ∈ zAll := zAll_t7 108 rfl rfl
set_option maxRecDepth 20000 in
theorem zw_1549 : (Jvm.Cond.methodLink "TurnedLandModel" (305 : Nat) ({ cls := "TurnedLandModel", name := "bodyFrom", desc := "(III)I" } : Jvm.MethodName)) ∈ zAll := zAll_t7 109 rfl rfl
set_option maxRecDepth 20000 in
theorem zw_1551 : (Jvm.Cond.instanceMethod ({ cls := "TurnedLandModel", name := "bodyFrom", desc := "(III)I" } : Jvm.MethodName)) ∈ zAll := zAll_t7 111 rfl rfl
set_option maxRecDepth 20000 in
theorem zw_1552 : (Jvm.Cond.code ({ cls := "TurnedLandModel", name := "bodyFrom", desc := "(III)I" } : Jvm.MethodName) prog_14_method_95_code (5 : Nat) (Option.some Jvm.ClassFile.FieldType.int)) ∈ zAll := zAll_t7 112 rfl rfl
set_option maxRecDepth 20000 in
theorem zw_1553 : (Jvm.Cond.methodLink "TurnedLandModel" (308 : Nat) ({ cls := "TurnedLandModel", name := "hasOwn", desc := "(II)Z" } : Jvm.MethodName)) ∈ zAll := zAll_t7 113 rfl rfl
set_option maxRecDepth 20000 in
theorem zw_1554 : (Jvm.Cond.static ({ cls := "TurnedLandModel", name := "hasOwn", desc := "(II)Z" } : Jvm.MethodName)) ∈ zAll := zAll_t7 114 rfl rfl
set_option maxRecDepth 20000 in
theorem zw_1555 : (Jvm.Cond.code ({ cls := "TurnedLandModel", name := "hasOwn", desc := "(II)Z" } : Jvm.MethodName) prog_14_method_93_code (2 : Nat) (Option.some Jvm.ClassFile.FieldType.boolean)) ∈ zAll := zAll_t7 115 rfl rfl
set_option maxRecDepth 20000 in
theorem zw_1556 : (Jvm.Cond.methodLink "TurnedLandModel" (314 : Nat) ({ cls := "TurnedLandModel", name := "body", desc := "(III)I" } : Jvm.MethodName)) ∈ zAll := zAll_t7 116 rfl rfl
set_option maxRecDepth 20000 in
theorem zw_1558 : (Jvm.Cond.instanceMethod ({ cls := "TurnedLandModel", name := "body", desc := "(III)I" } : Jvm.MethodName)) ∈ zAll := zAll_t7 118 rfl rfl
set_option maxRecDepth 20000 in
theorem zw_1559 : (Jvm.Cond.code ({ cls := "TurnedLandModel", name := "body", desc := "(III)I" } : Jvm.MethodName) prog_14_method_96_code (6 : Nat) (Option.some Jvm.ClassFile.FieldType.int)) ∈ zAll := zAll_t7 119 rfl rfl
set_option maxRecDepth 20000 in
theorem zw_1560 : (Jvm.Cond.methodLink "TurnedLandModel" (317 : Nat) ({ cls := "TurnedLandModel", name := "began", desc := "(I)V" } : Jvm.MethodName)) ∈ zAll := zAll_t7 120 rfl rfl
set_option maxRecDepth 20000 in
theorem zw_1562 : (Jvm.Cond.instanceMethod ({ cls := "TurnedLandModel", name := "began", desc := "(I)V" } : Jvm.MethodName)) ∈ zAll := zAll_t7 122 rfl rfl
set_option maxRecDepth 20000 in
theorem zw_1563 : (Jvm.Cond.code ({ cls := "TurnedLandModel", name := "began", desc := "(I)V" } : Jvm.MethodName) prog_14_method_92_code (2 : Nat) (Option.none : Option Jvm.ClassFile.FieldType)) ∈ zAll := zAll_t7 123 rfl rfl
set_option maxRecDepth 20000 in
theorem zw_1564 : (Jvm.Cond.constant "TurnedLandModel" (323 : Nat) (-1000006 : Int32)) ∈ zAll := zAll_t7 124 rfl rfl
set_option maxRecDepth 20000 in
theorem zw_1568 : (Jvm.Cond.code ({ cls := "TurnedLandModel", name := "body", desc := "(I)I" } : Jvm.MethodName) prog_14_method_98_code (2 : Nat) (Option.some Jvm.ClassFile.FieldType.int)) ∈ zAll := zAll_t7 128 rfl rfl
set_option maxRecDepth 20000 in
theorem zw_1572 : (Jvm.Cond.code ({ cls := "TurnedLandModel", name := "sheet", desc := "(III)I" } : Jvm.MethodName) prog_14_method_100_code (5 : Nat) (Option.some Jvm.ClassFile.FieldType.int)) ∈ zAll := zAll_t7 132 rfl rfl
set_option maxRecDepth 20000 in
theorem zw_1573 : (Jvm.Cond.methodLink "TurnedLandModel" (324 : Nat) ({ cls := "TurnedLandModel", name := "isSheet", desc := "(I)Z" } : Jvm.MethodName)) ∈ zAll := zAll_t7 133 rfl rfl
set_option maxRecDepth 20000 in
theorem zw_1574 : (Jvm.Cond.static ({ cls := "TurnedLandModel", name := "isSheet", desc := "(I)Z" } : Jvm.MethodName)) ∈ zAll := zAll_t7 134 rfl rfl
set_option maxRecDepth 20000 in
theorem zw_1575 : (Jvm.Cond.code ({ cls := "TurnedLandModel", name := "isSheet", desc := "(I)Z" } : Jvm.MethodName) prog_14_method_99_code (1 : Nat) (Option.some Jvm.ClassFile.FieldType.boolean)) ∈ zAll := zAll_t7 135 rfl rfl
set_option maxRecDepth 20000 in
theorem zw_1579 : (Jvm.Cond.code ({ cls := "TurnedLandModel", name := "put", desc := "(III)I" } : Jvm.MethodName) prog_14_method_101_code (4 : Nat) (Option.some Jvm.ClassFile.FieldType.int)) ∈ zAll := zAll_t7 139 rfl rfl
set_option maxRecDepth 20000 in
theorem zw_1583 : (Jvm.Cond.code ({ cls := "TurnedLandModel", name := "move", desc := "(IIIII)I" } : Jvm.MethodName) prog_14_method_102_code (7 : Nat) (Option.some Jvm.ClassFile.FieldType.int)) ∈ zAll := zAll_t7 143 rfl rfl
set_option maxRecDepth 20000 in
theorem zw_1587 : (Jvm.Cond.code ({ cls := "TurnedLandModel", name := "joins", desc := "(I)I" } : Jvm.MethodName) prog_14_method_103_code (5 : Nat) (Option.some Jvm.ClassFile.FieldType.int)) ∈ zAll := zAll_t7 147 rfl rfl
set_option maxRecDepth 20000 in
theorem zw_1591 : (Jvm.Cond.code ({ cls := "TurnedLandModel", name := "image", desc := "()I" } : Jvm.MethodName) prog_14_method_104_code (1 : Nat) (Option.some Jvm.ClassFile.FieldType.int)) ∈ zAll := zAll_t7 151 rfl rfl
set_option maxRecDepth 20000 in
theorem zw_1592 : (Jvm.Cond.methodLink "TurnedLandModel" (327 : Nat) ({ cls := "TurnedLandModel", name := "copy", desc := "([I[I)V" } : Jvm.MethodName)) ∈ zAll := zAll_t7 152 rfl rfl
set_option maxRecDepth 20000 in
theorem zw_1593 : (Jvm.Cond.static ({ cls := "TurnedLandModel", name := "copy", desc := "([I[I)V" } : Jvm.MethodName)) ∈ zAll := zAll_t7 153 rfl rfl
set_option maxRecDepth 20000 in
theorem zw_1594 : (Jvm.Cond.code ({ cls := "TurnedLandModel", name := "copy", desc := "([I[I)V" } : Jvm.MethodName) prog_14_method_7_code (3 : Nat) (Option.none : Option Jvm.ClassFile.FieldType)) ∈ zAll := zAll_t7 154 rfl rfl
set_option maxRecDepth 20000 in
theorem zw_1598 : (Jvm.Cond.code ({ cls := "TurnedLandModel", name := "restore", desc := "()I" } : Jvm.MethodName) prog_14_method_105_code (1 : Nat) (Option.some Jvm.ClassFile.FieldType.int)) ∈ zAll := zAll_t7 158 rfl rfl
set_option maxRecDepth 20000 in
theorem zw_1602 : (Jvm.Cond.code ({ cls := "TurnedLandModel", name := "tell", desc := "(I)I" } : Jvm.MethodName) prog_14_method_106_code (2 : Nat) (Option.some Jvm.ClassFile.FieldType.int)) ∈ zAll := zAll_t7 162 rfl rfl
set_option maxRecDepth 20000 in
theorem zw_1606 : (Jvm.Cond.code ({ cls := "TurnedLandModel", name := "check", desc := "(I)I" } : Jvm.MethodName) prog_14_method_107_code (6 : Nat) (Option.some Jvm.ClassFile.FieldType.int)) ∈ zAll := zAll_t7 166 rfl rfl
set_option maxRecDepth 20000 in
theorem zw_1610 : (Jvm.Cond.code ({ cls := "TurnedLandModel", name := "count", desc := "(I)I" } : Jvm.MethodName) prog_14_method_108_code (2 : Nat) (Option.some Jvm.ClassFile.FieldType.int)) ∈ zAll := zAll_t7 170 rfl rfl
set_option maxRecDepth 20000 in
theorem zw_1614 : (Jvm.Cond.code ({ cls := "TurnedLandModel", name := "told", desc := "(I)I" } : Jvm.MethodName) prog_14_method_109_code (2 : Nat) (Option.some Jvm.ClassFile.FieldType.int)) ∈ zAll := zAll_t7 174 rfl rfl
set_option maxRecDepth 20000 in
theorem zw_1616 : (Jvm.Cond.fieldLink "java/lang/String" (9 : Nat) "java/lang/String" "value" "[B") ∈ zAll := zAll_t7 176 rfl rfl
set_option maxRecDepth 20000 in
theorem zw_1617 : (Jvm.Cond.fieldLink "java/lang/String" (15 : Nat) "java/lang/String" "coder" "B") ∈ zAll := zAll_t7 177 rfl rfl
set_option maxRecDepth 20000 in
theorem zv_0 : Cond.selects "TurnedLand" ⟨"TurnedLand", "refuse", "(I)I"⟩ ⟨"TurnedLand", "refuse", "(I)I"⟩ ∈ zAll := zAll_p 0 rfl rfl
set_option maxRecDepth 20000 in
theorem zv_1 : Cond.selects "TurnedLand$Shape" ⟨"TurnedLand$Shape", "makeCornersOne", "(LTurnedLand$Ground;)V"⟩ ⟨"TurnedLand$Shape", "makeCornersOne", "(LTurnedLand$Ground;)V"⟩ ∈ zAll := zAll_p 1 rfl rfl
set_option maxRecDepth 20000 in
theorem zv_2 : Cond.selects "TurnedLand$Shape" ⟨"TurnedLand$Shape", "begin", "(I)V"⟩ ⟨"TurnedLand$Shape", "begin", "(I)V"⟩ ∈ zAll := zAll_p 2 rfl rfl
set_option maxRecDepth 20000 in
theorem zv_3 : Cond.selects "TurnedLand$Shape" ⟨"TurnedLand$Shape", "makeOne", "(III)V"⟩ ⟨"TurnedLand$Shape", "makeOne", "(III)V"⟩ ∈ zAll := zAll_p 3 rfl rfl
set_option maxRecDepth 20000 in
theorem zv_4 : Cond.selects "TurnedLand$Shape" ⟨"TurnedLand$Shape", "labelsLeft", "(I)I"⟩ ⟨"TurnedLand$Shape", "labelsLeft", "(I)I"⟩ ∈ zAll := zAll_p 4 rfl rfl
set_option maxRecDepth 20000 in
theorem zv_5 : Cond.selects "TurnedLand$Shape" ⟨"TurnedLand$Shape", "hangsTogether", "(LTurnedLand$Ground;I)Z"⟩ ⟨"TurnedLand$Shape", "hangsTogether", "(LTurnedLand$Ground;I)Z"⟩ ∈ zAll := zAll_p 5 rfl rfl
set_option maxRecDepth 20000 in
theorem zv_6 : Cond.selects "TurnedLand$Reader" ⟨"TurnedLand$Reader", "readOr", "(I)Z"⟩ ⟨"TurnedLand$Reader", "readOr", "(I)Z"⟩ ∈ zAll := zAll_p 6 rfl rfl
set_option maxRecDepth 20000 in
theorem zv_7 : Cond.selects "TurnedLand$Reader" ⟨"TurnedLand$Reader", "readAnd", "(I)Z"⟩ ⟨"TurnedLand$Reader", "readAnd", "(I)Z"⟩ ∈ zAll := zAll_p 7 rfl rfl
set_option maxRecDepth 20000 in
theorem zv_8 : Cond.selects "TurnedLand$Reader" ⟨"TurnedLand$Reader", "readCompared", "(I)Z"⟩ ⟨"TurnedLand$Reader", "readCompared", "(I)Z"⟩ ∈ zAll := zAll_p 8 rfl rfl
set_option maxRecDepth 20000 in
theorem zv_9 : Cond.selects "TurnedLand$Reader" ⟨"TurnedLand$Reader", "readSum", "(I)Z"⟩ ⟨"TurnedLand$Reader", "readSum", "(I)Z"⟩ ∈ zAll := zAll_p 9 rfl rfl
set_option maxRecDepth 20000 in
theorem zv_10 : Cond.selects "TurnedLand$Reader" ⟨"TurnedLand$Reader", "readProduct", "(I)Z"⟩ ⟨"TurnedLand$Reader", "readProduct", "(I)Z"⟩ ∈ zAll := zAll_p 10 rfl rfl
set_option maxRecDepth 20000 in
theorem zv_11 : Cond.selects "TurnedLand$Reader" ⟨"TurnedLand$Reader", "readSingle", "(I)Z"⟩ ⟨"TurnedLand$Reader", "readSingle", "(I)Z"⟩ ∈ zAll := zAll_p 11 rfl rfl
set_option maxRecDepth 20000 in
theorem zv_12 : Cond.selects "TurnedLand$Reader" ⟨"TurnedLand$Reader", "next", "()I"⟩ ⟨"TurnedLand$Reader", "next", "()I"⟩ ∈ zAll := zAll_p 12 rfl rfl
set_option maxRecDepth 20000 in
theorem zv_13 : Cond.selects "TurnedLand$Reader" ⟨"TurnedLand$Reader", "readNumber", "()Z"⟩ ⟨"TurnedLand$Reader", "readNumber", "()Z"⟩ ∈ zAll := zAll_p 13 rfl rfl
set_option maxRecDepth 20000 in
theorem zv_14 : Cond.selects "TurnedLand$Reader" ⟨"TurnedLand$Reader", "write", "(II)V"⟩ ⟨"TurnedLand$Reader", "write", "(II)V"⟩ ∈ zAll := zAll_p 14 rfl rfl
set_option maxRecDepth 20000 in
theorem zv_15 : Cond.selects "TurnedLand$Reader" ⟨"TurnedLand$Reader", "readName", "(I)Z"⟩ ⟨"TurnedLand$Reader", "readName", "(I)Z"⟩ ∈ zAll := zAll_p 15 rfl rfl
set_option maxRecDepth 20000 in
theorem zv_16 : Cond.selects "TurnedLand" ⟨"TurnedLand", "textOf", "(I)LTurnedLand$Text;"⟩ ⟨"TurnedLand", "textOf", "(I)LTurnedLand$Text;"⟩ ∈ zAll := zAll_p 16 rfl rfl
set_option maxRecDepth 20000 in
theorem zv_17 : Cond.selects "TurnedLand$Text" ⟨"TurnedLand$Text", "valueAt", "(I)I"⟩ ⟨"TurnedLand$Text", "valueAt", "(I)I"⟩ ∈ zAll := zAll_p 17 rfl rfl
set_option maxRecDepth 20000 in
theorem zv_18 : Cond.selects "TurnedLand$Ways" ⟨"TurnedLand$Ways", "nearest", "(I)I"⟩ ⟨"TurnedLand$Ways", "nearest", "(I)I"⟩ ∈ zAll := zAll_p 18 rfl rfl
set_option maxRecDepth 20000 in
theorem zv_19 : Cond.selects "TurnedLand$Ways" ⟨"TurnedLand$Ways", "comeTo", "(III)V"⟩ ⟨"TurnedLand$Ways", "comeTo", "(III)V"⟩ ∈ zAll := zAll_p 19 rfl rfl
set_option maxRecDepth 20000 in
theorem zv_20 : Cond.selects "TurnedLand$Walker" ⟨"TurnedLand$Walker", "seen", "()I"⟩ ⟨"TurnedLand$Walker", "seen", "()I"⟩ ∈ zAll := zAll_p 20 rfl rfl
set_option maxRecDepth 20000 in
theorem zv_21 : Cond.selects "TurnedLand" ⟨"TurnedLand", "meetingPlace", "(II)I"⟩ ⟨"TurnedLand", "meetingPlace", "(II)I"⟩ ∈ zAll := zAll_p 21 rfl rfl
set_option maxRecDepth 20000 in
theorem zv_22 : Cond.selects "TurnedLand$Doubts" ⟨"TurnedLand$Doubts", "areSo", "(I)Z"⟩ ⟨"TurnedLand$Doubts", "areSo", "(I)Z"⟩ ∈ zAll := zAll_p 22 rfl rfl
set_option maxRecDepth 20000 in
theorem zv_23 : Cond.selects "TurnedLand$Doubts" ⟨"TurnedLand$Doubts", "countIn", "(LTurnedLand$World;I)V"⟩ ⟨"TurnedLand$Doubts", "countIn", "(LTurnedLand$World;I)V"⟩ ∈ zAll := zAll_p 23 rfl rfl
set_option maxRecDepth 20000 in
theorem zv_24 : Cond.selects "TurnedLand$Voices" ⟨"TurnedLand$Voices", "say", "(IIII)I"⟩ ⟨"TurnedLand$Voices", "say", "(IIII)I"⟩ ∈ zAll := zAll_p 24 rfl rfl
set_option maxRecDepth 20000 in
theorem zv_25 : Cond.selects "TurnedLand$Voices" ⟨"TurnedLand$Voices", "begin", "(I)V"⟩ ⟨"TurnedLand$Voices", "begin", "(I)V"⟩ ∈ zAll := zAll_p 25 rfl rfl
set_option maxRecDepth 20000 in
theorem zv_26 : Cond.selects "TurnedLand$Voices" ⟨"TurnedLand$Voices", "work", "(IIII)I"⟩ ⟨"TurnedLand$Voices", "work", "(IIII)I"⟩ ∈ zAll := zAll_p 26 rfl rfl
set_option maxRecDepth 20000 in
theorem zv_27 : Cond.selects "TurnedLand$Voices" ⟨"TurnedLand$Voices", "divide", "(I)I"⟩ ⟨"TurnedLand$Voices", "divide", "(I)I"⟩ ∈ zAll := zAll_p 27 rfl rfl
set_option maxRecDepth 20000 in
theorem zv_28 : Cond.selects "TurnedLand$Voices" ⟨"TurnedLand$Voices", "endsRound", "(III)I"⟩ ⟨"TurnedLand$Voices", "endsRound", "(III)I"⟩ ∈ zAll := zAll_p 28 rfl rfl
set_option maxRecDepth 20000 in
theorem zv_29 : Cond.selects "TurnedLand$Voices" ⟨"TurnedLand$Voices", "endsWhole", "(III)I"⟩ ⟨"TurnedLand$Voices", "endsWhole", "(III)I"⟩ ∈ zAll := zAll_p 29 rfl rfl
set_option maxRecDepth 20000 in
theorem zv_30 : Cond.selects "TurnedLand" ⟨"TurnedLand", "standThere", "(III)Z"⟩ ⟨"TurnedLand", "standThere", "(III)Z"⟩ ∈ zAll := zAll_p 30 rfl rfl
set_option maxRecDepth 20000 in
theorem zv_31 : Cond.selects "TurnedLandModel" ⟨"TurnedLandModel", "finding", "(I)I"⟩ ⟨"TurnedLandModel", "finding", "(I)I"⟩ ∈ zAll := zAll_p 31 rfl rfl
set_option maxRecDepth 20000 in
theorem zv_32 : Cond.selects "TurnedLandModel" ⟨"TurnedLandModel", "is", "(II)Z"⟩ ⟨"TurnedLandModel", "is", "(II)Z"⟩ ∈ zAll := zAll_p 32 rfl rfl
set_option maxRecDepth 20000 in
theorem zv_33 : Cond.selects "TurnedLandModel" ⟨"TurnedLandModel", "become", "(II)I"⟩ ⟨"TurnedLandModel", "become", "(II)I"⟩ ∈ zAll := zAll_p 33 rfl rfl
set_option maxRecDepth 20000 in
theorem zv_34 : Cond.selects "TurnedLandModel" ⟨"TurnedLandModel", "whyNot", "(III)I"⟩ ⟨"TurnedLandModel", "whyNot", "(III)I"⟩ ∈ zAll := zAll_p 34 rfl rfl
set_option maxRecDepth 20000 in
theorem zv_35 : Cond.selects "TurnedLandModel" ⟨"TurnedLandModel", "isEdge", "(I)Z"⟩ ⟨"TurnedLandModel", "isEdge", "(I)Z"⟩ ∈ zAll := zAll_p 35 rfl rfl
set_option maxRecDepth 20000 in
theorem zv_36 : Cond.selects "TurnedLandModel" ⟨"TurnedLandModel", "joinAt", "(I)I"⟩ ⟨"TurnedLandModel", "joinAt", "(I)I"⟩ ∈ zAll := zAll_p 36 rfl rfl
set_option maxRecDepth 20000 in
theorem zv_37 : Cond.selects "TurnedLandModel" ⟨"TurnedLandModel", "joinOf", "(II)I"⟩ ⟨"TurnedLandModel", "joinOf", "(II)I"⟩ ∈ zAll := zAll_p 37 rfl rfl
set_option maxRecDepth 20000 in
theorem zv_38 : Cond.selects "TurnedLandModel" ⟨"TurnedLandModel", "joined", "(III)I"⟩ ⟨"TurnedLandModel", "joined", "(III)I"⟩ ∈ zAll := zAll_p 38 rfl rfl
set_option maxRecDepth 20000 in
theorem zv_39 : Cond.selects "TurnedLandModel" ⟨"TurnedLandModel", "otherOf", "(II)I"⟩ ⟨"TurnedLandModel", "otherOf", "(II)I"⟩ ∈ zAll := zAll_p 39 rfl rfl
set_option maxRecDepth 20000 in
theorem zv_40 : Cond.selects "TurnedLandModel" ⟨"TurnedLandModel", "cornersNow", "()I"⟩ ⟨"TurnedLandModel", "cornersNow", "()I"⟩ ∈ zAll := zAll_p 40 rfl rfl
set_option maxRecDepth 20000 in
theorem zv_41 : Cond.selects "TurnedLandModel" ⟨"TurnedLandModel", "findCorners", "()V"⟩ ⟨"TurnedLandModel", "findCorners", "()V"⟩ ∈ zAll := zAll_p 41 rfl rfl
set_option maxRecDepth 20000 in
theorem zv_42 : Cond.selects "TurnedLandModel" ⟨"TurnedLandModel", "oneOf", "(II)V"⟩ ⟨"TurnedLandModel", "oneOf", "(II)V"⟩ ∈ zAll := zAll_p 42 rfl rfl
set_option maxRecDepth 20000 in
theorem zv_43 : Cond.selects "TurnedLandModel" ⟨"TurnedLandModel", "parts", "()I"⟩ ⟨"TurnedLandModel", "parts", "()I"⟩ ∈ zAll := zAll_p 43 rfl rfl
set_option maxRecDepth 20000 in
theorem zv_44 : Cond.selects "TurnedLandModel" ⟨"TurnedLandModel", "reachedBut", "(III)I"⟩ ⟨"TurnedLandModel", "reachedBut", "(III)I"⟩ ∈ zAll := zAll_p 44 rfl rfl
set_option maxRecDepth 20000 in
theorem zv_45 : Cond.selects "TurnedLandModel" ⟨"TurnedLandModel", "crossed", "(II)I"⟩ ⟨"TurnedLandModel", "crossed", "(II)I"⟩ ∈ zAll := zAll_p 45 rfl rfl
set_option maxRecDepth 20000 in
theorem zv_46 : Cond.selects "TurnedLandModel" ⟨"TurnedLandModel", "rims", "()I"⟩ ⟨"TurnedLandModel", "rims", "()I"⟩ ∈ zAll := zAll_p 46 rfl rfl
set_option maxRecDepth 20000 in
theorem zv_47 : Cond.selects "TurnedLandModel" ⟨"TurnedLandModel", "comesTurned", "(II)Z"⟩ ⟨"TurnedLandModel", "comesTurned", "(II)Z"⟩ ∈ zAll := zAll_p 47 rfl rfl
set_option maxRecDepth 20000 in
theorem zv_48 : Cond.selects "TurnedLandModel" ⟨"TurnedLandModel", "either", "()V"⟩ ⟨"TurnedLandModel", "either", "()V"⟩ ∈ zAll := zAll_p 48 rfl rfl
set_option maxRecDepth 20000 in
theorem zv_49 : Cond.selects "TurnedLandModel" ⟨"TurnedLandModel", "both", "()V"⟩ ⟨"TurnedLandModel", "both", "()V"⟩ ∈ zAll := zAll_p 49 rfl rfl
set_option maxRecDepth 20000 in
theorem zv_50 : Cond.selects "TurnedLandModel" ⟨"TurnedLandModel", "compared", "()V"⟩ ⟨"TurnedLandModel", "compared", "()V"⟩ ∈ zAll := zAll_p 50 rfl rfl
set_option maxRecDepth 20000 in
theorem zv_51 : Cond.selects "TurnedLandModel" ⟨"TurnedLandModel", "sum", "()V"⟩ ⟨"TurnedLandModel", "sum", "()V"⟩ ∈ zAll := zAll_p 51 rfl rfl
set_option maxRecDepth 20000 in
theorem zv_52 : Cond.selects "TurnedLandModel" ⟨"TurnedLandModel", "product", "()V"⟩ ⟨"TurnedLandModel", "product", "()V"⟩ ∈ zAll := zAll_p 52 rfl rfl
set_option maxRecDepth 20000 in
theorem zv_53 : Cond.selects "TurnedLandModel" ⟨"TurnedLandModel", "one", "()V"⟩ ⟨"TurnedLandModel", "one", "()V"⟩ ∈ zAll := zAll_p 53 rfl rfl
set_option maxRecDepth 20000 in
theorem zv_54 : Cond.selects "TurnedLandModel" ⟨"TurnedLandModel", "here", "()I"⟩ ⟨"TurnedLandModel", "here", "()I"⟩ ∈ zAll := zAll_p 54 rfl rfl
set_option maxRecDepth 20000 in
theorem zv_55 : Cond.selects "TurnedLandModel" ⟨"TurnedLandModel", "codes", "(I)V"⟩ ⟨"TurnedLandModel", "codes", "(I)V"⟩ ∈ zAll := zAll_p 55 rfl rfl
set_option maxRecDepth 20000 in
theorem zv_56 : Cond.selects "TurnedLandModel" ⟨"TurnedLandModel", "takes", "(I)Z"⟩ ⟨"TurnedLandModel", "takes", "(I)Z"⟩ ∈ zAll := zAll_p 56 rfl rfl
set_option maxRecDepth 20000 in
theorem zv_57 : Cond.selects "TurnedLandModel" ⟨"TurnedLandModel", "nameOf", "(I)I"⟩ ⟨"TurnedLandModel", "nameOf", "(I)I"⟩ ∈ zAll := zAll_p 57 rfl rfl
set_option maxRecDepth 20000 in
theorem zv_58 : Cond.selects "TurnedLandModel" ⟨"TurnedLandModel", "isPlace", "(I)Z"⟩ ⟨"TurnedLandModel", "isPlace", "(I)Z"⟩ ∈ zAll := zAll_p 58 rfl rfl
set_option maxRecDepth 20000 in
theorem zv_59 : Cond.selects "TurnedLandModel" ⟨"TurnedLandModel", "soonestOf", "(II)I"⟩ ⟨"TurnedLandModel", "soonestOf", "(II)I"⟩ ∈ zAll := zAll_p 59 rfl rfl
set_option maxRecDepth 20000 in
theorem zv_60 : Cond.selects "TurnedLandModel" ⟨"TurnedLandModel", "findSoonest", "(I)V"⟩ ⟨"TurnedLandModel", "findSoonest", "(I)V"⟩ ∈ zAll := zAll_p 60 rfl rfl
set_option maxRecDepth 20000 in
theorem zv_61 : Cond.selects "TurnedLandModel" ⟨"TurnedLandModel", "crosses", "(II)Z"⟩ ⟨"TurnedLandModel", "crosses", "(II)Z"⟩ ∈ zAll := zAll_p 61 rfl rfl
set_option maxRecDepth 20000 in
theorem zv_62 : Cond.selects "TurnedLandModel" ⟨"TurnedLandModel", "given", "(IIIII)I"⟩ ⟨"TurnedLandModel", "given", "(IIIII)I"⟩ ∈ zAll := zAll_p 62 rfl rfl
set_option maxRecDepth 20000 in
theorem zv_63 : Cond.selects "TurnedLandModel" ⟨"TurnedLandModel", "worked", "(I)I"⟩ ⟨"TurnedLandModel", "worked", "(I)I"⟩ ∈ zAll := zAll_p 63 rfl rfl
set_option maxRecDepth 20000 in
theorem zv_64 : Cond.selects "TurnedLandModel" ⟨"TurnedLandModel", "leads", "(IIII)Z"⟩ ⟨"TurnedLandModel", "leads", "(IIII)Z"⟩ ∈ zAll := zAll_p 64 rfl rfl
set_option maxRecDepth 20000 in
theorem zv_65 : Cond.selects "TurnedLandModel" ⟨"TurnedLandModel", "walkOf", "(II)I"⟩ ⟨"TurnedLandModel", "walkOf", "(II)I"⟩ ∈ zAll := zAll_p 65 rfl rfl
set_option maxRecDepth 20000 in
theorem zv_66 : Cond.selects "TurnedLandModel" ⟨"TurnedLandModel", "isSo", "(I)Z"⟩ ⟨"TurnedLandModel", "isSo", "(I)Z"⟩ ∈ zAll := zAll_p 66 rfl rfl
set_option maxRecDepth 20000 in
theorem zv_67 : Cond.selects "TurnedLandModel" ⟨"TurnedLandModel", "goes", "(II)Z"⟩ ⟨"TurnedLandModel", "goes", "(II)Z"⟩ ∈ zAll := zAll_p 67 rfl rfl
set_option maxRecDepth 20000 in
theorem zv_68 : Cond.selects "TurnedLandModel" ⟨"TurnedLandModel", "goesOver", "(II)Z"⟩ ⟨"TurnedLandModel", "goesOver", "(II)Z"⟩ ∈ zAll := zAll_p 68 rfl rfl
set_option maxRecDepth 20000 in
theorem zv_69 : Cond.selects "TurnedLandModel" ⟨"TurnedLandModel", "whereIs", "(I)I"⟩ ⟨"TurnedLandModel", "whereIs", "(I)I"⟩ ∈ zAll := zAll_p 69 rfl rfl
set_option maxRecDepth 20000 in
theorem zv_70 : Cond.selects "TurnedLandModel" ⟨"TurnedLandModel", "drawn", "(I)I"⟩ ⟨"TurnedLandModel", "drawn", "(I)I"⟩ ∈ zAll := zAll_p 70 rfl rfl
set_option maxRecDepth 20000 in
theorem zv_71 : Cond.selects "TurnedLandModel" ⟨"TurnedLandModel", "thingOf", "(II)I"⟩ ⟨"TurnedLandModel", "thingOf", "(II)I"⟩ ∈ zAll := zAll_p 71 rfl rfl
set_option maxRecDepth 20000 in
theorem zv_72 : Cond.selects "TurnedLandModel" ⟨"TurnedLandModel", "priceOf", "(III)I"⟩ ⟨"TurnedLandModel", "priceOf", "(III)I"⟩ ∈ zAll := zAll_p 72 rfl rfl
set_option maxRecDepth 20000 in
theorem zv_73 : Cond.selects "TurnedLandModel" ⟨"TurnedLandModel", "findWays", "()V"⟩ ⟨"TurnedLandModel", "findWays", "()V"⟩ ∈ zAll := zAll_p 73 rfl rfl
set_option maxRecDepth 20000 in
theorem zv_74 : Cond.selects "TurnedLandModel" ⟨"TurnedLandModel", "turned", "()I"⟩ ⟨"TurnedLandModel", "turned", "()I"⟩ ∈ zAll := zAll_p 74 rfl rfl
set_option maxRecDepth 20000 in
theorem zv_75 : Cond.selects "TurnedLandModel" ⟨"TurnedLandModel", "agrees", "(I)Z"⟩ ⟨"TurnedLandModel", "agrees", "(I)Z"⟩ ∈ zAll := zAll_p 75 rfl rfl
set_option maxRecDepth 20000 in
theorem zv_76 : Cond.selects "TurnedLandModel" ⟨"TurnedLandModel", "oddOf", "(I)I"⟩ ⟨"TurnedLandModel", "oddOf", "(I)I"⟩ ∈ zAll := zAll_p 76 rfl rfl
set_option maxRecDepth 20000 in
theorem zv_77 : Cond.selects "TurnedLandModel" ⟨"TurnedLandModel", "voiced", "(II)I"⟩ ⟨"TurnedLandModel", "voiced", "(II)I"⟩ ∈ zAll := zAll_p 77 rfl rfl
set_option maxRecDepth 20000 in
theorem zv_78 : Cond.selects "TurnedLandModel" ⟨"TurnedLandModel", "bodyFrom", "(III)I"⟩ ⟨"TurnedLandModel", "bodyFrom", "(III)I"⟩ ∈ zAll := zAll_p 78 rfl rfl
set_option maxRecDepth 20000 in
theorem zv_79 : Cond.selects "TurnedLandModel" ⟨"TurnedLandModel", "body", "(III)I"⟩ ⟨"TurnedLandModel", "body", "(III)I"⟩ ∈ zAll := zAll_p 79 rfl rfl
set_option maxRecDepth 20000 in
theorem zv_80 : Cond.selects "TurnedLandModel" ⟨"TurnedLandModel", "began", "(I)V"⟩ ⟨"TurnedLandModel", "began", "(I)V"⟩ ∈ zAll := zAll_p 80 rfl rfl
theorem zacw : Cond.native arraycopyName ∈ zAll ∧ Cond.static arraycopyName ∈ zAll ∧ Cond.initialized "java/lang/System" ∈ zAll := ⟨zw_565, zw_564, zw_17⟩
theorem kI_m1 : Int32.ofInt (-1) = -1 := by decide
theorem kI_0 : Int32.ofInt (0) = 0 := by decide
theorem kI_1 : Int32.ofInt (1) = 1 := by decide
theorem kI_2 : Int32.ofInt (2) = 2 := by decide
theorem kI_3 : Int32.ofInt (3) = 3 := by decide
theorem kI_4 : Int32.ofInt (4) = 4 := by decide
theorem kI_5 : Int32.ofInt (5) = 5 := by decide
theorem kB_m10 : (Int8.ofInt (-10)).toInt32 = -10 := by decide
theorem kB_6 : (Int8.ofInt (6)).toInt32 = 6 := by decide
theorem kB_7 : (Int8.ofInt (7)).toInt32 = 7 := by decide
theorem kB_8 : (Int8.ofInt (8)).toInt32 = 8 := by decide
theorem kB_9 : (Int8.ofInt (9)).toInt32 = 9 := by decide
theorem kB_10 : (Int8.ofInt (10)).toInt32 = 10 := by decide
theorem kB_11 : (Int8.ofInt (11)).toInt32 = 11 := by decide
theorem kB_12 : (Int8.ofInt (12)).toInt32 = 12 := by decide
theorem kB_13 : (Int8.ofInt (13)).toInt32 = 13 := by decide
theorem kB_16 : (Int8.ofInt (16)).toInt32 = 16 := by decide
theorem kB_18 : (Int8.ofInt (18)).toInt32 = 18 := by decide
theorem kB_20 : (Int8.ofInt (20)).toInt32 = 20 := by decide
theorem kB_21 : (Int8.ofInt (21)).toInt32 = 21 := by decide
theorem kB_24 : (Int8.ofInt (24)).toInt32 = 24 := by decide
theorem kB_30 : (Int8.ofInt (30)).toInt32 = 30 := by decide
theorem kB_32 : (Int8.ofInt (32)).toInt32 = 32 := by decide
theorem kB_33 : (Int8.ofInt (33)).toInt32 = 33 := by decide
theorem kB_37 : (Int8.ofInt (37)).toInt32 = 37 := by decide
theorem kB_38 : (Int8.ofInt (38)).toInt32 = 38 := by decide
theorem kB_40 : (Int8.ofInt (40)).toInt32 = 40 := by decide
theorem kB_41 : (Int8.ofInt (41)).toInt32 = 41 := by decide
theorem kB_42 : (Int8.ofInt (42)).toInt32 = 42 := by decide
theorem kB_43 : (Int8.ofInt (43)).toInt32 = 43 := by decide
theorem kB_45 : (Int8.ofInt (45)).toInt32 = 45 := by decide
theorem kB_47 : (Int8.ofInt (47)).toInt32 = 47 := by decide
theorem kB_48 : (Int8.ofInt (48)).toInt32 = 48 := by decide
theorem kB_50 : (Int8.ofInt (50)).toInt32 = 50 := by decide
theorem kB_57 : (Int8.ofInt (57)).toInt32 = 57 := by decide
theorem kB_60 : (Int8.ofInt (60)).toInt32 = 60 := by decide
theorem kB_61 : (Int8.ofInt (61)).toInt32 = 61 := by decide
theorem kB_62 : (Int8.ofInt (62)).toInt32 = 62 := by decide
theorem kB_63 : (Int8.ofInt (63)).toInt32 = 63 := by decide
theorem kB_66 : (Int8.ofInt (66)).toInt32 = 66 := by decide
theorem kB_70 : (Int8.ofInt (70)).toInt32 = 70 := by decide
theorem kB_71 : (Int8.ofInt (71)).toInt32 = 71 := by decide
theorem kB_99 : (Int8.ofInt (99)).toInt32 = 99 := by decide
theorem kB_124 : (Int8.ofInt (124)).toInt32 = 124 := by decide
theorem kS_186 : (Int16.ofInt (186)).toInt32 = 186 := by decide
theorem kS_198 : (Int16.ofInt (198)).toInt32 = 198 := by decide
theorem kS_216 : (Int16.ofInt (216)).toInt32 = 216 := by decide
theorem kS_240 : (Int16.ofInt (240)).toInt32 = 240 := by decide
theorem kS_255 : (Int16.ofInt (255)).toInt32 = 255 := by decide
theorem kS_300 : (Int16.ofInt (300)).toInt32 = 300 := by decide
theorem kS_324 : (Int16.ofInt (324)).toInt32 = 324 := by decide
theorem kS_448 : (Int16.ofInt (448)).toInt32 = 448 := by decide
theorem kS_999 : (Int16.ofInt (999)).toInt32 = 999 := by decide
theorem kS_9999 : (Int16.ofInt (9999)).toInt32 = 9999 := by decide
theorem kS_10000 : (Int16.ofInt (10000)).toInt32 = 10000 := by decide
theorem kS_12345 : (Int16.ofInt (12345)).toInt32 = 12345 := by decide
theorem kS_20000 : (Int16.ofInt (20000)).toInt32 = 20000 := by decide
theorem kS_20001 : (Int16.ofInt (20001)).toInt32 = 20001 := by decide
theorem kS_20002 : (Int16.ofInt (20002)).toInt32 = 20002 := by decide
theorem kS_20003 : (Int16.ofInt (20003)).toInt32 = 20003 := by decide
theorem kS_20004 : (Int16.ofInt (20004)).toInt32 = 20004 := by decide
theorem kS_20005 : (Int16.ofInt (20005)).toInt32 = 20005 := by decide
theorem kS_20006 : (Int16.ofInt (20006)).toInt32 = 20006 := by decide
theorem kS_20007 : (Int16.ofInt (20007)).toInt32 = 20007 := by decide
theorem kS_20008 : (Int16.ofInt (20008)).toInt32 = 20008 := by decide
theorem kS_20009 : (Int16.ofInt (20009)).toInt32 = 20009 := by decide
theorem kS_20010 : (Int16.ofInt (20010)).toInt32 = 20010 := by decide
theorem zcl_0 : zCl[0]? = some (zCn_0, zT_0, 8) := rfl
theorem zcl_1 : zCl[1]? = some (zCn_1, zT_1, 7) := rfl
theorem zcl_2 : zCl[2]? = some (zCn_2, zT_2, 6) := rfl
theorem zcl_3 : zCl[3]? = some (zCn_3, zT_3, 7) := rfl
theorem zcl_4 : zCl[4]? = some (zCn_4, zT_4, 2) := rfl
theorem zcl_5 : zCl[5]? = some (zCn_5, zT_5, 6) := rfl
theorem zcl_6 : zCl[6]? = some (zCn_6, zT_6, 6) := rfl
theorem zcl_7 : zCl[7]? = some (zCn_7, zT_7, 2) := rfl
theorem zcl_8 : zCl[8]? = some (zCn_8, zT_8, 6) := rfl
theorem zcl_9 : zCl[9]? = some (zCn_9, zT_9, 5) := rfl
theorem zcl_10 : zCl[10]? = some (zCn_10, zT_10, 11) := rfl
theorem zcl_11 : zCl[11]? = some (zCn_11, zT_11, 13) := rfl
theorem zcl_12 : zCl[12]? = some (zCn_12, zT_12, 32) := rfl
theorem zl_Doubts_102 : zLkF "TurnedLand$Doubts" 102 2 2 := ⟨_, zcl_2, by decide, zw_55⟩
theorem zl_Doubts_15 : zLkF "TurnedLand$Doubts" 15 0 1 := ⟨_, zcl_0, by decide, zw_164⟩
theorem zl_Doubts_18 : zLkF "TurnedLand$Doubts" 18 0 2 := ⟨_, zcl_0, by decide, zw_166⟩
theorem zl_Doubts_22 : zLkF "TurnedLand$Doubts" 22 0 3 := ⟨_, zcl_0, by decide, zw_168⟩
theorem zl_Doubts_25 : zLkF "TurnedLand$Doubts" 25 0 4 := ⟨_, zcl_0, by decide, zw_170⟩
theorem zl_Doubts_28 : zLkF "TurnedLand$Doubts" 28 0 5 := ⟨_, zcl_0, by decide, zw_172⟩
theorem zl_Doubts_31 : zLkF "TurnedLand$Doubts" 31 0 6 := ⟨_, zcl_0, by decide, zw_174⟩
theorem zl_Doubts_34 : zLkF "TurnedLand$Doubts" 34 0 7 := ⟨_, zcl_0, by decide, zw_175⟩
theorem zl_Doubts_43 : zLkF "TurnedLand$Doubts" 43 10 1 := ⟨_, zcl_10, by decide, zw_227⟩
theorem zl_Doubts_49 : zLkF "TurnedLand$Doubts" 49 8 0 := ⟨_, zcl_8, by decide, zw_88⟩
theorem zl_Doubts_69 : zLkF "TurnedLand$Doubts" 69 10 0 := ⟨_, zcl_10, by decide, zw_224⟩
theorem zl_Doubts_9 : zLkF "TurnedLand$Doubts" 9 0 0 := ⟨_, zcl_0, by decide, zw_162⟩
theorem zl_Folk_15 : zLkF "TurnedLand$Folk" 15 1 1 := ⟨_, zcl_1, by decide, zw_125⟩
theorem zl_Folk_19 : zLkF "TurnedLand$Folk" 19 1 2 := ⟨_, zcl_1, by decide, zw_128⟩
theorem zl_Folk_22 : zLkF "TurnedLand$Folk" 22 1 3 := ⟨_, zcl_1, by decide, zw_131⟩
theorem zl_Folk_25 : zLkF "TurnedLand$Folk" 25 1 4 := ⟨_, zcl_1, by decide, zw_133⟩
theorem zl_Folk_28 : zLkF "TurnedLand$Folk" 28 1 5 := ⟨_, zcl_1, by decide, zw_135⟩
theorem zl_Folk_31 : zLkF "TurnedLand$Folk" 31 1 6 := ⟨_, zcl_1, by decide, zw_138⟩
theorem zl_Folk_9 : zLkF "TurnedLand$Folk" 9 1 0 := ⟨_, zcl_1, by decide, zw_123⟩
theorem zl_Ground_15 : zLkF "TurnedLand$Ground" 15 2 1 := ⟨_, zcl_2, by decide, zw_50⟩
theorem zl_Ground_19 : zLkF "TurnedLand$Ground" 19 2 2 := ⟨_, zcl_2, by decide, zw_53⟩
theorem zl_Ground_22 : zLkF "TurnedLand$Ground" 22 2 3 := ⟨_, zcl_2, by decide, zw_57⟩
theorem zl_Ground_25 : zLkF "TurnedLand$Ground" 25 2 4 := ⟨_, zcl_2, by decide, zw_60⟩
theorem zl_Ground_28 : zLkF "TurnedLand$Ground" 28 2 5 := ⟨_, zcl_2, by decide, zw_63⟩
theorem zl_Ground_9 : zLkF "TurnedLand$Ground" 9 2 0 := ⟨_, zcl_2, by decide, zw_45⟩
theorem zl_M_13 : zLkF "TurnedLandModel" 13 12 1 := ⟨_, zcl_12, by decide, zw_1035⟩
theorem zl_M_145 : zLkF "TurnedLandModel" 145 12 9 := ⟨_, zcl_12, by decide, zw_1043⟩
theorem zl_M_149 : zLkF "TurnedLandModel" 149 12 6 := ⟨_, zcl_12, by decide, zw_1040⟩
theorem zl_M_156 : zLkF "TurnedLandModel" 156 12 11 := ⟨_, zcl_12, by decide, zw_1045⟩
theorem zl_M_16 : zLkF "TurnedLandModel" 16 12 3 := ⟨_, zcl_12, by decide, zw_1037⟩
theorem zl_M_181 : zLkF "TurnedLandModel" 181 12 8 := ⟨_, zcl_12, by decide, zw_1042⟩
theorem zl_M_19 : zLkF "TurnedLandModel" 19 12 4 := ⟨_, zcl_12, by decide, zw_1038⟩
theorem zl_M_191 : zLkF "TurnedLandModel" 191 12 7 := ⟨_, zcl_12, by decide, zw_1041⟩
theorem zl_M_209 : zLkF "TurnedLandModel" 209 12 14 := ⟨_, zcl_12, by decide, zw_1048⟩
theorem zl_M_216 : zLkF "TurnedLandModel" 216 12 15 := ⟨_, zcl_12, by decide, zw_1049⟩
theorem zl_M_239 : zLkF "TurnedLandModel" 239 12 17 := ⟨_, zcl_12, by decide, zw_1051⟩
theorem zl_M_242 : zLkF "TurnedLandModel" 242 12 18 := ⟨_, zcl_12, by decide, zw_1052⟩
theorem zl_M_245 : zLkF "TurnedLandModel" 245 12 19 := ⟨_, zcl_12, by decide, zw_1053⟩
theorem zl_M_248 : zLkF "TurnedLandModel" 248 12 20 := ⟨_, zcl_12, by decide, zw_1054⟩
theorem zl_M_251 : zLkF "TurnedLandModel" 251 12 21 := ⟨_, zcl_12, by decide, zw_1055⟩
theorem zl_M_28 : zLkF "TurnedLandModel" 28 12 5 := ⟨_, zcl_12, by decide, zw_1039⟩
theorem zl_M_284 : zLkF "TurnedLandModel" 284 12 23 := ⟨_, zcl_12, by decide, zw_1057⟩
theorem zl_M_299 : zLkF "TurnedLandModel" 299 12 25 := ⟨_, zcl_12, by decide, zw_1059⟩
theorem zl_M_302 : zLkF "TurnedLandModel" 302 12 26 := ⟨_, zcl_12, by decide, zw_1060⟩
theorem zl_M_311 : zLkF "TurnedLandModel" 311 12 27 := ⟨_, zcl_12, by decide, zw_1061⟩
theorem zl_M_32 : zLkF "TurnedLandModel" 32 12 10 := ⟨_, zcl_12, by decide, zw_1044⟩
theorem zl_M_331 : zLkF "TurnedLandModel" 331 12 2 := ⟨_, zcl_12, by decide, zw_1036⟩
theorem zl_M_35 : zLkF "TurnedLandModel" 35 12 12 := ⟨_, zcl_12, by decide, zw_1046⟩
theorem zl_M_38 : zLkF "TurnedLandModel" 38 12 13 := ⟨_, zcl_12, by decide, zw_1047⟩
theorem zl_M_41 : zLkF "TurnedLandModel" 41 12 16 := ⟨_, zcl_12, by decide, zw_1050⟩
theorem zl_M_44 : zLkF "TurnedLandModel" 44 12 22 := ⟨_, zcl_12, by decide, zw_1056⟩
theorem zl_M_47 : zLkF "TurnedLandModel" 47 12 24 := ⟨_, zcl_12, by decide, zw_1058⟩
theorem zl_M_50 : zLkF "TurnedLandModel" 50 12 28 := ⟨_, zcl_12, by decide, zw_1062⟩
theorem zl_M_53 : zLkF "TurnedLandModel" 53 12 29 := ⟨_, zcl_12, by decide, zw_1063⟩
theorem zl_M_56 : zLkF "TurnedLandModel" 56 12 30 := ⟨_, zcl_12, by decide, zw_1064⟩
theorem zl_M_59 : zLkF "TurnedLandModel" 59 12 31 := ⟨_, zcl_12, by decide, zw_1065⟩
theorem zl_M_9 : zLkF "TurnedLandModel" 9 12 0 := ⟨_, zcl_12, by decide, zw_1034⟩
theorem zl_Reader_15 : zLkF "TurnedLand$Reader" 15 3 1 := ⟨_, zcl_3, by decide, zw_331⟩
theorem zl_Reader_18 : zLkF "TurnedLand$Reader" 18 3 2 := ⟨_, zcl_3, by decide, zw_333⟩
theorem zl_Reader_22 : zLkF "TurnedLand$Reader" 22 3 3 := ⟨_, zcl_3, by decide, zw_335⟩
theorem zl_Reader_25 : zLkF "TurnedLand$Reader" 25 3 4 := ⟨_, zcl_3, by decide, zw_337⟩
theorem zl_Reader_28 : zLkF "TurnedLand$Reader" 28 3 5 := ⟨_, zcl_3, by decide, zw_338⟩
theorem zl_Reader_31 : zLkF "TurnedLand$Reader" 31 3 6 := ⟨_, zcl_3, by decide, zw_339⟩
theorem zl_Reader_9 : zLkF "TurnedLand$Reader" 9 3 0 := ⟨_, zcl_3, by decide, zw_329⟩
theorem zl_Shape_15 : zLkF "TurnedLand$Shape" 15 4 1 := ⟨_, zcl_4, by decide, zw_278⟩
theorem zl_Shape_22 : zLkF "TurnedLand$Shape" 22 2 0 := ⟨_, zcl_2, by decide, zw_47⟩
theorem zl_Shape_36 : zLkF "TurnedLand$Shape" 36 2 2 := ⟨_, zcl_2, by decide, zw_54⟩
theorem zl_Shape_39 : zLkF "TurnedLand$Shape" 39 2 3 := ⟨_, zcl_2, by decide, zw_58⟩
theorem zl_Shape_46 : zLkF "TurnedLand$Shape" 46 2 5 := ⟨_, zcl_2, by decide, zw_64⟩
theorem zl_Shape_70 : zLkF "TurnedLand$Shape" 70 2 4 := ⟨_, zcl_2, by decide, zw_62⟩
theorem zl_Shape_9 : zLkF "TurnedLand$Shape" 9 4 0 := ⟨_, zcl_4, by decide, zw_277⟩
theorem zl_T_110 : zLkF "TurnedLand" 110 2 4 := ⟨_, zcl_2, by decide, zw_61⟩
theorem zl_T_113 : zLkF "TurnedLand" 113 2 3 := ⟨_, zcl_2, by decide, zw_59⟩
theorem zl_T_116 : zLkF "TurnedLand" 116 2 2 := ⟨_, zcl_2, by decide, zw_56⟩
theorem zl_T_12 : zLkF "TurnedLand" 12 11 0 := ⟨_, zcl_11, by decide, zw_383⟩
theorem zl_T_122 : zLkF "TurnedLand" 122 10 3 := ⟨_, zcl_10, by decide, zw_232⟩
theorem zl_T_126 : zLkF "TurnedLand" 126 0 0 := ⟨_, zcl_0, by decide, zw_163⟩
theorem zl_T_155 : zLkF "TurnedLand" 155 10 7 := ⟨_, zcl_10, by decide, zw_240⟩
theorem zl_T_158 : zLkF "TurnedLand" 158 10 6 := ⟨_, zcl_10, by decide, zw_238⟩
theorem zl_T_16 : zLkF "TurnedLand" 16 11 1 := ⟨_, zcl_11, by decide, zw_384⟩
theorem zl_T_165 : zLkF "TurnedLand" 165 3 3 := ⟨_, zcl_3, by decide, zw_336⟩
theorem zl_T_178 : zLkF "TurnedLand" 178 5 0 := ⟨_, zcl_5, by decide, zw_201⟩
theorem zl_T_19 : zLkF "TurnedLand" 19 11 2 := ⟨_, zcl_11, by decide, zw_385⟩
theorem zl_T_193 : zLkF "TurnedLand" 193 9 0 := ⟨_, zcl_9, by decide, zw_292⟩
theorem zl_T_196 : zLkF "TurnedLand" 196 9 1 := ⟨_, zcl_9, by decide, zw_294⟩
theorem zl_T_199 : zLkF "TurnedLand" 199 10 1 := ⟨_, zcl_10, by decide, zw_228⟩
theorem zl_T_208 : zLkF "TurnedLand" 208 8 0 := ⟨_, zcl_8, by decide, zw_89⟩
theorem zl_T_217 : zLkF "TurnedLand" 217 8 1 := ⟨_, zcl_8, by decide, zw_92⟩
theorem zl_T_220 : zLkF "TurnedLand" 220 8 2 := ⟨_, zcl_8, by decide, zw_95⟩
theorem zl_T_223 : zLkF "TurnedLand" 223 8 3 := ⟨_, zcl_8, by decide, zw_98⟩
theorem zl_T_226 : zLkF "TurnedLand" 226 8 4 := ⟨_, zcl_8, by decide, zw_101⟩
theorem zl_T_23 : zLkF "TurnedLand" 23 11 3 := ⟨_, zcl_11, by decide, zw_386⟩
theorem zl_T_252 : zLkF "TurnedLand" 252 7 1 := ⟨_, zcl_7, by decide, zw_317⟩
theorem zl_T_255 : zLkF "TurnedLand" 255 10 2 := ⟨_, zcl_10, by decide, zw_230⟩
theorem zl_T_259 : zLkF "TurnedLand" 259 1 0 := ⟨_, zcl_1, by decide, zw_124⟩
theorem zl_T_264 : zLkF "TurnedLand" 264 1 1 := ⟨_, zcl_1, by decide, zw_127⟩
theorem zl_T_267 : zLkF "TurnedLand" 267 1 2 := ⟨_, zcl_1, by decide, zw_130⟩
theorem zl_T_27 : zLkF "TurnedLand" 27 11 4 := ⟨_, zcl_11, by decide, zw_387⟩
theorem zl_T_282 : zLkF "TurnedLand" 282 1 3 := ⟨_, zcl_1, by decide, zw_132⟩
theorem zl_T_291 : zLkF "TurnedLand" 291 1 4 := ⟨_, zcl_1, by decide, zw_134⟩
theorem zl_T_294 : zLkF "TurnedLand" 294 1 5 := ⟨_, zcl_1, by decide, zw_137⟩
theorem zl_T_297 : zLkF "TurnedLand" 297 1 6 := ⟨_, zcl_1, by decide, zw_140⟩
theorem zl_T_30 : zLkF "TurnedLand" 30 11 5 := ⟨_, zcl_11, by decide, zw_388⟩
theorem zl_T_311 : zLkF "TurnedLand" 311 0 1 := ⟨_, zcl_0, by decide, zw_165⟩
theorem zl_T_314 : zLkF "TurnedLand" 314 0 2 := ⟨_, zcl_0, by decide, zw_167⟩
theorem zl_T_317 : zLkF "TurnedLand" 317 0 3 := ⟨_, zcl_0, by decide, zw_169⟩
theorem zl_T_324 : zLkF "TurnedLand" 324 0 4 := ⟨_, zcl_0, by decide, zw_171⟩
theorem zl_T_327 : zLkF "TurnedLand" 327 0 5 := ⟨_, zcl_0, by decide, zw_173⟩
theorem zl_T_331 : zLkF "TurnedLand" 331 10 10 := ⟨_, zcl_10, by decide, zw_246⟩
theorem zl_T_338 : zLkF "TurnedLand" 338 6 2 := ⟨_, zcl_6, by decide, zw_366⟩
theorem zl_T_341 : zLkF "TurnedLand" 341 6 1 := ⟨_, zcl_6, by decide, zw_364⟩
theorem zl_T_344 : zLkF "TurnedLand" 344 6 0 := ⟨_, zcl_6, by decide, zw_362⟩
theorem zl_T_35 : zLkF "TurnedLand" 35 11 6 := ⟨_, zcl_11, by decide, zw_389⟩
theorem zl_T_371 : zLkF "TurnedLand" 371 10 9 := ⟨_, zcl_10, by decide, zw_244⟩
theorem zl_T_374 : zLkF "TurnedLand" 374 10 8 := ⟨_, zcl_10, by decide, zw_242⟩
theorem zl_T_390 : zLkF "TurnedLand" 390 10 4 := ⟨_, zcl_10, by decide, zw_234⟩
theorem zl_T_394 : zLkF "TurnedLand" 394 10 5 := ⟨_, zcl_10, by decide, zw_236⟩
theorem zl_T_41 : zLkF "TurnedLand" 41 11 7 := ⟨_, zcl_11, by decide, zw_390⟩
theorem zl_T_48 : zLkF "TurnedLand" 48 11 8 := ⟨_, zcl_11, by decide, zw_391⟩
theorem zl_T_52 : zLkF "TurnedLand" 52 11 9 := ⟨_, zcl_11, by decide, zw_392⟩
theorem zl_T_58 : zLkF "TurnedLand" 58 11 10 := ⟨_, zcl_11, by decide, zw_393⟩
theorem zl_T_65 : zLkF "TurnedLand" 65 11 11 := ⟨_, zcl_11, by decide, zw_394⟩
theorem zl_T_72 : zLkF "TurnedLand" 72 11 12 := ⟨_, zcl_11, by decide, zw_395⟩
theorem zl_T_76 : zLkF "TurnedLand" 76 10 0 := ⟨_, zcl_10, by decide, zw_222⟩
theorem zl_T_88 : zLkF "TurnedLand" 88 2 0 := ⟨_, zcl_2, by decide, zw_48⟩
theorem zl_T_93 : zLkF "TurnedLand" 93 2 1 := ⟨_, zcl_2, by decide, zw_51⟩
theorem zl_Text_15 : zLkF "TurnedLand$Text" 15 5 1 := ⟨_, zcl_5, by decide, zw_202⟩
theorem zl_Text_19 : zLkF "TurnedLand$Text" 19 5 2 := ⟨_, zcl_5, by decide, zw_203⟩
theorem zl_Text_23 : zLkF "TurnedLand$Text" 23 5 3 := ⟨_, zcl_5, by decide, zw_204⟩
theorem zl_Text_26 : zLkF "TurnedLand$Text" 26 5 4 := ⟨_, zcl_5, by decide, zw_205⟩
theorem zl_Text_29 : zLkF "TurnedLand$Text" 29 5 5 := ⟨_, zcl_5, by decide, zw_206⟩
theorem zl_Text_38 : zLkF "TurnedLand$Text" 38 3 2 := ⟨_, zcl_3, by decide, zw_334⟩
theorem zl_Text_41 : zLkF "TurnedLand$Text" 41 3 0 := ⟨_, zcl_3, by decide, zw_330⟩
theorem zl_Text_42 : zLkF "TurnedLand$Text" 42 3 1 := ⟨_, zcl_3, by decide, zw_332⟩
theorem zl_Text_9 : zLkF "TurnedLand$Text" 9 5 0 := ⟨_, zcl_5, by decide, zw_199⟩
theorem zl_Voices_15 : zLkF "TurnedLand$Voices" 15 6 1 := ⟨_, zcl_6, by decide, zw_363⟩
theorem zl_Voices_19 : zLkF "TurnedLand$Voices" 19 6 2 := ⟨_, zcl_6, by decide, zw_365⟩
theorem zl_Voices_23 : zLkF "TurnedLand$Voices" 23 6 3 := ⟨_, zcl_6, by decide, zw_367⟩
theorem zl_Voices_26 : zLkF "TurnedLand$Voices" 26 6 4 := ⟨_, zcl_6, by decide, zw_368⟩
theorem zl_Voices_29 : zLkF "TurnedLand$Voices" 29 6 5 := ⟨_, zcl_6, by decide, zw_369⟩
theorem zl_Voices_9 : zLkF "TurnedLand$Voices" 9 6 0 := ⟨_, zcl_6, by decide, zw_361⟩
theorem zl_Walker_15 : zLkF "TurnedLand$Walker" 15 7 1 := ⟨_, zcl_7, by decide, zw_316⟩
theorem zl_Walker_19 : zLkF "TurnedLand$Walker" 19 10 1 := ⟨_, zcl_10, by decide, zw_226⟩
theorem zl_Walker_31 : zLkF "TurnedLand$Walker" 31 8 2 := ⟨_, zcl_8, by decide, zw_94⟩
theorem zl_Walker_34 : zLkF "TurnedLand$Walker" 34 8 3 := ⟨_, zcl_8, by decide, zw_97⟩
theorem zl_Walker_37 : zLkF "TurnedLand$Walker" 37 10 0 := ⟨_, zcl_10, by decide, zw_223⟩
theorem zl_Walker_41 : zLkF "TurnedLand$Walker" 41 8 5 := ⟨_, zcl_8, by decide, zw_103⟩
theorem zl_Walker_65 : zLkF "TurnedLand$Walker" 65 8 4 := ⟨_, zcl_8, by decide, zw_100⟩
theorem zl_Walker_68 : zLkF "TurnedLand$Walker" 68 8 1 := ⟨_, zcl_8, by decide, zw_91⟩
theorem zl_Walker_77 : zLkF "TurnedLand$Walker" 77 2 0 := ⟨_, zcl_2, by decide, zw_49⟩
theorem zl_Walker_9 : zLkF "TurnedLand$Walker" 9 7 0 := ⟨_, zcl_7, by decide, zw_315⟩
theorem zl_Walks_15 : zLkF "TurnedLand$Walks" 15 8 1 := ⟨_, zcl_8, by decide, zw_90⟩
theorem zl_Walks_19 : zLkF "TurnedLand$Walks" 19 8 2 := ⟨_, zcl_8, by decide, zw_93⟩
theorem zl_Walks_22 : zLkF "TurnedLand$Walks" 22 8 3 := ⟨_, zcl_8, by decide, zw_96⟩
theorem zl_Walks_25 : zLkF "TurnedLand$Walks" 25 8 4 := ⟨_, zcl_8, by decide, zw_99⟩
theorem zl_Walks_30 : zLkF "TurnedLand$Walks" 30 8 5 := ⟨_, zcl_8, by decide, zw_102⟩
theorem zl_Walks_9 : zLkF "TurnedLand$Walks" 9 8 0 := ⟨_, zcl_8, by decide, zw_87⟩
theorem zl_Ways_15 : zLkF "TurnedLand$Ways" 15 9 1 := ⟨_, zcl_9, by decide, zw_293⟩
theorem zl_Ways_20 : zLkF "TurnedLand$Ways" 20 9 2 := ⟨_, zcl_9, by decide, zw_295⟩
theorem zl_Ways_23 : zLkF "TurnedLand$Ways" 23 9 3 := ⟨_, zcl_9, by decide, zw_296⟩
theorem zl_Ways_26 : zLkF "TurnedLand$Ways" 26 9 4 := ⟨_, zcl_9, by decide, zw_297⟩
theorem zl_Ways_30 : zLkF "TurnedLand$Ways" 30 10 0 := ⟨_, zcl_10, by decide, zw_221⟩
theorem zl_Ways_36 : zLkF "TurnedLand$Ways" 36 2 0 := ⟨_, zcl_2, by decide, zw_46⟩
theorem zl_Ways_9 : zLkF "TurnedLand$Ways" 9 9 0 := ⟨_, zcl_9, by decide, zw_291⟩
theorem zl_World_108 : zLkF "TurnedLand$World" 108 1 5 := ⟨_, zcl_1, by decide, zw_136⟩
theorem zl_World_111 : zLkF "TurnedLand$World" 111 1 6 := ⟨_, zcl_1, by decide, zw_139⟩
theorem zl_World_114 : zLkF "TurnedLand$World" 114 1 1 := ⟨_, zcl_1, by decide, zw_126⟩
theorem zl_World_117 : zLkF "TurnedLand$World" 117 1 2 := ⟨_, zcl_1, by decide, zw_129⟩
theorem zl_World_12 : zLkF "TurnedLand$World" 12 10 0 := ⟨_, zcl_10, by decide, zw_220⟩
theorem zl_World_21 : zLkF "TurnedLand$World" 21 10 1 := ⟨_, zcl_10, by decide, zw_225⟩
theorem zl_World_28 : zLkF "TurnedLand$World" 28 10 2 := ⟨_, zcl_10, by decide, zw_229⟩
theorem zl_World_35 : zLkF "TurnedLand$World" 35 10 3 := ⟨_, zcl_10, by decide, zw_231⟩
theorem zl_World_42 : zLkF "TurnedLand$World" 42 10 4 := ⟨_, zcl_10, by decide, zw_233⟩
theorem zl_World_46 : zLkF "TurnedLand$World" 46 10 5 := ⟨_, zcl_10, by decide, zw_235⟩
theorem zl_World_49 : zLkF "TurnedLand$World" 49 10 6 := ⟨_, zcl_10, by decide, zw_237⟩
theorem zl_World_53 : zLkF "TurnedLand$World" 53 10 7 := ⟨_, zcl_10, by decide, zw_239⟩
theorem zl_World_57 : zLkF "TurnedLand$World" 57 10 8 := ⟨_, zcl_10, by decide, zw_241⟩
theorem zl_World_60 : zLkF "TurnedLand$World" 60 10 9 := ⟨_, zcl_10, by decide, zw_243⟩
theorem zl_World_63 : zLkF "TurnedLand$World" 63 10 10 := ⟨_, zcl_10, by decide, zw_245⟩
theorem zl_World_93 : zLkF "TurnedLand$World" 93 2 1 := ⟨_, zcl_2, by decide, zw_52⟩
theorem zl_World_96 : zLkF "TurnedLand$World" 96 5 0 := ⟨_, zcl_5, by decide, zw_200⟩
theorem zp_Doubts_15 : zLkP "TurnedLand$Doubts" 15 0 1 := ⟨_, zcl_0, by decide, zw_164, rfl⟩
theorem zp_Doubts_25 : zLkP "TurnedLand$Doubts" 25 0 4 := ⟨_, zcl_0, by decide, zw_170, rfl⟩
theorem zp_Doubts_9 : zLkP "TurnedLand$Doubts" 9 0 0 := ⟨_, zcl_0, by decide, zw_162, rfl⟩
theorem zp_Folk_22 : zLkP "TurnedLand$Folk" 22 1 3 := ⟨_, zcl_1, by decide, zw_131, rfl⟩
theorem zp_Folk_9 : zLkP "TurnedLand$Folk" 9 1 0 := ⟨_, zcl_1, by decide, zw_123, rfl⟩
theorem zp_Ground_19 : zLkP "TurnedLand$Ground" 19 2 2 := ⟨_, zcl_2, by decide, zw_53, rfl⟩
theorem zp_Ground_9 : zLkP "TurnedLand$Ground" 9 2 0 := ⟨_, zcl_2, by decide, zw_45, rfl⟩
theorem zp_M_145 : zLkP "TurnedLandModel" 145 12 9 := ⟨_, zcl_12, by decide, zw_1043, rfl⟩
theorem zp_M_149 : zLkP "TurnedLandModel" 149 12 6 := ⟨_, zcl_12, by decide, zw_1040, rfl⟩
theorem zp_M_156 : zLkP "TurnedLandModel" 156 12 11 := ⟨_, zcl_12, by decide, zw_1045, rfl⟩
theorem zp_M_181 : zLkP "TurnedLandModel" 181 12 8 := ⟨_, zcl_12, by decide, zw_1042, rfl⟩
theorem zp_M_191 : zLkP "TurnedLandModel" 191 12 7 := ⟨_, zcl_12, by decide, zw_1041, rfl⟩
theorem zp_M_209 : zLkP "TurnedLandModel" 209 12 14 := ⟨_, zcl_12, by decide, zw_1048, rfl⟩
theorem zp_M_216 : zLkP "TurnedLandModel" 216 12 15 := ⟨_, zcl_12, by decide, zw_1049, rfl⟩
theorem zp_M_239 : zLkP "TurnedLandModel" 239 12 17 := ⟨_, zcl_12, by decide, zw_1051, rfl⟩
theorem zp_M_242 : zLkP "TurnedLandModel" 242 12 18 := ⟨_, zcl_12, by decide, zw_1052, rfl⟩
theorem zp_M_245 : zLkP "TurnedLandModel" 245 12 19 := ⟨_, zcl_12, by decide, zw_1053, rfl⟩
theorem zp_M_248 : zLkP "TurnedLandModel" 248 12 20 := ⟨_, zcl_12, by decide, zw_1054, rfl⟩
theorem zp_M_251 : zLkP "TurnedLandModel" 251 12 21 := ⟨_, zcl_12, by decide, zw_1055, rfl⟩
theorem zp_M_284 : zLkP "TurnedLandModel" 284 12 23 := ⟨_, zcl_12, by decide, zw_1057, rfl⟩
theorem zp_M_299 : zLkP "TurnedLandModel" 299 12 25 := ⟨_, zcl_12, by decide, zw_1059, rfl⟩
theorem zp_M_302 : zLkP "TurnedLandModel" 302 12 26 := ⟨_, zcl_12, by decide, zw_1060, rfl⟩
theorem zp_M_311 : zLkP "TurnedLandModel" 311 12 27 := ⟨_, zcl_12, by decide, zw_1061, rfl⟩
theorem zp_M_331 : zLkP "TurnedLandModel" 331 12 2 := ⟨_, zcl_12, by decide, zw_1036, rfl⟩
theorem zp_Reader_18 : zLkP "TurnedLand$Reader" 18 3 2 := ⟨_, zcl_3, by decide, zw_333, rfl⟩
theorem zp_Reader_22 : zLkP "TurnedLand$Reader" 22 3 3 := ⟨_, zcl_3, by decide, zw_335, rfl⟩
theorem zp_Reader_28 : zLkP "TurnedLand$Reader" 28 3 5 := ⟨_, zcl_3, by decide, zw_338, rfl⟩
theorem zp_Reader_31 : zLkP "TurnedLand$Reader" 31 3 6 := ⟨_, zcl_3, by decide, zw_339, rfl⟩
theorem zp_T_126 : zLkP "TurnedLand" 126 0 0 := ⟨_, zcl_0, by decide, zw_163, rfl⟩
theorem zp_T_155 : zLkP "TurnedLand" 155 10 7 := ⟨_, zcl_10, by decide, zw_240, rfl⟩
theorem zp_T_178 : zLkP "TurnedLand" 178 5 0 := ⟨_, zcl_5, by decide, zw_201, rfl⟩
theorem zp_T_19 : zLkP "TurnedLand" 19 11 2 := ⟨_, zcl_11, by decide, zw_385, rfl⟩
theorem zp_T_259 : zLkP "TurnedLand" 259 1 0 := ⟨_, zcl_1, by decide, zw_124, rfl⟩
theorem zp_T_311 : zLkP "TurnedLand" 311 0 1 := ⟨_, zcl_0, by decide, zw_165, rfl⟩
theorem zp_T_331 : zLkP "TurnedLand" 331 10 10 := ⟨_, zcl_10, by decide, zw_246, rfl⟩
theorem zp_T_371 : zLkP "TurnedLand" 371 10 9 := ⟨_, zcl_10, by decide, zw_244, rfl⟩
theorem zp_T_88 : zLkP "TurnedLand" 88 2 0 := ⟨_, zcl_2, by decide, zw_48, rfl⟩
theorem zp_Text_15 : zLkP "TurnedLand$Text" 15 5 1 := ⟨_, zcl_5, by decide, zw_202, rfl⟩
theorem zp_Text_9 : zLkP "TurnedLand$Text" 9 5 0 := ⟨_, zcl_5, by decide, zw_199, rfl⟩
theorem zp_Voices_15 : zLkP "TurnedLand$Voices" 15 6 1 := ⟨_, zcl_6, by decide, zw_363, rfl⟩
theorem zp_Voices_19 : zLkP "TurnedLand$Voices" 19 6 2 := ⟨_, zcl_6, by decide, zw_365, rfl⟩
theorem zp_Voices_23 : zLkP "TurnedLand$Voices" 23 6 3 := ⟨_, zcl_6, by decide, zw_367, rfl⟩
theorem zp_Voices_26 : zLkP "TurnedLand$Voices" 26 6 4 := ⟨_, zcl_6, by decide, zw_368, rfl⟩
theorem zp_Voices_29 : zLkP "TurnedLand$Voices" 29 6 5 := ⟨_, zcl_6, by decide, zw_369, rfl⟩
theorem zp_Walker_15 : zLkP "TurnedLand$Walker" 15 7 1 := ⟨_, zcl_7, by decide, zw_316, rfl⟩
theorem zp_Walks_9 : zLkP "TurnedLand$Walks" 9 8 0 := ⟨_, zcl_8, by decide, zw_87, rfl⟩
theorem zp_Ways_26 : zLkP "TurnedLand$Ways" 26 9 4 := ⟨_, zcl_9, by decide, zw_297, rfl⟩
theorem zp_World_53 : zLkP "TurnedLand$World" 53 10 7 := ⟨_, zcl_10, by decide, zw_239, rfl⟩
theorem zp_World_60 : zLkP "TurnedLand$World" 60 10 9 := ⟨_, zcl_10, by decide, zw_243, rfl⟩
theorem zp_World_63 : zLkP "TurnedLand$World" 63 10 10 := ⟨_, zcl_10, by decide, zw_245, rfl⟩
def zCs : List zK := [.inl 11, .inl 10, .inl 2, .inr (0, 8), .inr (0, 32), .inr (0, 16), .inr (0, 32), .inl 8, .inr (0, 10), .inr (0, 10), .inr (0, 10), .inr (0, 10), .inr (1, 10), .inr (0, 8), .inr (0, 8), .inr (0, 8), .inr (0, 8), .inr (0, 8), .inr (0, 8), .inr (0, 8), .inr (0, 8), .inr (0, 8), .inr (0, 8), .inl 1, .inr (0, 6), .inr (0, 6), .inr (0, 6), .inr (0, 6), .inr (0, 6), .inl 0, .inr (0, 12), .inr (0, 12), .inr (0, 16), .inr (0, 10), .inr (0, 10), .inl 5, .inr (0, 60), .inr (0, 60), .inr (0, 60), .inr (0, 4), .inl 5, .inr (0, 60), .inr (0, 60), .inr (0, 60), .inr (0, 4), .inr (0, 60), .inr (0, 24), .inl 10, .inl 2, .inr (0, 8), .inr (0, 32), .inr (0, 16), .inr (0, 32), .inl 8, .inr (0, 10), .inr (0, 10), .inr (0, 10), .inr (0, 10), .inr (1, 10), .inr (0, 8), .inr (0, 8), .inr (0, 8), .inr (0, 8), .inr (0, 8), .inr (0, 8), .inr (0, 8), .inr (0, 8), .inr (0, 8), .inr (0, 8), .inl 1, .inr (0, 6), .inr (0, 6), .inr (0, 6), .inr (0, 6), .inr (0, 6), .inl 0, .inr (0, 12), .inr (0, 12), .inr (0, 16), .inr (0, 10), .inr (0, 10), .inl 5, .inr (0, 60), .inr (0, 60), .inr (0, 60), .inr (0, 4), .inl 5, .inr (0, 60), .inr (0, 60), .inr (0, 60), .inr (0, 4), .inr (0, 60), .inr (0, 24), .inr (0, 7), .inr (0, 4), .inr (0, 4), .inr (1, 4), .inr (0, 24), .inr (0, 24), .inr (0, 24), .inr (0, 24), .inl 4, .inr (0, 32), .inr (0, 8), .inl 9, .inr (0, 16), .inr (0, 16), .inr (1, 16), .inr (0, 4), .inr (0, 4), .inr (0, 4), .inr (0, 4), .inr (0, 4), .inr (0, 4), .inr (0, 4), .inr (0, 4), .inr (0, 4), .inr (0, 4), .inr (0, 4), .inr (0, 4), .inr (0, 4), .inr (0, 4), .inr (0, 4), .inr (0, 4), .inr (1, 16), .inr (0, 4), .inr (0, 4), .inr (0, 4), .inr (0, 4), .inr (0, 4), .inr (0, 4), .inr (0, 4), .inr (0, 4), .inr (0, 4), .inr (0, 4), .inr (0, 4), .inr (0, 4), .inr (0, 4), .inr (0, 4), .inr (0, 4), .inr (0, 4), .inl 9, .inr (0, 16), .inr (0, 16), .inr (1, 16), .inr (0, 4), .inr (0, 4), .inr (0, 4), .inr (0, 4), .inr (0, 4), .inr (0, 4), .inr (0, 4), .inr (0, 4), .inr (0, 4), .inr (0, 4), .inr (0, 4), .inr (0, 4), .inr (0, 4), .inr (0, 4), .inr (0, 4), .inr (0, 4), .inr (1, 16), .inr (0, 4), .inr (0, 4), .inr (0, 4), .inr (0, 4), .inr (0, 4), .inr (0, 4), .inr (0, 4), .inr (0, 4), .inr (0, 4), .inr (0, 4), .inr (0, 4), .inr (0, 4), .inr (0, 4), .inr (0, 4), .inr (0, 4), .inr (0, 4), .inl 7, .inr (0, 9), .inl 3, .inr (0, 60), .inr (0, 60), .inr (0, 60), .inl 6, .inr (0, 30)]
def zCrL : List (List (Option Nat)) := [[some 1, some 47, none, some 93, some 94, some 95, some 96, some 101, some 104, some 141, some 178, some 180, some 184], [some 2, some 7, some 23, some 29, some 35, some 40, some 45, none, some 46, none, none], [none, some 3, none, some 4, some 5, some 6], [], [], [], [], [none, some 8, some 9, some 10, some 11, some 12], [], [], [], [], [some 13, some 14, some 15, some 16, some 17, some 18, some 19, some 20, some 21, some 22], [], [], [], [], [], [], [], [], [], [], [none, some 24, some 25, none, some 26, some 27, some 28], [], [], [], [], [], [none, none, some 30, some 31, none, some 32, some 33, some 34], [], [], [], [], [], [none, none, some 36, some 37, some 38, some 39], [], [], [], [], [none, none, some 41, some 42, some 43, some 44], [], [], [], [], [], [], [some 48, some 53, some 69, some 75, some 81, some 86, some 91, none, some 92, none, none], [none, some 49, none, some 50, some 51, some 52], [], [], [], [], [none, some 54, some 55, some 56, some 57, some 58], [], [], [], [], [some 59, some 60, some 61, some 62, some 63, some 64, some 65, some 66, some 67, some 68], [], [], [], [], [], [], [], [], [], [], [none, some 70, some 71, none, some 72, some 73, some 74], [], [], [], [], [], [none, none, some 76, some 77, none, some 78, some 79, some 80], [], [], [], [], [], [none, none, some 82, some 83, some 84, some 85], [], [], [], [], [none, none, some 87, some 88, some 89, some 90], [], [], [], [], [], [], [], [], [], [some 97, some 98, some 99, some 100], [], [], [], [], [some 102, some 103], [], [], [some 105, some 106, some 107, some 124, none], [], [], [some 108, some 109, some 110, some 111, some 112, some 113, some 114, some 115, some 116, some 117, some 118, some 119, some 120, some 121, some 122, some 123], [], [], [], [], [], [], [], [], [], [], [], [], [], [], [], [], [some 125, some 126, some 127, some 128, some 129, some 130, some 131, some 132, some 133, some 134, some 135, some 136, some 137, some 138, some 139, some 140], [], [], [], [], [], [], [], [], [], [], [], [], [], [], [], [], [some 142, some 143, some 144, some 161, none], [], [], [some 145, some 146, some 147, some 148, some 149, some 150, some 151, some 152, some 153, some 154, some 155, some 156, some 157, some 158, some 159, some 160], [], [], [], [], [], [], [], [], [], [], [], [], [], [], [], [], [some 162, some 163, some 164, some 165, some 166, some 167, some 168, some 169, some 170, some 171, some 172, some 173, some 174, some 175, some 176, some 177], [], [], [], [], [], [], [], [], [], [], [], [], [], [], [], [], [some 179, none], [], [some 181, some 182, none, none, some 183, none, none], [], [], [], [some 185, none, none, none, none, none], []]
def zCr : zRf := fun i k => (zCrL.getD i []).getD k none
theorem zCs_0 : zCs[0]? = some (.inl 11) := rfl
theorem zCs_1 : zCs[1]? = some (.inl 10) := rfl
theorem zCs_2 : zCs[2]? = some (.inl 2) := rfl
theorem zCs_3 : zCs[3]? = some (.inr (0, 8)) := rfl
theorem zCs_4 : zCs[4]? = some (.inr (0, 32)) := rfl
theorem zCs_5 : zCs[5]? = some (.inr (0, 16)) := rfl
theorem zCs_6 : zCs[6]? = some (.inr (0, 32)) := rfl
theorem zCs_7 : zCs[7]? = some (.inl 8) := rfl
theorem zCs_8 : zCs[8]? = some (.inr (0, 10)) := rfl
theorem zCs_9 : zCs[9]? = some (.inr (0, 10)) := rfl
theorem zCs_10 : zCs[10]? = some (.inr (0, 10)) := rfl
theorem zCs_11 : zCs[11]? = some (.inr (0, 10)) := rfl
theorem zCs_12 : zCs[12]? = some (.inr (1, 10)) := rfl
theorem zCs_23 : zCs[23]? = some (.inl 1) := rfl
theorem zCs_24 : zCs[24]? = some (.inr (0, 6)) := rfl
theorem zCs_25 : zCs[25]? = some (.inr (0, 6)) := rfl
theorem zCs_26 : zCs[26]? = some (.inr (0, 6)) := rfl
theorem zCs_27 : zCs[27]? = some (.inr (0, 6)) := rfl
theorem zCs_28 : zCs[28]? = some (.inr (0, 6)) := rfl
theorem zCs_29 : zCs[29]? = some (.inl 0) := rfl
theorem zCs_30 : zCs[30]? = some (.inr (0, 12)) := rfl
theorem zCs_31 : zCs[31]? = some (.inr (0, 12)) := rfl
theorem zCs_32 : zCs[32]? = some (.inr (0, 16)) := rfl
theorem zCs_33 : zCs[33]? = some (.inr (0, 10)) := rfl
theorem zCs_34 : zCs[34]? = some (.inr (0, 10)) := rfl
theorem zCs_35 : zCs[35]? = some (.inl 5) := rfl
theorem zCs_36 : zCs[36]? = some (.inr (0, 60)) := rfl
theorem zCs_37 : zCs[37]? = some (.inr (0, 60)) := rfl
theorem zCs_38 : zCs[38]? = some (.inr (0, 60)) := rfl
theorem zCs_39 : zCs[39]? = some (.inr (0, 4)) := rfl
theorem zCs_40 : zCs[40]? = some (.inl 5) := rfl
theorem zCs_41 : zCs[41]? = some (.inr (0, 60)) := rfl
theorem zCs_42 : zCs[42]? = some (.inr (0, 60)) := rfl
theorem zCs_43 : zCs[43]? = some (.inr (0, 60)) := rfl
theorem zCs_44 : zCs[44]? = some (.inr (0, 4)) := rfl
theorem zCs_45 : zCs[45]? = some (.inr (0, 60)) := rfl
theorem zCs_46 : zCs[46]? = some (.inr (0, 24)) := rfl
theorem zCs_47 : zCs[47]? = some (.inl 10) := rfl
theorem zCs_48 : zCs[48]? = some (.inl 2) := rfl
theorem zCs_49 : zCs[49]? = some (.inr (0, 8)) := rfl
theorem zCs_50 : zCs[50]? = some (.inr (0, 32)) := rfl
theorem zCs_51 : zCs[51]? = some (.inr (0, 16)) := rfl
theorem zCs_52 : zCs[52]? = some (.inr (0, 32)) := rfl
theorem zCs_53 : zCs[53]? = some (.inl 8) := rfl
theorem zCs_54 : zCs[54]? = some (.inr (0, 10)) := rfl
theorem zCs_55 : zCs[55]? = some (.inr (0, 10)) := rfl
theorem zCs_56 : zCs[56]? = some (.inr (0, 10)) := rfl
theorem zCs_57 : zCs[57]? = some (.inr (0, 10)) := rfl
theorem zCs_58 : zCs[58]? = some (.inr (1, 10)) := rfl
theorem zCs_69 : zCs[69]? = some (.inl 1) := rfl
theorem zCs_70 : zCs[70]? = some (.inr (0, 6)) := rfl
theorem zCs_71 : zCs[71]? = some (.inr (0, 6)) := rfl
theorem zCs_72 : zCs[72]? = some (.inr (0, 6)) := rfl
theorem zCs_73 : zCs[73]? = some (.inr (0, 6)) := rfl
theorem zCs_74 : zCs[74]? = some (.inr (0, 6)) := rfl
theorem zCs_75 : zCs[75]? = some (.inl 0) := rfl
theorem zCs_76 : zCs[76]? = some (.inr (0, 12)) := rfl
theorem zCs_77 : zCs[77]? = some (.inr (0, 12)) := rfl
theorem zCs_81 : zCs[81]? = some (.inl 5) := rfl
theorem zCs_82 : zCs[82]? = some (.inr (0, 60)) := rfl
theorem zCs_83 : zCs[83]? = some (.inr (0, 60)) := rfl
theorem zCs_86 : zCs[86]? = some (.inl 5) := rfl
theorem zCs_87 : zCs[87]? = some (.inr (0, 60)) := rfl
theorem zCs_88 : zCs[88]? = some (.inr (0, 60)) := rfl
theorem zCs_91 : zCs[91]? = some (.inr (0, 60)) := rfl
theorem zCs_92 : zCs[92]? = some (.inr (0, 24)) := rfl
theorem zCs_93 : zCs[93]? = some (.inr (0, 7)) := rfl
theorem zCs_94 : zCs[94]? = some (.inr (0, 4)) := rfl
theorem zCs_95 : zCs[95]? = some (.inr (0, 4)) := rfl
theorem zCs_96 : zCs[96]? = some (.inr (1, 4)) := rfl
theorem zCs_101 : zCs[101]? = some (.inl 4) := rfl
theorem zCs_102 : zCs[102]? = some (.inr (0, 32)) := rfl
theorem zCs_103 : zCs[103]? = some (.inr (0, 8)) := rfl
theorem zCs_104 : zCs[104]? = some (.inl 9) := rfl
theorem zCs_105 : zCs[105]? = some (.inr (0, 16)) := rfl
theorem zCs_106 : zCs[106]? = some (.inr (0, 16)) := rfl
theorem zCs_107 : zCs[107]? = some (.inr (1, 16)) := rfl
theorem zCs_124 : zCs[124]? = some (.inr (1, 16)) := rfl
theorem zCs_141 : zCs[141]? = some (.inl 9) := rfl
theorem zCs_142 : zCs[142]? = some (.inr (0, 16)) := rfl
theorem zCs_143 : zCs[143]? = some (.inr (0, 16)) := rfl
theorem zCs_144 : zCs[144]? = some (.inr (1, 16)) := rfl
theorem zCs_161 : zCs[161]? = some (.inr (1, 16)) := rfl
theorem zCs_178 : zCs[178]? = some (.inl 7) := rfl
theorem zCs_179 : zCs[179]? = some (.inr (0, 9)) := rfl
theorem zCs_180 : zCs[180]? = some (.inl 3) := rfl
theorem zCs_181 : zCs[181]? = some (.inr (0, 60)) := rfl
theorem zCs_182 : zCs[182]? = some (.inr (0, 60)) := rfl
theorem zCs_183 : zCs[183]? = some (.inr (0, 60)) := rfl
theorem zCs_184 : zCs[184]? = some (.inl 6) := rfl
theorem zCs_185 : zCs[185]? = some (.inr (0, 30)) := rfl
theorem zCr_0_0 : zCr 0 0 = some 1 := by decide +kernel
theorem zCr_0_1 : zCr 0 1 = some 47 := by decide +kernel
theorem zCr_0_3 : zCr 0 3 = some 93 := by decide +kernel
theorem zCr_0_4 : zCr 0 4 = some 94 := by decide +kernel
theorem zCr_0_5 : zCr 0 5 = some 95 := by decide +kernel
theorem zCr_0_6 : zCr 0 6 = some 96 := by decide +kernel
theorem zCr_0_7 : zCr 0 7 = some 101 := by decide +kernel
theorem zCr_0_8 : zCr 0 8 = some 104 := by decide +kernel
theorem zCr_0_9 : zCr 0 9 = some 141 := by decide +kernel
theorem zCr_0_10 : zCr 0 10 = some 178 := by decide +kernel
theorem zCr_0_11 : zCr 0 11 = some 180 := by decide +kernel
theorem zCr_0_12 : zCr 0 12 = some 184 := by decide +kernel
theorem zCr_1_0 : zCr 1 0 = some 2 := by decide +kernel
theorem zCr_1_1 : zCr 1 1 = some 7 := by decide +kernel
theorem zCr_1_2 : zCr 1 2 = some 23 := by decide +kernel
theorem zCr_1_3 : zCr 1 3 = some 29 := by decide +kernel
theorem zCr_1_4 : zCr 1 4 = some 35 := by decide +kernel
theorem zCr_1_5 : zCr 1 5 = some 40 := by decide +kernel
theorem zCr_1_6 : zCr 1 6 = some 45 := by decide +kernel
theorem zCr_1_8 : zCr 1 8 = some 46 := by decide +kernel
theorem zCr_2_1 : zCr 2 1 = some 3 := by decide +kernel
theorem zCr_2_3 : zCr 2 3 = some 4 := by decide +kernel
theorem zCr_2_4 : zCr 2 4 = some 5 := by decide +kernel
theorem zCr_2_5 : zCr 2 5 = some 6 := by decide +kernel
theorem zCr_7_1 : zCr 7 1 = some 8 := by decide +kernel
theorem zCr_7_2 : zCr 7 2 = some 9 := by decide +kernel
theorem zCr_7_3 : zCr 7 3 = some 10 := by decide +kernel
theorem zCr_7_4 : zCr 7 4 = some 11 := by decide +kernel
theorem zCr_7_5 : zCr 7 5 = some 12 := by decide +kernel
theorem zCr_23_1 : zCr 23 1 = some 24 := by decide +kernel
theorem zCr_23_2 : zCr 23 2 = some 25 := by decide +kernel
theorem zCr_23_4 : zCr 23 4 = some 26 := by decide +kernel
theorem zCr_23_5 : zCr 23 5 = some 27 := by decide +kernel
theorem zCr_23_6 : zCr 23 6 = some 28 := by decide +kernel
theorem zCr_29_2 : zCr 29 2 = some 30 := by decide +kernel
theorem zCr_29_3 : zCr 29 3 = some 31 := by decide +kernel
theorem zCr_29_5 : zCr 29 5 = some 32 := by decide +kernel
theorem zCr_29_6 : zCr 29 6 = some 33 := by decide +kernel
theorem zCr_29_7 : zCr 29 7 = some 34 := by decide +kernel
theorem zCr_35_2 : zCr 35 2 = some 36 := by decide +kernel
theorem zCr_35_3 : zCr 35 3 = some 37 := by decide +kernel
theorem zCr_35_4 : zCr 35 4 = some 38 := by decide +kernel
theorem zCr_35_5 : zCr 35 5 = some 39 := by decide +kernel
theorem zCr_40_2 : zCr 40 2 = some 41 := by decide +kernel
theorem zCr_40_3 : zCr 40 3 = some 42 := by decide +kernel
theorem zCr_40_4 : zCr 40 4 = some 43 := by decide +kernel
theorem zCr_40_5 : zCr 40 5 = some 44 := by decide +kernel
theorem zCr_47_0 : zCr 47 0 = some 48 := by decide +kernel
theorem zCr_47_1 : zCr 47 1 = some 53 := by decide +kernel
theorem zCr_47_2 : zCr 47 2 = some 69 := by decide +kernel
theorem zCr_47_3 : zCr 47 3 = some 75 := by decide +kernel
theorem zCr_47_4 : zCr 47 4 = some 81 := by decide +kernel
theorem zCr_47_5 : zCr 47 5 = some 86 := by decide +kernel
theorem zCr_47_6 : zCr 47 6 = some 91 := by decide +kernel
theorem zCr_47_8 : zCr 47 8 = some 92 := by decide +kernel
theorem zCr_48_1 : zCr 48 1 = some 49 := by decide +kernel
theorem zCr_48_3 : zCr 48 3 = some 50 := by decide +kernel
theorem zCr_48_4 : zCr 48 4 = some 51 := by decide +kernel
theorem zCr_48_5 : zCr 48 5 = some 52 := by decide +kernel
theorem zCr_53_1 : zCr 53 1 = some 54 := by decide +kernel
theorem zCr_53_2 : zCr 53 2 = some 55 := by decide +kernel
theorem zCr_53_3 : zCr 53 3 = some 56 := by decide +kernel
theorem zCr_53_4 : zCr 53 4 = some 57 := by decide +kernel
theorem zCr_53_5 : zCr 53 5 = some 58 := by decide +kernel
theorem zCr_69_1 : zCr 69 1 = some 70 := by decide +kernel
theorem zCr_69_2 : zCr 69 2 = some 71 := by decide +kernel
theorem zCr_69_4 : zCr 69 4 = some 72 := by decide +kernel
theorem zCr_69_5 : zCr 69 5 = some 73 := by decide +kernel
theorem zCr_69_6 : zCr 69 6 = some 74 := by decide +kernel
theorem zCr_75_2 : zCr 75 2 = some 76 := by decide +kernel
theorem zCr_75_3 : zCr 75 3 = some 77 := by decide +kernel
theorem zCr_81_2 : zCr 81 2 = some 82 := by decide +kernel
theorem zCr_81_3 : zCr 81 3 = some 83 := by decide +kernel
theorem zCr_86_2 : zCr 86 2 = some 87 := by decide +kernel
theorem zCr_86_3 : zCr 86 3 = some 88 := by decide +kernel
theorem zCr_101_0 : zCr 101 0 = some 102 := by decide +kernel
theorem zCr_101_1 : zCr 101 1 = some 103 := by decide +kernel
theorem zCr_104_0 : zCr 104 0 = some 105 := by decide +kernel
theorem zCr_104_1 : zCr 104 1 = some 106 := by decide +kernel
theorem zCr_104_2 : zCr 104 2 = some 107 := by decide +kernel
theorem zCr_104_3 : zCr 104 3 = some 124 := by decide +kernel
theorem zCr_141_0 : zCr 141 0 = some 142 := by decide +kernel
theorem zCr_141_1 : zCr 141 1 = some 143 := by decide +kernel
theorem zCr_141_2 : zCr 141 2 = some 144 := by decide +kernel
theorem zCr_141_3 : zCr 141 3 = some 161 := by decide +kernel
theorem zCr_178_0 : zCr 178 0 = some 179 := by decide +kernel
theorem zCr_180_0 : zCr 180 0 = some 181 := by decide +kernel
theorem zCr_180_1 : zCr 180 1 = some 182 := by decide +kernel
theorem zCr_180_4 : zCr 180 4 = some 183 := by decide +kernel
theorem zCr_184_0 : zCr 184 0 = some 185 := by decide +kernel
theorem zrN_C_12 : ∀ j, j < 10 → zCs[13 + j]? = some (.inr (0, 8)) ∧ zCr 12 j = some (13 + j) := by decide +kernel
theorem zrS_C_12 {x : Int32} (hb : zb x 10 = true) : zCs[13 + x.toNatClampNeg]? = some (.inr (0, 8)) := (zrN_C_12 _ (Nat.not_le.mp fun q => zb_in hb (Or.inr q))).1
theorem zrR_C_12 {x : Int32} (hb : zb x 10 = true) : zCr 12 x.toNatClampNeg = some (13 + x.toNatClampNeg) := (zrN_C_12 _ (Nat.not_le.mp fun q => zb_in hb (Or.inr q))).2
theorem zrN_C_58 : ∀ j, j < 10 → zCs[59 + j]? = some (.inr (0, 8)) ∧ zCr 58 j = some (59 + j) := by decide +kernel
theorem zrS_C_58 {x : Int32} (hb : zb x 10 = true) : zCs[59 + x.toNatClampNeg]? = some (.inr (0, 8)) := (zrN_C_58 _ (Nat.not_le.mp fun q => zb_in hb (Or.inr q))).1
theorem zrR_C_58 {x : Int32} (hb : zb x 10 = true) : zCr 58 x.toNatClampNeg = some (59 + x.toNatClampNeg) := (zrN_C_58 _ (Nat.not_le.mp fun q => zb_in hb (Or.inr q))).2
theorem zrN_C_96 : ∀ j, j < 4 → zCs[97 + j]? = some (.inr (0, 24)) ∧ zCr 96 j = some (97 + j) := by decide +kernel
theorem zrS_C_96 {x : Int32} (hb : zb x 4 = true) : zCs[97 + x.toNatClampNeg]? = some (.inr (0, 24)) := (zrN_C_96 _ (Nat.not_le.mp fun q => zb_in hb (Or.inr q))).1
theorem zrR_C_96 {x : Int32} (hb : zb x 4 = true) : zCr 96 x.toNatClampNeg = some (97 + x.toNatClampNeg) := (zrN_C_96 _ (Nat.not_le.mp fun q => zb_in hb (Or.inr q))).2
theorem zrN_C_107 : ∀ j, j < 16 → zCs[108 + j]? = some (.inr (0, 4)) ∧ zCr 107 j = some (108 + j) := by decide +kernel
theorem zrS_C_107 {x : Int32} (hb : zb x 16 = true) : zCs[108 + x.toNatClampNeg]? = some (.inr (0, 4)) := (zrN_C_107 _ (Nat.not_le.mp fun q => zb_in hb (Or.inr q))).1
theorem zrR_C_107 {x : Int32} (hb : zb x 16 = true) : zCr 107 x.toNatClampNeg = some (108 + x.toNatClampNeg) := (zrN_C_107 _ (Nat.not_le.mp fun q => zb_in hb (Or.inr q))).2
theorem zrN_C_124 : ∀ j, j < 16 → zCs[125 + j]? = some (.inr (0, 4)) ∧ zCr 124 j = some (125 + j) := by decide +kernel
theorem zrS_C_124 {x : Int32} (hb : zb x 16 = true) : zCs[125 + x.toNatClampNeg]? = some (.inr (0, 4)) := (zrN_C_124 _ (Nat.not_le.mp fun q => zb_in hb (Or.inr q))).1
theorem zrR_C_124 {x : Int32} (hb : zb x 16 = true) : zCr 124 x.toNatClampNeg = some (125 + x.toNatClampNeg) := (zrN_C_124 _ (Nat.not_le.mp fun q => zb_in hb (Or.inr q))).2
theorem zrN_C_144 : ∀ j, j < 16 → zCs[145 + j]? = some (.inr (0, 4)) ∧ zCr 144 j = some (145 + j) := by decide +kernel
theorem zrS_C_144 {x : Int32} (hb : zb x 16 = true) : zCs[145 + x.toNatClampNeg]? = some (.inr (0, 4)) := (zrN_C_144 _ (Nat.not_le.mp fun q => zb_in hb (Or.inr q))).1
theorem zrR_C_144 {x : Int32} (hb : zb x 16 = true) : zCr 144 x.toNatClampNeg = some (145 + x.toNatClampNeg) := (zrN_C_144 _ (Nat.not_le.mp fun q => zb_in hb (Or.inr q))).2
theorem zrN_C_161 : ∀ j, j < 16 → zCs[162 + j]? = some (.inr (0, 4)) ∧ zCr 161 j = some (162 + j) := by decide +kernel
theorem zrS_C_161 {x : Int32} (hb : zb x 16 = true) : zCs[162 + x.toNatClampNeg]? = some (.inr (0, 4)) := (zrN_C_161 _ (Nat.not_le.mp fun q => zb_in hb (Or.inr q))).1
theorem zrR_C_161 {x : Int32} (hb : zb x 16 = true) : zCr 161 x.toNatClampNeg = some (162 + x.toNatClampNeg) := (zrN_C_161 _ (Nat.not_le.mp fun q => zb_in hb (Or.inr q))).2
def zMs : List zK := [.inl 12, .inr (0, 448), .inr (0, 448), .inr (0, 7), .inr (0, 32), .inr (2, 2), .inr (0, 60), .inr (0, 4), .inr (0, 60), .inr (0, 16), .inr (0, 64), .inr (0, 30), .inr (0, 4), .inr (0, 4), .inr (0, 96), .inr (0, 24)]
def zMrL : List (List (Option Nat)) := [[some 1, some 2, none, some 3, some 4, some 5, none, none, none, none, some 6, none, some 7, some 8, none, none, some 9, none, none, none, none, none, some 10, none, some 11, none, none, none, some 12, some 13, some 14, some 15], [], [], [], [], [some 100010, some 100011], [], [], [], [], [], [], [], [], [], []]
def zMr : zRf := fun i k => (zMrL.getD i []).getD k none
theorem zMs_0 : zMs[0]? = some (.inl 12) := rfl
theorem zMs_1 : zMs[1]? = some (.inr (0, 448)) := rfl
theorem zMs_2 : zMs[2]? = some (.inr (0, 448)) := rfl
theorem zMs_3 : zMs[3]? = some (.inr (0, 7)) := rfl
theorem zMs_4 : zMs[4]? = some (.inr (0, 32)) := rfl
theorem zMs_5 : zMs[5]? = some (.inr (2, 2)) := rfl
theorem zMs_6 : zMs[6]? = some (.inr (0, 60)) := rfl
theorem zMs_7 : zMs[7]? = some (.inr (0, 4)) := rfl
theorem zMs_8 : zMs[8]? = some (.inr (0, 60)) := rfl
theorem zMs_9 : zMs[9]? = some (.inr (0, 16)) := rfl
theorem zMs_10 : zMs[10]? = some (.inr (0, 64)) := rfl
theorem zMs_11 : zMs[11]? = some (.inr (0, 30)) := rfl
theorem zMs_12 : zMs[12]? = some (.inr (0, 4)) := rfl
theorem zMs_13 : zMs[13]? = some (.inr (0, 4)) := rfl
theorem zMs_14 : zMs[14]? = some (.inr (0, 96)) := rfl
theorem zMs_15 : zMs[15]? = some (.inr (0, 24)) := rfl
theorem zMr_0_0 : zMr 0 0 = some 1 := by decide +kernel
theorem zMr_0_1 : zMr 0 1 = some 2 := by decide +kernel
theorem zMr_0_3 : zMr 0 3 = some 3 := by decide +kernel
theorem zMr_0_4 : zMr 0 4 = some 4 := by decide +kernel
theorem zMr_0_5 : zMr 0 5 = some 5 := by decide +kernel
theorem zMr_0_10 : zMr 0 10 = some 6 := by decide +kernel
theorem zMr_0_12 : zMr 0 12 = some 7 := by decide +kernel
theorem zMr_0_13 : zMr 0 13 = some 8 := by decide +kernel
theorem zMr_0_16 : zMr 0 16 = some 9 := by decide +kernel
theorem zMr_0_22 : zMr 0 22 = some 10 := by decide +kernel
theorem zMr_0_24 : zMr 0 24 = some 11 := by decide +kernel
theorem zMr_0_28 : zMr 0 28 = some 12 := by decide +kernel
theorem zMr_0_29 : zMr 0 29 = some 13 := by decide +kernel
theorem zMr_0_30 : zMr 0 30 = some 14 := by decide +kernel
theorem zMr_0_31 : zMr 0 31 = some 15 := by decide +kernel
def ym_0 : zMt := (⟨"TurnedLand", "square", "(I)I"⟩, prog_1_method_2_code, 3, (Option.some Jvm.ClassFile.FieldType.int))
theorem ca_0 : zCallee ym_0 1 := ⟨zw_426, zw_1, by decide +kernel, by decide +kernel, by decide +kernel⟩
def ym_1 : zMt := (⟨"TurnedLand", "within", "(III)Z"⟩, prog_1_method_51_code, 3, (Option.some Jvm.ClassFile.FieldType.boolean))
theorem ca_1 : zCallee ym_1 3 := ⟨zw_429, zw_1, by decide +kernel, by decide +kernel, by decide +kernel⟩
def ym_2 : zMt := (⟨"TurnedLand", "refuse", "(I)I"⟩, prog_1_method_50_code, 2, (Option.some Jvm.ClassFile.FieldType.int))
theorem ca_2 : zCallee ym_2 1 := ⟨zw_433, zw_1, by decide +kernel, by decide +kernel, by decide +kernel⟩
def ym_3 : zMt := (⟨"TurnedLand", "cost", "(II)I"⟩, prog_1_method_3_code, 5, (Option.some Jvm.ClassFile.FieldType.int))
theorem ca_3 : zCallee ym_3 2 := ⟨zw_438, zw_1, by decide +kernel, by decide +kernel, by decide +kernel⟩
def ym_4 : zMt := (⟨"TurnedLand$Ground", "hasSquare", "(I)Z"⟩, prog_4_method_3_code, 2, (Option.some Jvm.ClassFile.FieldType.boolean))
theorem ca_4 : zCallee ym_4 1 := ⟨zw_442, zw_3, by decide +kernel, by decide +kernel, by decide +kernel⟩
def ym_5 : zMt := (⟨"TurnedLand", "join", "(III)I"⟩, prog_1_method_4_code, 5, (Option.some Jvm.ClassFile.FieldType.int))
theorem ca_5 : zCallee ym_5 3 := ⟨zw_447, zw_1, by decide +kernel, by decide +kernel, by decide +kernel⟩
def ym_6 : zMt := (⟨"TurnedLand$Ground", "joinError", "(III)I"⟩, prog_4_method_7_code, 5, (Option.some Jvm.ClassFile.FieldType.int))
theorem ca_6 : zCallee ym_6 3 := ⟨zw_451, zw_3, by decide +kernel, by decide +kernel, by decide +kernel⟩
def ym_7 : zMt := (⟨"TurnedLand$Ground", "hasEdge", "(I)Z"⟩, prog_4_method_5_code, 2, (Option.some Jvm.ClassFile.FieldType.boolean))
theorem ca_7 : zCallee ym_7 1 := ⟨zw_455, zw_3, by decide +kernel, by decide +kernel, by decide +kernel⟩
def ym_8 : zMt := (⟨"TurnedLand$Ground", "addJoin", "(III)I"⟩, prog_4_method_8_code, 4, (Option.some Jvm.ClassFile.FieldType.int))
theorem ca_8 : zCallee ym_8 3 := ⟨zw_459, zw_3, by decide +kernel, by decide +kernel, by decide +kernel⟩
def ym_9 : zMt := (⟨"TurnedLand", "joinIs", "(II)I"⟩, prog_1_method_5_code, 4, (Option.some Jvm.ClassFile.FieldType.int))
theorem ca_9 : zCallee ym_9 2 := ⟨zw_463, zw_1, by decide +kernel, by decide +kernel, by decide +kernel⟩
def ym_10 : zMt := (⟨"TurnedLand$Ground", "hasJoin", "(I)Z"⟩, prog_4_method_6_code, 2, (Option.some Jvm.ClassFile.FieldType.boolean))
theorem ca_10 : zCallee ym_10 1 := ⟨zw_467, zw_3, by decide +kernel, by decide +kernel, by decide +kernel⟩
def ym_11 : zMt := (⟨"TurnedLand", "turn", "(II)I"⟩, prog_1_method_6_code, 5, (Option.some Jvm.ClassFile.FieldType.int))
theorem ca_11 : zCallee ym_11 2 := ⟨zw_471, zw_1, by decide +kernel, by decide +kernel, by decide +kernel⟩
def ym_12 : zMt := (⟨"TurnedLand", "part", "()I"⟩, prog_1_method_7_code, 2, (Option.some Jvm.ClassFile.FieldType.int))
theorem ca_12 : zCallee ym_12 0 := ⟨zw_475, zw_1, by decide +kernel, by decide +kernel, by decide +kernel⟩
def ym_13 : zMt := (⟨"TurnedLand$Ground", "takeOffLatest", "()V"⟩, prog_4_method_9_code, 1, (Option.none : Option Jvm.ClassFile.FieldType))
theorem ca_13 : zCallee ym_13 0 := ⟨zw_479, zw_3, by decide +kernel, by decide +kernel, by decide +kernel⟩
def ym_14 : zMt := (⟨"TurnedLand", "across", "(I)I"⟩, prog_1_method_8_code, 3, (Option.some Jvm.ClassFile.FieldType.int))
theorem ca_14 : zCallee ym_14 1 := ⟨zw_483, zw_1, by decide +kernel, by decide +kernel, by decide +kernel⟩
def ym_15 : zMt := (⟨"TurnedLand$Ground", "otherEdge", "(I)I"⟩, prog_4_method_10_code, 3, (Option.some Jvm.ClassFile.FieldType.int))
theorem ca_15 : zCallee ym_15 1 := ⟨zw_488, zw_3, by decide +kernel, by decide +kernel, by decide +kernel⟩
def ym_16 : zMt := (⟨"TurnedLand", "land", "(I)I"⟩, prog_1_method_9_code, 3, (Option.some Jvm.ClassFile.FieldType.int))
theorem ca_16 : zCallee ym_16 1 := ⟨zw_492, zw_1, by decide +kernel, by decide +kernel, by decide +kernel⟩
def ym_17 : zMt := (⟨"TurnedLand$Shape", "corners", "(LTurnedLand$Ground;)I"⟩, prog_6_method_2_code, 2, (Option.some Jvm.ClassFile.FieldType.int))
theorem ca_17 : zCallee ym_17 1 := ⟨zw_496, zw_9, by decide +kernel, by decide +kernel, by decide +kernel⟩
def ym_18 : zMt := (⟨"TurnedLand$Shape", "makeCornersOne", "(LTurnedLand$Ground;)V"⟩, prog_6_method_8_code, 7, (Option.none : Option Jvm.ClassFile.FieldType))
theorem ca_18 : zCallee ym_18 1 := ⟨zw_500, zw_9, by decide +kernel, by decide +kernel, by decide +kernel⟩
def ym_19 : zMt := (⟨"TurnedLand$Shape", "begin", "(I)V"⟩, prog_6_method_10_code, 3, (Option.none : Option Jvm.ClassFile.FieldType))
theorem ca_19 : zCallee ym_19 1 := ⟨zw_504, zw_9, by decide +kernel, by decide +kernel, by decide +kernel⟩
def ym_20 : zMt := (⟨"TurnedLand$Shape", "secondCorner", "(I)I"⟩, prog_6_method_7_code, 1, (Option.some Jvm.ClassFile.FieldType.int))
theorem ca_20 : zCallee ym_20 1 := ⟨zw_507, zw_9, by decide +kernel, by decide +kernel, by decide +kernel⟩
def ym_21 : zMt := (⟨"TurnedLand$Shape", "makeOne", "(III)V"⟩, prog_6_method_11_code, 7, (Option.none : Option Jvm.ClassFile.FieldType))
theorem ca_21 : zCallee ym_21 3 := ⟨zw_511, zw_9, by decide +kernel, by decide +kernel, by decide +kernel⟩
def ym_22 : zMt := (⟨"TurnedLand$Shape", "labelsLeft", "(I)I"⟩, prog_6_method_12_code, 4, (Option.some Jvm.ClassFile.FieldType.int))
theorem ca_22 : zCallee ym_22 1 := ⟨zw_515, zw_9, by decide +kernel, by decide +kernel, by decide +kernel⟩
def ym_23 : zMt := (⟨"TurnedLand", "edgesOnce", "(LTurnedLand$Ground;)I"⟩, prog_1_method_53_code, 1, (Option.some Jvm.ClassFile.FieldType.int))
theorem ca_23 : zCallee ym_23 1 := ⟨zw_518, zw_1, by decide +kernel, by decide +kernel, by decide +kernel⟩
def ym_24 : zMt := (⟨"TurnedLand$Shape", "parts", "(LTurnedLand$Ground;)I"⟩, prog_6_method_3_code, 3, (Option.some Jvm.ClassFile.FieldType.int))
theorem ca_24 : zCallee ym_24 1 := ⟨zw_522, zw_9, by decide +kernel, by decide +kernel, by decide +kernel⟩
def ym_25 : zMt := (⟨"TurnedLand$Shape", "rims", "(LTurnedLand$Ground;)I"⟩, prog_6_method_4_code, 5, (Option.some Jvm.ClassFile.FieldType.int))
theorem ca_25 : zCallee ym_25 1 := ⟨zw_526, zw_9, by decide +kernel, by decide +kernel, by decide +kernel⟩
def ym_26 : zMt := (⟨"java/lang/Integer", "bitCount", "(I)I"⟩, prog_15_method_49_code, 1, (Option.some Jvm.ClassFile.FieldType.int))
theorem ca_26 : zCallee ym_26 1 := ⟨zw_529, zw_15, by decide +kernel, by decide +kernel, by decide +kernel⟩
def ym_27 : zMt := (⟨"TurnedLand$Shape", "turnsHome", "(LTurnedLand$Ground;I)Z"⟩, prog_6_method_5_code, 5, (Option.some Jvm.ClassFile.FieldType.boolean))
theorem ca_27 : zCallee ym_27 2 := ⟨zw_536, zw_9, by decide +kernel, by decide +kernel, by decide +kernel⟩
def ym_28 : zMt := (⟨"java/util/Arrays", "fill", "([II)V"⟩, prog_21_method_103_code, 4, (Option.none : Option Jvm.ClassFile.FieldType))
theorem ca_28 : zCallee ym_28 2 := ⟨zw_44, zw_4, by decide +kernel, by decide +kernel, by decide +kernel⟩
def ym_29 : zMt := (⟨"TurnedLand$Shape", "hangsTogether", "(LTurnedLand$Ground;I)Z"⟩, prog_6_method_9_code, 8, (Option.some Jvm.ClassFile.FieldType.boolean))
theorem ca_29 : zCallee ym_29 2 := ⟨zw_541, zw_9, by decide +kernel, by decide +kernel, by decide +kernel⟩
def ym_30 : zMt := (⟨"TurnedLand", "plain", "()I"⟩, prog_1_method_10_code, 2, (Option.some Jvm.ClassFile.FieldType.int))
theorem ca_30 : zCallee ym_30 0 := ⟨zw_545, zw_1, by decide +kernel, by decide +kernel, by decide +kernel⟩
def ym_31 : zMt := (⟨"TurnedLand$Shape", "leastCuts", "(LTurnedLand$Ground;)I"⟩, prog_6_method_6_code, 4, (Option.some Jvm.ClassFile.FieldType.int))
theorem ca_31 : zCallee ym_31 1 := ⟨zw_549, zw_9, by decide +kernel, by decide +kernel, by decide +kernel⟩
def ym_32 : zMt := (⟨"TurnedLand", "feed", "(JI)I"⟩, prog_1_method_11_code, 5, (Option.some Jvm.ClassFile.FieldType.int))
theorem ca_32 : zCallee ym_32 2 := ⟨zw_554, zw_1, by decide +kernel, by decide +kernel, by decide +kernel⟩
def ym_33 : zMt := (⟨"TurnedLand", "text", "(I)I"⟩, prog_1_method_12_code, 3, (Option.some Jvm.ClassFile.FieldType.int))
theorem ca_33 : zCallee ym_33 1 := ⟨zw_558, zw_1, by decide +kernel, by decide +kernel, by decide +kernel⟩
def ym_34 : zMt := (⟨"TurnedLand$Reader", "read", "([III)Z"⟩, prog_5_method_2_code, 4, (Option.some Jvm.ClassFile.FieldType.boolean))
theorem ca_34 : zCallee ym_34 3 := ⟨zw_562, zw_12, by decide +kernel, by decide +kernel, by decide +kernel⟩
def ym_35 : zMt := (⟨"TurnedLand$Reader", "readOr", "(I)Z"⟩, prog_5_method_5_code, 3, (Option.some Jvm.ClassFile.FieldType.boolean))
theorem ca_35 : zCallee ym_35 1 := ⟨zw_569, zw_12, by decide +kernel, by decide +kernel, by decide +kernel⟩
def ym_36 : zMt := (⟨"TurnedLand$Reader", "readAnd", "(I)Z"⟩, prog_5_method_6_code, 3, (Option.some Jvm.ClassFile.FieldType.boolean))
theorem ca_36 : zCallee ym_36 1 := ⟨zw_573, zw_12, by decide +kernel, by decide +kernel, by decide +kernel⟩
def ym_37 : zMt := (⟨"TurnedLand$Reader", "readCompared", "(I)Z"⟩, prog_5_method_7_code, 3, (Option.some Jvm.ClassFile.FieldType.boolean))
theorem ca_37 : zCallee ym_37 1 := ⟨zw_577, zw_12, by decide +kernel, by decide +kernel, by decide +kernel⟩
def ym_38 : zMt := (⟨"TurnedLand$Reader", "readSum", "(I)Z"⟩, prog_5_method_8_code, 4, (Option.some Jvm.ClassFile.FieldType.boolean))
theorem ca_38 : zCallee ym_38 1 := ⟨zw_581, zw_12, by decide +kernel, by decide +kernel, by decide +kernel⟩
def ym_39 : zMt := (⟨"TurnedLand$Reader", "readProduct", "(I)Z"⟩, prog_5_method_9_code, 4, (Option.some Jvm.ClassFile.FieldType.boolean))
theorem ca_39 : zCallee ym_39 1 := ⟨zw_585, zw_12, by decide +kernel, by decide +kernel, by decide +kernel⟩
def ym_40 : zMt := (⟨"TurnedLand$Reader", "readSingle", "(I)Z"⟩, prog_5_method_10_code, 3, (Option.some Jvm.ClassFile.FieldType.boolean))
theorem ca_40 : zCallee ym_40 1 := ⟨zw_589, zw_12, by decide +kernel, by decide +kernel, by decide +kernel⟩
def ym_41 : zMt := (⟨"TurnedLand$Reader", "next", "()I"⟩, prog_5_method_3_code, 1, (Option.some Jvm.ClassFile.FieldType.int))
theorem ca_41 : zCallee ym_41 0 := ⟨zw_593, zw_12, by decide +kernel, by decide +kernel, by decide +kernel⟩
def ym_42 : zMt := (⟨"TurnedLand$Reader", "write", "(II)V"⟩, prog_5_method_4_code, 3, (Option.none : Option Jvm.ClassFile.FieldType))
theorem ca_42 : zCallee ym_42 2 := ⟨zw_605, zw_12, by decide +kernel, by decide +kernel, by decide +kernel⟩
def ym_43 : zMt := (⟨"TurnedLand$Reader", "isDigit", "(I)Z"⟩, prog_5_method_13_code, 1, (Option.some Jvm.ClassFile.FieldType.boolean))
theorem ca_43 : zCallee ym_43 1 := ⟨zw_596, zw_12, by decide +kernel, by decide +kernel, by decide +kernel⟩
def ym_44 : zMt := (⟨"TurnedLand$Reader", "readName", "(I)Z"⟩, prog_5_method_12_code, 4, (Option.some Jvm.ClassFile.FieldType.boolean))
theorem ca_44 : zCallee ym_44 1 := ⟨zw_609, zw_12, by decide +kernel, by decide +kernel, by decide +kernel⟩
def ym_45 : zMt := (⟨"TurnedLand$Reader", "readNumber", "()Z"⟩, prog_5_method_11_code, 3, (Option.some Jvm.ClassFile.FieldType.boolean))
theorem ca_45 : zCallee ym_45 0 := ⟨zw_601, zw_12, by decide +kernel, by decide +kernel, by decide +kernel⟩
def ym_46 : zMt := (⟨"TurnedLand", "textOf", "(I)LTurnedLand$Text;"⟩, prog_1_method_54_code, 2, (Option.some (Jvm.ClassFile.FieldType.object "TurnedLand$Text")))
theorem ca_46 : zCallee ym_46 1 := ⟨zw_617, zw_1, by decide +kernel, by decide +kernel, by decide +kernel⟩
def ym_47 : zMt := (⟨"TurnedLand$Text", "takeFrom", "(LTurnedLand$Reader;)V"⟩, prog_7_method_3_code, 2, (Option.none : Option Jvm.ClassFile.FieldType))
theorem ca_47 : zCallee ym_47 1 := ⟨zw_621, zw_8, by decide +kernel, by decide +kernel, by decide +kernel⟩
def ym_48 : zMt := (⟨"TurnedLand", "untell", "(I)I"⟩, prog_1_method_13_code, 4, (Option.some Jvm.ClassFile.FieldType.int))
theorem ca_48 : zCallee ym_48 1 := ⟨zw_626, zw_1, by decide +kernel, by decide +kernel, by decide +kernel⟩
def ym_49 : zMt := (⟨"TurnedLand", "soonest", "(II)I"⟩, prog_1_method_14_code, 3, (Option.some Jvm.ClassFile.FieldType.int))
theorem ca_49 : zCallee ym_49 2 := ⟨zw_630, zw_1, by decide +kernel, by decide +kernel, by decide +kernel⟩
def ym_50 : zMt := (⟨"TurnedLand$Ground", "hasPlace", "(I)Z"⟩, prog_4_method_4_code, 2, (Option.some Jvm.ClassFile.FieldType.boolean))
theorem ca_50 : zCallee ym_50 1 := ⟨zw_634, zw_3, by decide +kernel, by decide +kernel, by decide +kernel⟩
def ym_51 : zMt := (⟨"TurnedLand$Ways", "survey", "(LTurnedLand$World;)V"⟩, prog_11_method_2_code, 4, (Option.none : Option Jvm.ClassFile.FieldType))
theorem ca_51 : zCallee ym_51 1 := ⟨zw_638, zw_10, by decide +kernel, by decide +kernel, by decide +kernel⟩
def ym_52 : zMt := (⟨"TurnedLand$Ground", "comesTo", "(II)I"⟩, prog_4_method_11_code, 5, (Option.some Jvm.ClassFile.FieldType.int))
theorem ca_52 : zCallee ym_52 2 := ⟨zw_642, zw_3, by decide +kernel, by decide +kernel, by decide +kernel⟩
def ym_53 : zMt := (⟨"TurnedLand$World", "hours", "(II)I"⟩, prog_12_method_4_code, 7, (Option.some Jvm.ClassFile.FieldType.int))
theorem ca_53 : zCallee ym_53 2 := ⟨zw_647, zw_2, by decide +kernel, by decide +kernel, by decide +kernel⟩
def ym_54 : zMt := (⟨"TurnedLand$Text", "workOut", "(IIII)I"⟩, prog_7_method_4_code, 8, (Option.some Jvm.ClassFile.FieldType.int))
theorem ca_54 : zCallee ym_54 4 := ⟨zw_652, zw_8, by decide +kernel, by decide +kernel, by decide +kernel⟩
def ym_55 : zMt := (⟨"TurnedLand$Text", "valueAt", "(I)I"⟩, prog_7_method_5_code, 3, (Option.some Jvm.ClassFile.FieldType.int))
theorem ca_55 : zCallee ym_55 1 := ⟨zw_656, zw_8, by decide +kernel, by decide +kernel, by decide +kernel⟩
def ym_56 : zMt := (⟨"TurnedLand$Text", "combine", "(III)I"⟩, prog_7_method_6_code, 3, (Option.some Jvm.ClassFile.FieldType.int))
theorem ca_56 : zCallee ym_56 3 := ⟨zw_663, zw_8, by decide +kernel, by decide +kernel, by decide +kernel⟩
def ym_57 : zMt := (⟨"TurnedLand$Text", "bit", "(Z)I"⟩, prog_7_method_7_code, 1, (Option.some Jvm.ClassFile.FieldType.int))
theorem ca_57 : zCallee ym_57 1 := ⟨zw_660, zw_8, by decide +kernel, by decide +kernel, by decide +kernel⟩
def ym_58 : zMt := (⟨"TurnedLand", "held", "(III)I"⟩, prog_1_method_52_code, 3, (Option.some Jvm.ClassFile.FieldType.int))
theorem ca_58 : zCallee ym_58 3 := ⟨zw_666, zw_1, by decide +kernel, by decide +kernel, by decide +kernel⟩
def ym_59 : zMt := (⟨"TurnedLand$Ways", "spread", "(I)V"⟩, prog_11_method_3_code, 7, (Option.none : Option Jvm.ClassFile.FieldType))
theorem ca_59 : zCallee ym_59 1 := ⟨zw_676, zw_10, by decide +kernel, by decide +kernel, by decide +kernel⟩
def ym_60 : zMt := (⟨"TurnedLand$Ways", "nearest", "(I)I"⟩, prog_11_method_5_code, 5, (Option.some Jvm.ClassFile.FieldType.int))
theorem ca_60 : zCallee ym_60 1 := ⟨zw_681, zw_10, by decide +kernel, by decide +kernel, by decide +kernel⟩
def ym_61 : zMt := (⟨"TurnedLand$Ways", "comeTo", "(III)V"⟩, prog_11_method_6_code, 4, (Option.none : Option Jvm.ClassFile.FieldType))
theorem ca_61 : zCallee ym_61 3 := ⟨zw_685, zw_10, by decide +kernel, by decide +kernel, by decide +kernel⟩
def ym_62 : zMt := (⟨"TurnedLand", "reached", "(I)I"⟩, prog_1_method_15_code, 4, (Option.some Jvm.ClassFile.FieldType.int))
theorem ca_62 : zCallee ym_62 1 := ⟨zw_689, zw_1, by decide +kernel, by decide +kernel, by decide +kernel⟩
def ym_63 : zMt := (⟨"TurnedLand", "first", "(II)I"⟩, prog_1_method_16_code, 4, (Option.some Jvm.ClassFile.FieldType.int))
theorem ca_63 : zCallee ym_63 2 := ⟨zw_693, zw_1, by decide +kernel, by decide +kernel, by decide +kernel⟩
def ym_64 : zMt := (⟨"TurnedLand", "walk", "(III)I"⟩, prog_1_method_17_code, 6, (Option.some Jvm.ClassFile.FieldType.int))
theorem ca_64 : zCallee ym_64 3 := ⟨zw_697, zw_1, by decide +kernel, by decide +kernel, by decide +kernel⟩
def ym_65 : zMt := (⟨"TurnedLand$Walks", "stepsOf", "(I)I"⟩, prog_10_method_4_code, 4, (Option.some Jvm.ClassFile.FieldType.int))
theorem ca_65 : zCallee ym_65 1 := ⟨zw_700, zw_5, by decide +kernel, by decide +kernel, by decide +kernel⟩
def ym_66 : zMt := (⟨"TurnedLand$Walks", "add", "(III)I"⟩, prog_10_method_5_code, 6, (Option.some Jvm.ClassFile.FieldType.int))
theorem ca_66 : zCallee ym_66 3 := ⟨zw_705, zw_5, by decide +kernel, by decide +kernel, by decide +kernel⟩
def ym_67 : zMt := (⟨"TurnedLand", "walkIs", "(II)I"⟩, prog_1_method_18_code, 4, (Option.some Jvm.ClassFile.FieldType.int))
theorem ca_67 : zCallee ym_67 2 := ⟨zw_710, zw_1, by decide +kernel, by decide +kernel, by decide +kernel⟩
def ym_68 : zMt := (⟨"TurnedLand$Walks", "has", "(I)Z"⟩, prog_10_method_3_code, 2, (Option.some Jvm.ClassFile.FieldType.boolean))
theorem ca_68 : zCallee ym_68 1 := ⟨zw_714, zw_5, by decide +kernel, by decide +kernel, by decide +kernel⟩
def ym_69 : zMt := (⟨"TurnedLand$Walker", "isSo", "(LTurnedLand$World;I)Z"⟩, prog_9_method_8_code, 6, (Option.some Jvm.ClassFile.FieldType.boolean))
theorem ca_69 : zCallee ym_69 2 := ⟨zw_718, zw_11, by decide +kernel, by decide +kernel, by decide +kernel⟩
def ym_70 : zMt := (⟨"TurnedLand$Walker", "goes", "(LTurnedLand$World;II)Z"⟩, prog_9_method_2_code, 7, (Option.some Jvm.ClassFile.FieldType.boolean))
theorem ca_70 : zCallee ym_70 3 := ⟨zw_722, zw_11, by decide +kernel, by decide +kernel, by decide +kernel⟩
def ym_71 : zMt := (⟨"TurnedLand$Walker", "end", "()I"⟩, prog_9_method_3_code, 1, (Option.some Jvm.ClassFile.FieldType.int))
theorem ca_71 : zCallee ym_71 0 := ⟨zw_728, zw_11, by decide +kernel, by decide +kernel, by decide +kernel⟩
def ym_72 : zMt := (⟨"TurnedLand$Walker", "hours", "(LTurnedLand$World;I)I"⟩, prog_9_method_4_code, 5, (Option.some Jvm.ClassFile.FieldType.int))
theorem ca_72 : zCallee ym_72 2 := ⟨zw_732, zw_11, by decide +kernel, by decide +kernel, by decide +kernel⟩
def ym_73 : zMt := (⟨"TurnedLand$Walker", "seen", "()I"⟩, prog_9_method_9_code, 3, (Option.some Jvm.ClassFile.FieldType.int))
theorem ca_73 : zCallee ym_73 0 := ⟨zw_737, zw_11, by decide +kernel, by decide +kernel, by decide +kernel⟩
def ym_74 : zMt := (⟨"TurnedLand", "as", "(II)I"⟩, prog_1_method_19_code, 4, (Option.some Jvm.ClassFile.FieldType.int))
theorem ca_74 : zCallee ym_74 2 := ⟨zw_741, zw_1, by decide +kernel, by decide +kernel, by decide +kernel⟩
def ym_75 : zMt := (⟨"TurnedLand", "isUnder", "(II)Z"⟩, prog_1_method_55_code, 4, (Option.some Jvm.ClassFile.FieldType.boolean))
theorem ca_75 : zCallee ym_75 2 := ⟨zw_744, zw_1, by decide +kernel, by decide +kernel, by decide +kernel⟩
def ym_76 : zMt := (⟨"TurnedLand", "set", "(III)I"⟩, prog_1_method_20_code, 6, (Option.some Jvm.ClassFile.FieldType.int))
theorem ca_76 : zCallee ym_76 3 := ⟨zw_750, zw_1, by decide +kernel, by decide +kernel, by decide +kernel⟩
def ym_77 : zMt := (⟨"TurnedLand", "gone", "(III)I"⟩, prog_1_method_21_code, 4, (Option.some Jvm.ClassFile.FieldType.int))
theorem ca_77 : zCallee ym_77 3 := ⟨zw_754, zw_1, by decide +kernel, by decide +kernel, by decide +kernel⟩
def ym_78 : zMt := (⟨"TurnedLand$Walker", "turns", "()I"⟩, prog_9_method_5_code, 3, (Option.some Jvm.ClassFile.FieldType.int))
theorem ca_78 : zCallee ym_78 0 := ⟨zw_761, zw_11, by decide +kernel, by decide +kernel, by decide +kernel⟩
def ym_79 : zMt := (⟨"TurnedLand", "stops", "(I)I"⟩, prog_1_method_22_code, 2, (Option.some Jvm.ClassFile.FieldType.int))
theorem ca_79 : zCallee ym_79 1 := ⟨zw_765, zw_1, by decide +kernel, by decide +kernel, by decide +kernel⟩
def ym_80 : zMt := (⟨"TurnedLand", "person", "(I)I"⟩, prog_1_method_23_code, 3, (Option.some Jvm.ClassFile.FieldType.int))
theorem ca_80 : zCallee ym_80 1 := ⟨zw_769, zw_1, by decide +kernel, by decide +kernel, by decide +kernel⟩
def ym_81 : zMt := (⟨"TurnedLand", "personIs", "(II)I"⟩, prog_1_method_24_code, 4, (Option.some Jvm.ClassFile.FieldType.int))
theorem ca_81 : zCallee ym_81 2 := ⟨zw_773, zw_1, by decide +kernel, by decide +kernel, by decide +kernel⟩
def ym_82 : zMt := (⟨"TurnedLand$Folk", "hasPerson", "(I)Z"⟩, prog_3_method_3_code, 2, (Option.some Jvm.ClassFile.FieldType.boolean))
theorem ca_82 : zCallee ym_82 1 := ⟨zw_777, zw_6, by decide +kernel, by decide +kernel, by decide +kernel⟩
def ym_83 : zMt := (⟨"TurnedLand", "cross", "(II)I"⟩, prog_1_method_25_code, 3, (Option.some Jvm.ClassFile.FieldType.int))
theorem ca_83 : zCallee ym_83 2 := ⟨zw_782, zw_1, by decide +kernel, by decide +kernel, by decide +kernel⟩
def ym_84 : zMt := (⟨"TurnedLand$World", "crosses", "(II)Z"⟩, prog_12_method_6_code, 5, (Option.some Jvm.ClassFile.FieldType.boolean))
theorem ca_84 : zCallee ym_84 2 := ⟨zw_786, zw_2, by decide +kernel, by decide +kernel, by decide +kernel⟩
def ym_85 : zMt := (⟨"TurnedLand", "stroll", "(II)I"⟩, prog_1_method_26_code, 4, (Option.some Jvm.ClassFile.FieldType.int))
theorem ca_85 : zCallee ym_85 2 := ⟨zw_793, zw_1, by decide +kernel, by decide +kernel, by decide +kernel⟩
def ym_86 : zMt := (⟨"TurnedLand$World", "draw", "()I"⟩, prog_12_method_3_code, 1, (Option.some Jvm.ClassFile.FieldType.int))
theorem ca_86 : zCallee ym_86 0 := ⟨zw_797, zw_2, by decide +kernel, by decide +kernel, by decide +kernel⟩
def ym_87 : zMt := (⟨"TurnedLand", "meet", "(III)I"⟩, prog_1_method_27_code, 7, (Option.some Jvm.ClassFile.FieldType.int))
theorem ca_87 : zCallee ym_87 3 := ⟨zw_802, zw_1, by decide +kernel, by decide +kernel, by decide +kernel⟩
def ym_88 : zMt := (⟨"TurnedLand", "meetingPlace", "(II)I"⟩, prog_1_method_56_code, 7, (Option.some Jvm.ClassFile.FieldType.int))
theorem ca_88 : zCallee ym_88 2 := ⟨zw_806, zw_1, by decide +kernel, by decide +kernel, by decide +kernel⟩
def ym_89 : zMt := (⟨"TurnedLand", "thing", "(III)I"⟩, prog_1_method_28_code, 6, (Option.some Jvm.ClassFile.FieldType.int))
theorem ca_89 : zCallee ym_89 3 := ⟨zw_810, zw_1, by decide +kernel, by decide +kernel, by decide +kernel⟩
def ym_90 : zMt := (⟨"TurnedLand$Folk", "addThing", "(III)I"⟩, prog_3_method_5_code, 4, (Option.some Jvm.ClassFile.FieldType.int))
theorem ca_90 : zCallee ym_90 3 := ⟨zw_814, zw_6, by decide +kernel, by decide +kernel, by decide +kernel⟩
def ym_91 : zMt := (⟨"TurnedLand", "thingIs", "(II)I"⟩, prog_1_method_29_code, 4, (Option.some Jvm.ClassFile.FieldType.int))
theorem ca_91 : zCallee ym_91 2 := ⟨zw_818, zw_1, by decide +kernel, by decide +kernel, by decide +kernel⟩
def ym_92 : zMt := (⟨"TurnedLand$Folk", "hasThing", "(I)Z"⟩, prog_3_method_4_code, 2, (Option.some Jvm.ClassFile.FieldType.boolean))
theorem ca_92 : zCallee ym_92 1 := ⟨zw_822, zw_6, by decide +kernel, by decide +kernel, by decide +kernel⟩
def ym_93 : zMt := (⟨"TurnedLand$World", "price", "(III)I"⟩, prog_12_method_5_code, 7, (Option.some Jvm.ClassFile.FieldType.int))
theorem ca_93 : zCallee ym_93 3 := ⟨zw_826, zw_2, by decide +kernel, by decide +kernel, by decide +kernel⟩
def ym_94 : zMt := (⟨"TurnedLand", "bring", "(I)I"⟩, prog_1_method_30_code, 8, (Option.some Jvm.ClassFile.FieldType.int))
theorem ca_94 : zCallee ym_94 1 := ⟨zw_830, zw_1, by decide +kernel, by decide +kernel, by decide +kernel⟩
def ym_95 : zMt := (⟨"TurnedLand$Ways", "sooner", "(I)I"⟩, prog_11_method_4_code, 5, (Option.some Jvm.ClassFile.FieldType.int))
theorem ca_95 : zCallee ym_95 1 := ⟨zw_834, zw_10, by decide +kernel, by decide +kernel, by decide +kernel⟩
def ym_96 : zMt := (⟨"TurnedLand", "doubt", "(I)I"⟩, prog_1_method_31_code, 4, (Option.some Jvm.ClassFile.FieldType.int))
theorem ca_96 : zCallee ym_96 1 := ⟨zw_838, zw_1, by decide +kernel, by decide +kernel, by decide +kernel⟩
def ym_97 : zMt := (⟨"TurnedLand", "fact", "(II)I"⟩, prog_1_method_32_code, 4, (Option.some Jvm.ClassFile.FieldType.int))
theorem ca_97 : zCallee ym_97 2 := ⟨zw_843, zw_1, by decide +kernel, by decide +kernel, by decide +kernel⟩
def ym_98 : zMt := (⟨"TurnedLand", "forget", "()I"⟩, prog_1_method_33_code, 2, (Option.some Jvm.ClassFile.FieldType.int))
theorem ca_98 : zCallee ym_98 0 := ⟨zw_847, zw_1, by decide +kernel, by decide +kernel, by decide +kernel⟩
def ym_99 : zMt := (⟨"TurnedLand", "agree", "()I"⟩, prog_1_method_34_code, 1, (Option.some Jvm.ClassFile.FieldType.int))
theorem ca_99 : zCallee ym_99 0 := ⟨zw_851, zw_1, by decide +kernel, by decide +kernel, by decide +kernel⟩
def ym_100 : zMt := (⟨"TurnedLand$Doubts", "weigh", "(LTurnedLand$World;LTurnedLand$Walker;)V"⟩, prog_2_method_3_code, 6, (Option.none : Option Jvm.ClassFile.FieldType))
theorem ca_100 : zCallee ym_100 2 := ⟨zw_855, zw_7, by decide +kernel, by decide +kernel, by decide +kernel⟩
def ym_101 : zMt := (⟨"TurnedLand$Ground", "turnedSet", "()I"⟩, prog_4_method_13_code, 3, (Option.some Jvm.ClassFile.FieldType.int))
theorem ca_101 : zCallee ym_101 0 := ⟨zw_869, zw_3, by decide +kernel, by decide +kernel, by decide +kernel⟩
def ym_102 : zMt := (⟨"TurnedLand$Doubts", "areSo", "(I)Z"⟩, prog_2_method_5_code, 4, (Option.some Jvm.ClassFile.FieldType.boolean))
theorem ca_102 : zCallee ym_102 1 := ⟨zw_874, zw_7, by decide +kernel, by decide +kernel, by decide +kernel⟩
def ym_103 : zMt := (⟨"TurnedLand$Doubts", "turnsOver", "(II)I"⟩, prog_2_method_7_code, 2, (Option.some Jvm.ClassFile.FieldType.int))
theorem ca_103 : zCallee ym_103 2 := ⟨zw_877, zw_7, by decide +kernel, by decide +kernel, by decide +kernel⟩
def ym_104 : zMt := (⟨"TurnedLand$Doubts", "countIn", "(LTurnedLand$World;I)V"⟩, prog_2_method_6_code, 4, (Option.none : Option Jvm.ClassFile.FieldType))
theorem ca_104 : zCallee ym_104 2 := ⟨zw_881, zw_7, by decide +kernel, by decide +kernel, by decide +kernel⟩
def ym_105 : zMt := (⟨"TurnedLand$Walker", "oddJoins", "(LTurnedLand$World;I)I"⟩, prog_9_method_6_code, 5, (Option.some Jvm.ClassFile.FieldType.int))
theorem ca_105 : zCallee ym_105 2 := ⟨zw_860, zw_11, by decide +kernel, by decide +kernel, by decide +kernel⟩
def ym_106 : zMt := (⟨"TurnedLand$Ground", "joinOf", "(II)I"⟩, prog_4_method_12_code, 4, (Option.some Jvm.ClassFile.FieldType.int))
theorem ca_106 : zCallee ym_106 2 := ⟨zw_864, zw_3, by decide +kernel, by decide +kernel, by decide +kernel⟩
def ym_107 : zMt := (⟨"TurnedLand", "known", "(I)I"⟩, prog_1_method_35_code, 3, (Option.some Jvm.ClassFile.FieldType.int))
theorem ca_107 : zCallee ym_107 1 := ⟨zw_885, zw_1, by decide +kernel, by decide +kernel, by decide +kernel⟩
def ym_108 : zMt := (⟨"TurnedLand", "test", "()I"⟩, prog_1_method_36_code, 2, (Option.some Jvm.ClassFile.FieldType.int))
theorem ca_108 : zCallee ym_108 0 := ⟨zw_889, zw_1, by decide +kernel, by decide +kernel, by decide +kernel⟩
def ym_109 : zMt := (⟨"TurnedLand$Doubts", "mostTelling", "(I)I"⟩, prog_2_method_4_code, 6, (Option.some Jvm.ClassFile.FieldType.int))
theorem ca_109 : zCallee ym_109 1 := ⟨zw_893, zw_7, by decide +kernel, by decide +kernel, by decide +kernel⟩
def ym_110 : zMt := (⟨"TurnedLand", "seed", "(I)I"⟩, prog_1_method_37_code, 3, (Option.some Jvm.ClassFile.FieldType.int))
theorem ca_110 : zCallee ym_110 1 := ⟨zw_898, zw_1, by decide +kernel, by decide +kernel, by decide +kernel⟩
def ym_111 : zMt := (⟨"TurnedLand", "voice", "(III)I"⟩, prog_1_method_38_code, 6, (Option.some Jvm.ClassFile.FieldType.int))
theorem ca_111 : zCallee ym_111 3 := ⟨zw_902, zw_1, by decide +kernel, by decide +kernel, by decide +kernel⟩
def ym_112 : zMt := (⟨"TurnedLand$Voices", "speak", "(IIIII)I"⟩, prog_8_method_2_code, 6, (Option.some Jvm.ClassFile.FieldType.int))
theorem ca_112 : zCallee ym_112 5 := ⟨zw_906, zw_13, by decide +kernel, by decide +kernel, by decide +kernel⟩
def ym_113 : zMt := (⟨"TurnedLand$Voices", "say", "(IIII)I"⟩, prog_8_method_3_code, 8, (Option.some Jvm.ClassFile.FieldType.int))
theorem ca_113 : zCallee ym_113 4 := ⟨zw_910, zw_13, by decide +kernel, by decide +kernel, by decide +kernel⟩
def ym_114 : zMt := (⟨"TurnedLand$Voices", "begin", "(I)V"⟩, prog_8_method_4_code, 2, (Option.none : Option Jvm.ClassFile.FieldType))
theorem ca_114 : zCallee ym_114 1 := ⟨zw_917, zw_13, by decide +kernel, by decide +kernel, by decide +kernel⟩
def ym_115 : zMt := (⟨"TurnedLand$Voices", "work", "(IIII)I"⟩, prog_8_method_5_code, 6, (Option.some Jvm.ClassFile.FieldType.int))
theorem ca_115 : zCallee ym_115 4 := ⟨zw_921, zw_13, by decide +kernel, by decide +kernel, by decide +kernel⟩
def ym_116 : zMt := (⟨"TurnedLand$Voices", "divide", "(I)I"⟩, prog_8_method_6_code, 3, (Option.some Jvm.ClassFile.FieldType.int))
theorem ca_116 : zCallee ym_116 1 := ⟨zw_926, zw_13, by decide +kernel, by decide +kernel, by decide +kernel⟩
def ym_117 : zMt := (⟨"TurnedLand$Voices", "endsRound", "(III)I"⟩, prog_8_method_7_code, 5, (Option.some Jvm.ClassFile.FieldType.int))
theorem ca_117 : zCallee ym_117 3 := ⟨zw_930, zw_13, by decide +kernel, by decide +kernel, by decide +kernel⟩
def ym_118 : zMt := (⟨"TurnedLand$Voices", "endsWhole", "(III)I"⟩, prog_8_method_8_code, 5, (Option.some Jvm.ClassFile.FieldType.int))
theorem ca_118 : zCallee ym_118 3 := ⟨zw_934, zw_13, by decide +kernel, by decide +kernel, by decide +kernel⟩
def ym_119 : zMt := (⟨"TurnedLand", "body", "(I)I"⟩, prog_1_method_39_code, 2, (Option.some Jvm.ClassFile.FieldType.int))
theorem ca_119 : zCallee ym_119 1 := ⟨zw_938, zw_1, by decide +kernel, by decide +kernel, by decide +kernel⟩
def ym_120 : zMt := (⟨"TurnedLand", "sheet", "(III)I"⟩, prog_1_method_40_code, 5, (Option.some Jvm.ClassFile.FieldType.int))
theorem ca_120 : zCallee ym_120 3 := ⟨zw_942, zw_1, by decide +kernel, by decide +kernel, by decide +kernel⟩
def ym_121 : zMt := (⟨"TurnedLand", "isSheet", "(I)Z"⟩, prog_1_method_57_code, 1, (Option.some Jvm.ClassFile.FieldType.boolean))
theorem ca_121 : zCallee ym_121 1 := ⟨zw_945, zw_1, by decide +kernel, by decide +kernel, by decide +kernel⟩
def ym_122 : zMt := (⟨"TurnedLand", "put", "(III)I"⟩, prog_1_method_41_code, 4, (Option.some Jvm.ClassFile.FieldType.int))
theorem ca_122 : zCallee ym_122 3 := ⟨zw_950, zw_1, by decide +kernel, by decide +kernel, by decide +kernel⟩
def ym_123 : zMt := (⟨"TurnedLand", "lowestBits", "(II)I"⟩, prog_1_method_58_code, 2, (Option.some Jvm.ClassFile.FieldType.int))
theorem ca_123 : zCallee ym_123 2 := ⟨zw_953, zw_1, by decide +kernel, by decide +kernel, by decide +kernel⟩
def ym_124 : zMt := (⟨"TurnedLand", "move", "(IIIII)I"⟩, prog_1_method_42_code, 6, (Option.some Jvm.ClassFile.FieldType.int))
theorem ca_124 : zCallee ym_124 5 := ⟨zw_957, zw_1, by decide +kernel, by decide +kernel, by decide +kernel⟩
def ym_125 : zMt := (⟨"TurnedLand", "standThere", "(III)Z"⟩, prog_1_method_59_code, 4, (Option.some Jvm.ClassFile.FieldType.boolean))
theorem ca_125 : zCallee ym_125 3 := ⟨zw_961, zw_1, by decide +kernel, by decide +kernel, by decide +kernel⟩
def ym_126 : zMt := (⟨"TurnedLand", "joins", "(I)I"⟩, prog_1_method_43_code, 5, (Option.some Jvm.ClassFile.FieldType.int))
theorem ca_126 : zCallee ym_126 1 := ⟨zw_966, zw_1, by decide +kernel, by decide +kernel, by decide +kernel⟩
def ym_127 : zMt := (⟨"TurnedLand", "image", "()I"⟩, prog_1_method_44_code, 1, (Option.some Jvm.ClassFile.FieldType.int))
theorem ca_127 : zCallee ym_127 0 := ⟨zw_970, zw_1, by decide +kernel, by decide +kernel, by decide +kernel⟩
def ym_128 : zMt := (⟨"TurnedLand$World", "takeOver", "(LTurnedLand$World;)V"⟩, prog_12_method_2_code, 2, (Option.none : Option Jvm.ClassFile.FieldType))
theorem ca_128 : zCallee ym_128 1 := ⟨zw_974, zw_2, by decide +kernel, by decide +kernel, by decide +kernel⟩
def ym_129 : zMt := (⟨"TurnedLand$Ground", "takeOver", "(LTurnedLand$Ground;)V"⟩, prog_4_method_2_code, 2, (Option.none : Option Jvm.ClassFile.FieldType))
theorem ca_129 : zCallee ym_129 1 := ⟨zw_978, zw_3, by decide +kernel, by decide +kernel, by decide +kernel⟩
def ym_130 : zMt := (⟨"TurnedLand$Walks", "takeOver", "(LTurnedLand$Walks;)V"⟩, prog_10_method_2_code, 3, (Option.none : Option Jvm.ClassFile.FieldType))
theorem ca_130 : zCallee ym_130 1 := ⟨zw_983, zw_5, by decide +kernel, by decide +kernel, by decide +kernel⟩
def ym_131 : zMt := (⟨"TurnedLand$Folk", "takeOver", "(LTurnedLand$Folk;)V"⟩, prog_3_method_2_code, 2, (Option.none : Option Jvm.ClassFile.FieldType))
theorem ca_131 : zCallee ym_131 1 := ⟨zw_988, zw_6, by decide +kernel, by decide +kernel, by decide +kernel⟩
def ym_132 : zMt := (⟨"TurnedLand$Doubts", "takeOver", "(LTurnedLand$Doubts;)V"⟩, prog_2_method_2_code, 2, (Option.none : Option Jvm.ClassFile.FieldType))
theorem ca_132 : zCallee ym_132 1 := ⟨zw_993, zw_7, by decide +kernel, by decide +kernel, by decide +kernel⟩
def ym_133 : zMt := (⟨"TurnedLand$Text", "takeOver", "(LTurnedLand$Text;)V"⟩, prog_7_method_2_code, 2, (Option.none : Option Jvm.ClassFile.FieldType))
theorem ca_133 : zCallee ym_133 1 := ⟨zw_998, zw_8, by decide +kernel, by decide +kernel, by decide +kernel⟩
def ym_134 : zMt := (⟨"TurnedLand", "restore", "()I"⟩, prog_1_method_45_code, 1, (Option.some Jvm.ClassFile.FieldType.int))
theorem ca_134 : zCallee ym_134 0 := ⟨zw_1003, zw_1, by decide +kernel, by decide +kernel, by decide +kernel⟩
def ym_135 : zMt := (⟨"TurnedLand", "tell", "(I)I"⟩, prog_1_method_46_code, 2, (Option.some Jvm.ClassFile.FieldType.int))
theorem ca_135 : zCallee ym_135 1 := ⟨zw_1007, zw_1, by decide +kernel, by decide +kernel, by decide +kernel⟩
def ym_136 : zMt := (⟨"TurnedLand", "check", "(I)I"⟩, prog_1_method_47_code, 4, (Option.some Jvm.ClassFile.FieldType.int))
theorem ca_136 : zCallee ym_136 1 := ⟨zw_1011, zw_1, by decide +kernel, by decide +kernel, by decide +kernel⟩
def ym_137 : zMt := (⟨"TurnedLand$Walker", "firstUnlike", "([II)I"⟩, prog_9_method_7_code, 4, (Option.some Jvm.ClassFile.FieldType.int))
theorem ca_137 : zCallee ym_137 2 := ⟨zw_1015, zw_11, by decide +kernel, by decide +kernel, by decide +kernel⟩
def ym_138 : zMt := (⟨"TurnedLand", "count", "(I)I"⟩, prog_1_method_48_code, 2, (Option.some Jvm.ClassFile.FieldType.int))
theorem ca_138 : zCallee ym_138 1 := ⟨zw_1019, zw_1, by decide +kernel, by decide +kernel, by decide +kernel⟩
def ym_139 : zMt := (⟨"TurnedLand", "told", "(I)I"⟩, prog_1_method_49_code, 2, (Option.some Jvm.ClassFile.FieldType.int))
theorem ca_139 : zCallee ym_139 1 := ⟨zw_1023, zw_1, by decide +kernel, by decide +kernel, by decide +kernel⟩
def ym_140 : zMt := (⟨"TurnedLandModel", "square", "(I)I"⟩, prog_14_method_9_code, 3, (Option.some Jvm.ClassFile.FieldType.int))
theorem ca_140 : zCallee ym_140 1 := ⟨zw_1135, zw_14, by decide +kernel, by decide +kernel, by decide +kernel⟩
def ym_141 : zMt := (⟨"TurnedLandModel", "within", "(III)Z"⟩, prog_14_method_3_code, 3, (Option.some Jvm.ClassFile.FieldType.boolean))
theorem ca_141 : zCallee ym_141 3 := ⟨zw_1138, zw_14, by decide +kernel, by decide +kernel, by decide +kernel⟩
def ym_142 : zMt := (⟨"TurnedLandModel", "finding", "(I)I"⟩, prog_14_method_2_code, 2, (Option.some Jvm.ClassFile.FieldType.int))
theorem ca_142 : zCallee ym_142 1 := ⟨zw_1143, zw_14, by decide +kernel, by decide +kernel, by decide +kernel⟩
def ym_143 : zMt := (⟨"TurnedLandModel", "cost", "(II)I"⟩, prog_14_method_10_code, 3, (Option.some Jvm.ClassFile.FieldType.int))
theorem ca_143 : zCallee ym_143 2 := ⟨zw_1149, zw_14, by decide +kernel, by decide +kernel, by decide +kernel⟩
def ym_144 : zMt := (⟨"TurnedLandModel", "is", "(II)Z"⟩, prog_14_method_6_code, 3, (Option.some Jvm.ClassFile.FieldType.boolean))
theorem ca_144 : zCallee ym_144 2 := ⟨zw_1153, zw_14, by decide +kernel, by decide +kernel, by decide +kernel⟩
def ym_145 : zMt := (⟨"TurnedLandModel", "become", "(II)I"⟩, prog_14_method_8_code, 4, (Option.some Jvm.ClassFile.FieldType.int))
theorem ca_145 : zCallee ym_145 2 := ⟨zw_1157, zw_14, by decide +kernel, by decide +kernel, by decide +kernel⟩
def ym_146 : zMt := (⟨"TurnedLandModel", "join", "(III)I"⟩, prog_14_method_17_code, 5, (Option.some Jvm.ClassFile.FieldType.int))
theorem ca_146 : zCallee ym_146 3 := ⟨zw_1161, zw_14, by decide +kernel, by decide +kernel, by decide +kernel⟩
def ym_147 : zMt := (⟨"TurnedLandModel", "whyNot", "(III)I"⟩, prog_14_method_15_code, 4, (Option.some Jvm.ClassFile.FieldType.int))
theorem ca_147 : zCallee ym_147 3 := ⟨zw_1165, zw_14, by decide +kernel, by decide +kernel, by decide +kernel⟩
def ym_148 : zMt := (⟨"TurnedLandModel", "isEdge", "(I)Z"⟩, prog_14_method_11_code, 2, (Option.some Jvm.ClassFile.FieldType.boolean))
theorem ca_148 : zCallee ym_148 1 := ⟨zw_1169, zw_14, by decide +kernel, by decide +kernel, by decide +kernel⟩
def ym_149 : zMt := (⟨"TurnedLandModel", "joinAt", "(I)I"⟩, prog_14_method_13_code, 4, (Option.some Jvm.ClassFile.FieldType.int))
theorem ca_149 : zCallee ym_149 1 := ⟨zw_1173, zw_14, by decide +kernel, by decide +kernel, by decide +kernel⟩
def ym_150 : zMt := (⟨"TurnedLandModel", "joinOf", "(II)I"⟩, prog_14_method_12_code, 3, (Option.some Jvm.ClassFile.FieldType.int))
theorem ca_150 : zCallee ym_150 2 := ⟨zw_1177, zw_14, by decide +kernel, by decide +kernel, by decide +kernel⟩
def ym_151 : zMt := (⟨"TurnedLandModel", "joined", "(III)I"⟩, prog_14_method_16_code, 5, (Option.some Jvm.ClassFile.FieldType.int))
theorem ca_151 : zCallee ym_151 3 := ⟨zw_1182, zw_14, by decide +kernel, by decide +kernel, by decide +kernel⟩
def ym_152 : zMt := (⟨"TurnedLandModel", "joinIs", "(II)I"⟩, prog_14_method_18_code, 3, (Option.some Jvm.ClassFile.FieldType.int))
theorem ca_152 : zCallee ym_152 2 := ⟨zw_1186, zw_14, by decide +kernel, by decide +kernel, by decide +kernel⟩
def ym_153 : zMt := (⟨"TurnedLandModel", "turn", "(II)I"⟩, prog_14_method_19_code, 3, (Option.some Jvm.ClassFile.FieldType.int))
theorem ca_153 : zCallee ym_153 2 := ⟨zw_1190, zw_14, by decide +kernel, by decide +kernel, by decide +kernel⟩
def ym_154 : zMt := (⟨"TurnedLandModel", "part", "()I"⟩, prog_14_method_20_code, 1, (Option.some Jvm.ClassFile.FieldType.int))
theorem ca_154 : zCallee ym_154 0 := ⟨zw_1194, zw_14, by decide +kernel, by decide +kernel, by decide +kernel⟩
def ym_155 : zMt := (⟨"TurnedLandModel", "across", "(I)I"⟩, prog_14_method_21_code, 3, (Option.some Jvm.ClassFile.FieldType.int))
theorem ca_155 : zCallee ym_155 1 := ⟨zw_1198, zw_14, by decide +kernel, by decide +kernel, by decide +kernel⟩
def ym_156 : zMt := (⟨"TurnedLandModel", "otherOf", "(II)I"⟩, prog_14_method_14_code, 3, (Option.some Jvm.ClassFile.FieldType.int))
theorem ca_156 : zCallee ym_156 2 := ⟨zw_1203, zw_14, by decide +kernel, by decide +kernel, by decide +kernel⟩
def ym_157 : zMt := (⟨"TurnedLandModel", "land", "(I)I"⟩, prog_14_method_31_code, 3, (Option.some Jvm.ClassFile.FieldType.int))
theorem ca_157 : zCallee ym_157 1 := ⟨zw_1207, zw_14, by decide +kernel, by decide +kernel, by decide +kernel⟩
def ym_158 : zMt := (⟨"TurnedLandModel", "cornersNow", "()I"⟩, prog_14_method_25_code, 3, (Option.some Jvm.ClassFile.FieldType.int))
theorem ca_158 : zCallee ym_158 0 := ⟨zw_1211, zw_14, by decide +kernel, by decide +kernel, by decide +kernel⟩
def ym_159 : zMt := (⟨"TurnedLandModel", "findCorners", "()V"⟩, prog_14_method_24_code, 5, (Option.none : Option Jvm.ClassFile.FieldType))
theorem ca_159 : zCallee ym_159 0 := ⟨zw_1215, zw_14, by decide +kernel, by decide +kernel, by decide +kernel⟩
def ym_160 : zMt := (⟨"TurnedLandModel", "second", "(I)I"⟩, prog_14_method_23_code, 1, (Option.some Jvm.ClassFile.FieldType.int))
theorem ca_160 : zCallee ym_160 1 := ⟨zw_1218, zw_14, by decide +kernel, by decide +kernel, by decide +kernel⟩
def ym_161 : zMt := (⟨"TurnedLandModel", "oneOf", "(II)V"⟩, prog_14_method_22_code, 6, (Option.none : Option Jvm.ClassFile.FieldType))
theorem ca_161 : zCallee ym_161 2 := ⟨zw_1222, zw_14, by decide +kernel, by decide +kernel, by decide +kernel⟩
def ym_162 : zMt := (⟨"TurnedLandModel", "parts", "()I"⟩, prog_14_method_30_code, 6, (Option.some Jvm.ClassFile.FieldType.int))
theorem ca_162 : zCallee ym_162 0 := ⟨zw_1228, zw_14, by decide +kernel, by decide +kernel, by decide +kernel⟩
def ym_163 : zMt := (⟨"TurnedLandModel", "reachedBut", "(III)I"⟩, prog_14_method_27_code, 7, (Option.some Jvm.ClassFile.FieldType.int))
theorem ca_163 : zCallee ym_163 3 := ⟨zw_1232, zw_14, by decide +kernel, by decide +kernel, by decide +kernel⟩
def ym_164 : zMt := (⟨"TurnedLandModel", "crossed", "(II)I"⟩, prog_14_method_28_code, 8, (Option.some Jvm.ClassFile.FieldType.int))
theorem ca_164 : zCallee ym_164 2 := ⟨zw_1236, zw_14, by decide +kernel, by decide +kernel, by decide +kernel⟩
def ym_165 : zMt := (⟨"TurnedLandModel", "has", "(II)Z"⟩, prog_14_method_4_code, 2, (Option.some Jvm.ClassFile.FieldType.boolean))
theorem ca_165 : zCallee ym_165 2 := ⟨zw_1239, zw_14, by decide +kernel, by decide +kernel, by decide +kernel⟩
def ym_166 : zMt := (⟨"TurnedLandModel", "rims", "()I"⟩, prog_14_method_26_code, 6, (Option.some Jvm.ClassFile.FieldType.int))
theorem ca_166 : zCallee ym_166 0 := ⟨zw_1243, zw_14, by decide +kernel, by decide +kernel, by decide +kernel⟩
def ym_167 : zMt := (⟨"TurnedLandModel", "comesTurned", "(II)Z"⟩, prog_14_method_29_code, 5, (Option.some Jvm.ClassFile.FieldType.boolean))
theorem ca_167 : zCallee ym_167 2 := ⟨zw_1247, zw_14, by decide +kernel, by decide +kernel, by decide +kernel⟩
def ym_168 : zMt := (⟨"TurnedLandModel", "plain", "()I"⟩, prog_14_method_32_code, 3, (Option.some Jvm.ClassFile.FieldType.int))
theorem ca_168 : zCallee ym_168 0 := ⟨zw_1251, zw_14, by decide +kernel, by decide +kernel, by decide +kernel⟩
def ym_169 : zMt := (⟨"TurnedLandModel", "feed", "(JI)I"⟩, prog_14_method_33_code, 5, (Option.some Jvm.ClassFile.FieldType.int))
theorem ca_169 : zCallee ym_169 2 := ⟨zw_1255, zw_14, by decide +kernel, by decide +kernel, by decide +kernel⟩
def ym_170 : zMt := (⟨"TurnedLandModel", "text", "(I)I"⟩, prog_14_method_44_code, 3, (Option.some Jvm.ClassFile.FieldType.int))
theorem ca_170 : zCallee ym_170 1 := ⟨zw_1260, zw_14, by decide +kernel, by decide +kernel, by decide +kernel⟩
def ym_171 : zMt := (⟨"TurnedLandModel", "either", "()V"⟩, prog_14_method_37_code, 1, (Option.none : Option Jvm.ClassFile.FieldType))
theorem ca_171 : zCallee ym_171 0 := ⟨zw_1264, zw_14, by decide +kernel, by decide +kernel, by decide +kernel⟩
def ym_172 : zMt := (⟨"TurnedLandModel", "both", "()V"⟩, prog_14_method_38_code, 1, (Option.none : Option Jvm.ClassFile.FieldType))
theorem ca_172 : zCallee ym_172 0 := ⟨zw_1268, zw_14, by decide +kernel, by decide +kernel, by decide +kernel⟩
def ym_173 : zMt := (⟨"TurnedLandModel", "compared", "()V"⟩, prog_14_method_39_code, 2, (Option.none : Option Jvm.ClassFile.FieldType))
theorem ca_173 : zCallee ym_173 0 := ⟨zw_1272, zw_14, by decide +kernel, by decide +kernel, by decide +kernel⟩
def ym_174 : zMt := (⟨"TurnedLandModel", "sum", "()V"⟩, prog_14_method_40_code, 2, (Option.none : Option Jvm.ClassFile.FieldType))
theorem ca_174 : zCallee ym_174 0 := ⟨zw_1276, zw_14, by decide +kernel, by decide +kernel, by decide +kernel⟩
def ym_175 : zMt := (⟨"TurnedLandModel", "product", "()V"⟩, prog_14_method_41_code, 2, (Option.none : Option Jvm.ClassFile.FieldType))
theorem ca_175 : zCallee ym_175 0 := ⟨zw_1280, zw_14, by decide +kernel, by decide +kernel, by decide +kernel⟩
def ym_176 : zMt := (⟨"TurnedLandModel", "one", "()V"⟩, prog_14_method_43_code, 4, (Option.none : Option Jvm.ClassFile.FieldType))
theorem ca_176 : zCallee ym_176 0 := ⟨zw_1284, zw_14, by decide +kernel, by decide +kernel, by decide +kernel⟩
def ym_177 : zMt := (⟨"TurnedLandModel", "takes", "(I)Z"⟩, prog_14_method_35_code, 3, (Option.some Jvm.ClassFile.FieldType.boolean))
theorem ca_177 : zCallee ym_177 1 := ⟨zw_1296, zw_14, by decide +kernel, by decide +kernel, by decide +kernel⟩
def ym_178 : zMt := (⟨"TurnedLandModel", "here", "()I"⟩, prog_14_method_34_code, 1, (Option.some Jvm.ClassFile.FieldType.int))
theorem ca_178 : zCallee ym_178 0 := ⟨zw_1288, zw_14, by decide +kernel, by decide +kernel, by decide +kernel⟩
def ym_179 : zMt := (⟨"TurnedLandModel", "codes", "(I)V"⟩, prog_14_method_36_code, 2, (Option.none : Option Jvm.ClassFile.FieldType))
theorem ca_179 : zCallee ym_179 1 := ⟨zw_1292, zw_14, by decide +kernel, by decide +kernel, by decide +kernel⟩
def ym_180 : zMt := (⟨"TurnedLandModel", "nameOf", "(I)I"⟩, prog_14_method_42_code, 4, (Option.some Jvm.ClassFile.FieldType.int))
theorem ca_180 : zCallee ym_180 1 := ⟨zw_1300, zw_14, by decide +kernel, by decide +kernel, by decide +kernel⟩
def ym_181 : zMt := (⟨"java/lang/String", "length", "()I"⟩, prog_17_method_54_code, 1, (Option.some Jvm.ClassFile.FieldType.int))
theorem ca_181 : zCallee ym_181 0 := ⟨zw_1304, zw_18, by decide +kernel, by decide +kernel, by decide +kernel⟩
def ym_182 : zMt := (⟨"java/lang/String", "coder", "()B"⟩, prog_17_method_152_code, 1, (Option.some Jvm.ClassFile.FieldType.byte))
theorem ca_182 : zCallee ym_182 0 := ⟨zw_1308, zw_18, by decide +kernel, by decide +kernel, by decide +kernel⟩
def ym_183 : zMt := (⟨"java/lang/String", "charAt", "(I)C"⟩, prog_17_method_56_code, 2, (Option.some Jvm.ClassFile.FieldType.char))
theorem ca_183 : zCallee ym_183 1 := ⟨zw_1314, zw_18, by decide +kernel, by decide +kernel, by decide +kernel⟩
def ym_184 : zMt := (⟨"java/lang/String", "isLatin1", "()Z"⟩, prog_17_method_154_code, 1, (Option.some Jvm.ClassFile.FieldType.boolean))
theorem ca_184 : zCallee ym_184 0 := ⟨zw_1318, zw_18, by decide +kernel, by decide +kernel, by decide +kernel⟩
def ym_185 : zMt := (⟨"java/lang/StringLatin1", "charAt", "([BI)C"⟩, prog_18_method_2_code, 2, (Option.some Jvm.ClassFile.FieldType.char))
theorem ca_185 : zCallee ym_185 2 := ⟨zw_1321, zw_19, by decide +kernel, by decide +kernel, by decide +kernel⟩
def ym_186 : zMt := (⟨"java/lang/String", "checkIndex", "(II)V"⟩, prog_17_method_155_code, 2, (Option.none : Option Jvm.ClassFile.FieldType))
theorem ca_186 : zCallee ym_186 2 := ⟨zw_1324, zw_18, by decide +kernel, by decide +kernel, by decide +kernel⟩
def ym_187 : zMt := (⟨"jdk/internal/util/Preconditions", "checkIndex", "(IILjava/util/function/BiFunction;)I"⟩, prog_22_method_11_code, 3, (Option.some Jvm.ClassFile.FieldType.int))
theorem ca_187 : zCallee ym_187 3 := ⟨zw_1329, zw_20, by decide +kernel, by decide +kernel, by decide +kernel⟩
def ym_188 : zMt := (⟨"TurnedLandModel", "untell", "(I)I"⟩, prog_14_method_45_code, 2, (Option.some Jvm.ClassFile.FieldType.int))
theorem ca_188 : zCallee ym_188 1 := ⟨zw_1352, zw_14, by decide +kernel, by decide +kernel, by decide +kernel⟩
def ym_189 : zMt := (⟨"TurnedLandModel", "soonest", "(II)I"⟩, prog_14_method_53_code, 4, (Option.some Jvm.ClassFile.FieldType.int))
theorem ca_189 : zCallee ym_189 2 := ⟨zw_1356, zw_14, by decide +kernel, by decide +kernel, by decide +kernel⟩
def ym_190 : zMt := (⟨"TurnedLandModel", "isPlace", "(I)Z"⟩, prog_14_method_51_code, 2, (Option.some Jvm.ClassFile.FieldType.boolean))
theorem ca_190 : zCallee ym_190 1 := ⟨zw_1360, zw_14, by decide +kernel, by decide +kernel, by decide +kernel⟩
def ym_191 : zMt := (⟨"TurnedLandModel", "soonestOf", "(II)I"⟩, prog_14_method_52_code, 3, (Option.some Jvm.ClassFile.FieldType.int))
theorem ca_191 : zCallee ym_191 2 := ⟨zw_1364, zw_14, by decide +kernel, by decide +kernel, by decide +kernel⟩
def ym_192 : zMt := (⟨"TurnedLandModel", "findSoonest", "(I)V"⟩, prog_14_method_50_code, 5, (Option.none : Option Jvm.ClassFile.FieldType))
theorem ca_192 : zCallee ym_192 1 := ⟨zw_1368, zw_14, by decide +kernel, by decide +kernel, by decide +kernel⟩
def ym_193 : zMt := (⟨"TurnedLandModel", "crosses", "(II)Z"⟩, prog_14_method_49_code, 8, (Option.some Jvm.ClassFile.FieldType.boolean))
theorem ca_193 : zCallee ym_193 2 := ⟨zw_1373, zw_14, by decide +kernel, by decide +kernel, by decide +kernel⟩
def ym_194 : zMt := (⟨"TurnedLandModel", "given", "(IIIII)I"⟩, prog_14_method_48_code, 8, (Option.some Jvm.ClassFile.FieldType.int))
theorem ca_194 : zCallee ym_194 5 := ⟨zw_1377, zw_14, by decide +kernel, by decide +kernel, by decide +kernel⟩
def ym_195 : zMt := (⟨"TurnedLandModel", "held", "(III)I"⟩, prog_14_method_5_code, 3, (Option.some Jvm.ClassFile.FieldType.int))
theorem ca_195 : zCallee ym_195 3 := ⟨zw_1387, zw_14, by decide +kernel, by decide +kernel, by decide +kernel⟩
def ym_196 : zMt := (⟨"TurnedLandModel", "worked", "(I)I"⟩, prog_14_method_47_code, 5, (Option.some Jvm.ClassFile.FieldType.int))
theorem ca_196 : zCallee ym_196 1 := ⟨zw_1381, zw_14, by decide +kernel, by decide +kernel, by decide +kernel⟩
def ym_197 : zMt := (⟨"TurnedLandModel", "done", "(III)I"⟩, prog_14_method_46_code, 3, (Option.some Jvm.ClassFile.FieldType.int))
theorem ca_197 : zCallee ym_197 3 := ⟨zw_1384, zw_14, by decide +kernel, by decide +kernel, by decide +kernel⟩
def ym_198 : zMt := (⟨"TurnedLandModel", "reached", "(I)I"⟩, prog_14_method_54_code, 2, (Option.some Jvm.ClassFile.FieldType.int))
theorem ca_198 : zCallee ym_198 1 := ⟨zw_1391, zw_14, by decide +kernel, by decide +kernel, by decide +kernel⟩
def ym_199 : zMt := (⟨"TurnedLandModel", "first", "(II)I"⟩, prog_14_method_55_code, 5, (Option.some Jvm.ClassFile.FieldType.int))
theorem ca_199 : zCallee ym_199 2 := ⟨zw_1395, zw_14, by decide +kernel, by decide +kernel, by decide +kernel⟩
def ym_200 : zMt := (⟨"TurnedLandModel", "leads", "(IIII)Z"⟩, prog_14_method_56_code, 7, (Option.some Jvm.ClassFile.FieldType.boolean))
theorem ca_200 : zCallee ym_200 4 := ⟨zw_1399, zw_14, by decide +kernel, by decide +kernel, by decide +kernel⟩
def ym_201 : zMt := (⟨"TurnedLandModel", "walk", "(III)I"⟩, prog_14_method_58_code, 10, (Option.some Jvm.ClassFile.FieldType.int))
theorem ca_201 : zCallee ym_201 3 := ⟨zw_1403, zw_14, by decide +kernel, by decide +kernel, by decide +kernel⟩
def ym_202 : zMt := (⟨"TurnedLandModel", "walkIs", "(II)I"⟩, prog_14_method_61_code, 3, (Option.some Jvm.ClassFile.FieldType.int))
theorem ca_202 : zCallee ym_202 2 := ⟨zw_1407, zw_14, by decide +kernel, by decide +kernel, by decide +kernel⟩
def ym_203 : zMt := (⟨"TurnedLandModel", "isSo", "(I)Z"⟩, prog_14_method_60_code, 5, (Option.some Jvm.ClassFile.FieldType.boolean))
theorem ca_203 : zCallee ym_203 1 := ⟨zw_1415, zw_14, by decide +kernel, by decide +kernel, by decide +kernel⟩
def ym_204 : zMt := (⟨"TurnedLandModel", "goes", "(II)Z"⟩, prog_14_method_59_code, 3, (Option.some Jvm.ClassFile.FieldType.boolean))
theorem ca_204 : zCallee ym_204 2 := ⟨zw_1419, zw_14, by decide +kernel, by decide +kernel, by decide +kernel⟩
def ym_205 : zMt := (⟨"TurnedLandModel", "walkOf", "(II)I"⟩, prog_14_method_57_code, 3, (Option.some Jvm.ClassFile.FieldType.int))
theorem ca_205 : zCallee ym_205 2 := ⟨zw_1411, zw_14, by decide +kernel, by decide +kernel, by decide +kernel⟩
def ym_206 : zMt := (⟨"TurnedLandModel", "as", "(II)I"⟩, prog_14_method_63_code, 4, (Option.some Jvm.ClassFile.FieldType.int))
theorem ca_206 : zCallee ym_206 2 := ⟨zw_1423, zw_14, by decide +kernel, by decide +kernel, by decide +kernel⟩
def ym_207 : zMt := (⟨"TurnedLandModel", "above", "(I)I"⟩, prog_14_method_62_code, 1, (Option.some Jvm.ClassFile.FieldType.int))
theorem ca_207 : zCallee ym_207 1 := ⟨zw_1426, zw_14, by decide +kernel, by decide +kernel, by decide +kernel⟩
def ym_208 : zMt := (⟨"TurnedLandModel", "set", "(III)I"⟩, prog_14_method_64_code, 5, (Option.some Jvm.ClassFile.FieldType.int))
theorem ca_208 : zCallee ym_208 3 := ⟨zw_1431, zw_14, by decide +kernel, by decide +kernel, by decide +kernel⟩
def ym_209 : zMt := (⟨"TurnedLandModel", "gone", "(III)I"⟩, prog_14_method_65_code, 4, (Option.some Jvm.ClassFile.FieldType.int))
theorem ca_209 : zCallee ym_209 3 := ⟨zw_1435, zw_14, by decide +kernel, by decide +kernel, by decide +kernel⟩
def ym_210 : zMt := (⟨"TurnedLandModel", "stops", "(I)I"⟩, prog_14_method_66_code, 2, (Option.some Jvm.ClassFile.FieldType.int))
theorem ca_210 : zCallee ym_210 1 := ⟨zw_1439, zw_14, by decide +kernel, by decide +kernel, by decide +kernel⟩
def ym_211 : zMt := (⟨"TurnedLandModel", "person", "(I)I"⟩, prog_14_method_67_code, 3, (Option.some Jvm.ClassFile.FieldType.int))
theorem ca_211 : zCallee ym_211 1 := ⟨zw_1443, zw_14, by decide +kernel, by decide +kernel, by decide +kernel⟩
def ym_212 : zMt := (⟨"TurnedLandModel", "personIs", "(II)I"⟩, prog_14_method_69_code, 3, (Option.some Jvm.ClassFile.FieldType.int))
theorem ca_212 : zCallee ym_212 2 := ⟨zw_1447, zw_14, by decide +kernel, by decide +kernel, by decide +kernel⟩
def ym_213 : zMt := (⟨"TurnedLandModel", "cross", "(II)I"⟩, prog_14_method_71_code, 3, (Option.some Jvm.ClassFile.FieldType.int))
theorem ca_213 : zCallee ym_213 2 := ⟨zw_1451, zw_14, by decide +kernel, by decide +kernel, by decide +kernel⟩
def ym_214 : zMt := (⟨"TurnedLandModel", "goesOver", "(II)Z"⟩, prog_14_method_70_code, 3, (Option.some Jvm.ClassFile.FieldType.boolean))
theorem ca_214 : zCallee ym_214 2 := ⟨zw_1455, zw_14, by decide +kernel, by decide +kernel, by decide +kernel⟩
def ym_215 : zMt := (⟨"TurnedLandModel", "whereIs", "(I)I"⟩, prog_14_method_68_code, 2, (Option.some Jvm.ClassFile.FieldType.int))
theorem ca_215 : zCallee ym_215 1 := ⟨zw_1459, zw_14, by decide +kernel, by decide +kernel, by decide +kernel⟩
def ym_216 : zMt := (⟨"TurnedLandModel", "stroll", "(II)I"⟩, prog_14_method_73_code, 5, (Option.some Jvm.ClassFile.FieldType.int))
theorem ca_216 : zCallee ym_216 2 := ⟨zw_1464, zw_14, by decide +kernel, by decide +kernel, by decide +kernel⟩
def ym_217 : zMt := (⟨"TurnedLandModel", "drawn", "(I)I"⟩, prog_14_method_72_code, 2, (Option.some Jvm.ClassFile.FieldType.int))
theorem ca_217 : zCallee ym_217 1 := ⟨zw_1468, zw_14, by decide +kernel, by decide +kernel, by decide +kernel⟩
def ym_218 : zMt := (⟨"TurnedLandModel", "meet", "(III)I"⟩, prog_14_method_74_code, 8, (Option.some Jvm.ClassFile.FieldType.int))
theorem ca_218 : zCallee ym_218 3 := ⟨zw_1473, zw_14, by decide +kernel, by decide +kernel, by decide +kernel⟩
def ym_219 : zMt := (⟨"TurnedLandModel", "thing", "(III)I"⟩, prog_14_method_76_code, 5, (Option.some Jvm.ClassFile.FieldType.int))
theorem ca_219 : zCallee ym_219 3 := ⟨zw_1477, zw_14, by decide +kernel, by decide +kernel, by decide +kernel⟩
def ym_220 : zMt := (⟨"TurnedLandModel", "thingIs", "(II)I"⟩, prog_14_method_78_code, 3, (Option.some Jvm.ClassFile.FieldType.int))
theorem ca_220 : zCallee ym_220 2 := ⟨zw_1481, zw_14, by decide +kernel, by decide +kernel, by decide +kernel⟩
def ym_221 : zMt := (⟨"TurnedLandModel", "thingOf", "(II)I"⟩, prog_14_method_75_code, 3, (Option.some Jvm.ClassFile.FieldType.int))
theorem ca_221 : zCallee ym_221 2 := ⟨zw_1485, zw_14, by decide +kernel, by decide +kernel, by decide +kernel⟩
def ym_222 : zMt := (⟨"TurnedLandModel", "priceOf", "(III)I"⟩, prog_14_method_77_code, 4, (Option.some Jvm.ClassFile.FieldType.int))
theorem ca_222 : zCallee ym_222 3 := ⟨zw_1489, zw_14, by decide +kernel, by decide +kernel, by decide +kernel⟩
def ym_223 : zMt := (⟨"TurnedLandModel", "bring", "(I)I"⟩, prog_14_method_79_code, 9, (Option.some Jvm.ClassFile.FieldType.int))
theorem ca_223 : zCallee ym_223 1 := ⟨zw_1493, zw_14, by decide +kernel, by decide +kernel, by decide +kernel⟩
def ym_224 : zMt := (⟨"TurnedLandModel", "doubt", "(I)I"⟩, prog_14_method_81_code, 2, (Option.some Jvm.ClassFile.FieldType.int))
theorem ca_224 : zCallee ym_224 1 := ⟨zw_1497, zw_14, by decide +kernel, by decide +kernel, by decide +kernel⟩
def ym_225 : zMt := (⟨"TurnedLandModel", "bits", "(I)I"⟩, prog_14_method_80_code, 3, (Option.some Jvm.ClassFile.FieldType.int))
theorem ca_225 : zCallee ym_225 1 := ⟨zw_1500, zw_14, by decide +kernel, by decide +kernel, by decide +kernel⟩
def ym_226 : zMt := (⟨"TurnedLandModel", "fact", "(II)I"⟩, prog_14_method_82_code, 4, (Option.some Jvm.ClassFile.FieldType.int))
theorem ca_226 : zCallee ym_226 2 := ⟨zw_1504, zw_14, by decide +kernel, by decide +kernel, by decide +kernel⟩
def ym_227 : zMt := (⟨"TurnedLandModel", "forget", "()I"⟩, prog_14_method_83_code, 1, (Option.some Jvm.ClassFile.FieldType.int))
theorem ca_227 : zCallee ym_227 0 := ⟨zw_1508, zw_14, by decide +kernel, by decide +kernel, by decide +kernel⟩
def ym_228 : zMt := (⟨"TurnedLandModel", "agree", "()I"⟩, prog_14_method_88_code, 1, (Option.some Jvm.ClassFile.FieldType.int))
theorem ca_228 : zCallee ym_228 0 := ⟨zw_1512, zw_14, by decide +kernel, by decide +kernel, by decide +kernel⟩
def ym_229 : zMt := (⟨"TurnedLandModel", "findWays", "()V"⟩, prog_14_method_86_code, 5, (Option.none : Option Jvm.ClassFile.FieldType))
theorem ca_229 : zCallee ym_229 0 := ⟨zw_1516, zw_14, by decide +kernel, by decide +kernel, by decide +kernel⟩
def ym_230 : zMt := (⟨"TurnedLandModel", "turned", "()I"⟩, prog_14_method_85_code, 3, (Option.some Jvm.ClassFile.FieldType.int))
theorem ca_230 : zCallee ym_230 0 := ⟨zw_1520, zw_14, by decide +kernel, by decide +kernel, by decide +kernel⟩
def ym_231 : zMt := (⟨"TurnedLandModel", "agrees", "(I)Z"⟩, prog_14_method_87_code, 5, (Option.some Jvm.ClassFile.FieldType.boolean))
theorem ca_231 : zCallee ym_231 1 := ⟨zw_1524, zw_14, by decide +kernel, by decide +kernel, by decide +kernel⟩
def ym_232 : zMt := (⟨"TurnedLandModel", "oddOf", "(I)I"⟩, prog_14_method_84_code, 7, (Option.some Jvm.ClassFile.FieldType.int))
theorem ca_232 : zCallee ym_232 1 := ⟨zw_1528, zw_14, by decide +kernel, by decide +kernel, by decide +kernel⟩
def ym_233 : zMt := (⟨"TurnedLandModel", "known", "(I)I"⟩, prog_14_method_89_code, 4, (Option.some Jvm.ClassFile.FieldType.int))
theorem ca_233 : zCallee ym_233 1 := ⟨zw_1532, zw_14, by decide +kernel, by decide +kernel, by decide +kernel⟩
def ym_234 : zMt := (⟨"TurnedLandModel", "test", "()I"⟩, prog_14_method_90_code, 7, (Option.some Jvm.ClassFile.FieldType.int))
theorem ca_234 : zCallee ym_234 0 := ⟨zw_1536, zw_14, by decide +kernel, by decide +kernel, by decide +kernel⟩
def ym_235 : zMt := (⟨"TurnedLandModel", "seed", "(I)I"⟩, prog_14_method_91_code, 2, (Option.some Jvm.ClassFile.FieldType.int))
theorem ca_235 : zCallee ym_235 1 := ⟨zw_1540, zw_14, by decide +kernel, by decide +kernel, by decide +kernel⟩
def ym_236 : zMt := (⟨"TurnedLandModel", "voice", "(III)I"⟩, prog_14_method_97_code, 5, (Option.some Jvm.ClassFile.FieldType.int))
theorem ca_236 : zCallee ym_236 3 := ⟨zw_1544, zw_14, by decide +kernel, by decide +kernel, by decide +kernel⟩
def ym_237 : zMt := (⟨"TurnedLandModel", "voiced", "(II)I"⟩, prog_14_method_94_code, 3, (Option.some Jvm.ClassFile.FieldType.int))
theorem ca_237 : zCallee ym_237 2 := ⟨zw_1548, zw_14, by decide +kernel, by decide +kernel, by decide +kernel⟩
def ym_238 : zMt := (⟨"TurnedLandModel", "bodyFrom", "(III)I"⟩, prog_14_method_95_code, 5, (Option.some Jvm.ClassFile.FieldType.int))
theorem ca_238 : zCallee ym_238 3 := ⟨zw_1552, zw_14, by decide +kernel, by decide +kernel, by decide +kernel⟩
def ym_239 : zMt := (⟨"TurnedLandModel", "hasOwn", "(II)Z"⟩, prog_14_method_93_code, 2, (Option.some Jvm.ClassFile.FieldType.boolean))
theorem ca_239 : zCallee ym_239 2 := ⟨zw_1555, zw_14, by decide +kernel, by decide +kernel, by decide +kernel⟩
def ym_240 : zMt := (⟨"TurnedLandModel", "body", "(III)I"⟩, prog_14_method_96_code, 6, (Option.some Jvm.ClassFile.FieldType.int))
theorem ca_240 : zCallee ym_240 3 := ⟨zw_1559, zw_14, by decide +kernel, by decide +kernel, by decide +kernel⟩
def ym_241 : zMt := (⟨"TurnedLandModel", "began", "(I)V"⟩, prog_14_method_92_code, 2, (Option.none : Option Jvm.ClassFile.FieldType))
theorem ca_241 : zCallee ym_241 1 := ⟨zw_1563, zw_14, by decide +kernel, by decide +kernel, by decide +kernel⟩
def ym_242 : zMt := (⟨"TurnedLandModel", "body", "(I)I"⟩, prog_14_method_98_code, 2, (Option.some Jvm.ClassFile.FieldType.int))
theorem ca_242 : zCallee ym_242 1 := ⟨zw_1568, zw_14, by decide +kernel, by decide +kernel, by decide +kernel⟩
def ym_243 : zMt := (⟨"TurnedLandModel", "sheet", "(III)I"⟩, prog_14_method_100_code, 5, (Option.some Jvm.ClassFile.FieldType.int))
theorem ca_243 : zCallee ym_243 3 := ⟨zw_1572, zw_14, by decide +kernel, by decide +kernel, by decide +kernel⟩
def ym_244 : zMt := (⟨"TurnedLandModel", "isSheet", "(I)Z"⟩, prog_14_method_99_code, 1, (Option.some Jvm.ClassFile.FieldType.boolean))
theorem ca_244 : zCallee ym_244 1 := ⟨zw_1575, zw_14, by decide +kernel, by decide +kernel, by decide +kernel⟩
def ym_245 : zMt := (⟨"TurnedLandModel", "put", "(III)I"⟩, prog_14_method_101_code, 4, (Option.some Jvm.ClassFile.FieldType.int))
theorem ca_245 : zCallee ym_245 3 := ⟨zw_1579, zw_14, by decide +kernel, by decide +kernel, by decide +kernel⟩
def ym_246 : zMt := (⟨"TurnedLandModel", "move", "(IIIII)I"⟩, prog_14_method_102_code, 7, (Option.some Jvm.ClassFile.FieldType.int))
theorem ca_246 : zCallee ym_246 5 := ⟨zw_1583, zw_14, by decide +kernel, by decide +kernel, by decide +kernel⟩
def ym_247 : zMt := (⟨"TurnedLandModel", "joins", "(I)I"⟩, prog_14_method_103_code, 5, (Option.some Jvm.ClassFile.FieldType.int))
theorem ca_247 : zCallee ym_247 1 := ⟨zw_1587, zw_14, by decide +kernel, by decide +kernel, by decide +kernel⟩
def ym_248 : zMt := (⟨"TurnedLandModel", "image", "()I"⟩, prog_14_method_104_code, 1, (Option.some Jvm.ClassFile.FieldType.int))
theorem ca_248 : zCallee ym_248 0 := ⟨zw_1591, zw_14, by decide +kernel, by decide +kernel, by decide +kernel⟩
def ym_249 : zMt := (⟨"TurnedLandModel", "copy", "([I[I)V"⟩, prog_14_method_7_code, 3, (Option.none : Option Jvm.ClassFile.FieldType))
theorem ca_249 : zCallee ym_249 2 := ⟨zw_1594, zw_14, by decide +kernel, by decide +kernel, by decide +kernel⟩
def ym_250 : zMt := (⟨"TurnedLandModel", "restore", "()I"⟩, prog_14_method_105_code, 1, (Option.some Jvm.ClassFile.FieldType.int))
theorem ca_250 : zCallee ym_250 0 := ⟨zw_1598, zw_14, by decide +kernel, by decide +kernel, by decide +kernel⟩
def ym_251 : zMt := (⟨"TurnedLandModel", "tell", "(I)I"⟩, prog_14_method_106_code, 2, (Option.some Jvm.ClassFile.FieldType.int))
theorem ca_251 : zCallee ym_251 1 := ⟨zw_1602, zw_14, by decide +kernel, by decide +kernel, by decide +kernel⟩
def ym_252 : zMt := (⟨"TurnedLandModel", "check", "(I)I"⟩, prog_14_method_107_code, 6, (Option.some Jvm.ClassFile.FieldType.int))
theorem ca_252 : zCallee ym_252 1 := ⟨zw_1606, zw_14, by decide +kernel, by decide +kernel, by decide +kernel⟩
def ym_253 : zMt := (⟨"TurnedLandModel", "count", "(I)I"⟩, prog_14_method_108_code, 2, (Option.some Jvm.ClassFile.FieldType.int))
theorem ca_253 : zCallee ym_253 1 := ⟨zw_1610, zw_14, by decide +kernel, by decide +kernel, by decide +kernel⟩
def ym_254 : zMt := (⟨"TurnedLandModel", "told", "(I)I"⟩, prog_14_method_109_code, 2, (Option.some Jvm.ClassFile.FieldType.int))
theorem ca_254 : zCallee ym_254 1 := ⟨zw_1614, zw_14, by decide +kernel, by decide +kernel, by decide +kernel⟩
