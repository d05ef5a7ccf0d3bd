/-! THE CONSTRUCTORS -/
set_option maxRecDepth 20000 in
theorem xw_26 : (Jvm.Cond.code ({ cls := "TurnedLand", name := "<init>", desc := "()V" } : Jvm.MethodName) prog_1_method_1_code (1 : Nat) (Option.none : Option Jvm.ClassFile.FieldType)) ∈ zAll := zAll_t1 26 rfl rfl
set_option maxRecDepth 20000 in
theorem xw_27 : (Jvm.Cond.methodLink "TurnedLand" (3 : Nat) ({ cls := "java/lang/Object", name := "<init>", desc := "()V" } : Jvm.MethodName)) ∈ zAll := zAll_t1 27 rfl rfl
set_option maxRecDepth 20000 in
theorem xw_28 : (Jvm.Cond.instanceMethod ({ cls := "java/lang/Object", name := "<init>", desc := "()V" } : Jvm.MethodName)) ∈ zAll := zAll_t1 28 rfl rfl
set_option maxRecDepth 20000 in
theorem xw_29 : (Jvm.Cond.code ({ cls := "java/lang/Object", name := "<init>", desc := "()V" } : Jvm.MethodName) object_method_1_code (1 : Nat) (Option.none : Option Jvm.ClassFile.FieldType)) ∈ zAll := zAll_t1 29 rfl rfl
set_option maxRecDepth 20000 in
theorem xw_30 : (Jvm.Cond.classLink "TurnedLand" (9 : Nat) "TurnedLand$World") ∈ zAll := zAll_t1 30 rfl rfl
set_option maxRecDepth 20000 in
theorem xw_31 : (Jvm.Cond.instantiable "TurnedLand$World" (11 : Nat)) ∈ zAll := zAll_t1 31 rfl rfl
set_option maxRecDepth 20000 in
theorem xw_33 : (Jvm.Cond.instanceMethod ({ cls := "TurnedLand$World", name := "<init>", desc := "()V" } : Jvm.MethodName)) ∈ zAll := zAll_t1 33 rfl rfl
set_option maxRecDepth 20000 in
theorem xw_34 : (Jvm.Cond.code ({ cls := "TurnedLand$World", name := "<init>", desc := "()V" } : Jvm.MethodName) prog_12_method_1_code (1 : Nat) (Option.none : Option Jvm.ClassFile.FieldType)) ∈ zAll := zAll_t1 34 rfl rfl
set_option maxRecDepth 20000 in
theorem xw_35 : (Jvm.Cond.methodLink "TurnedLand$World" (3 : Nat) ({ cls := "java/lang/Object", name := "<init>", desc := "()V" } : Jvm.MethodName)) ∈ zAll := zAll_t1 35 rfl rfl
set_option maxRecDepth 20000 in
theorem xw_36 : (Jvm.Cond.classLink "TurnedLand$World" (9 : Nat) "TurnedLand$Ground") ∈ zAll := zAll_t1 36 rfl rfl
set_option maxRecDepth 20000 in
theorem xw_37 : (Jvm.Cond.instantiable "TurnedLand$Ground" (6 : Nat)) ∈ zAll := zAll_t1 37 rfl rfl
set_option maxRecDepth 20000 in
theorem xw_38 : (Jvm.Cond.methodLink "TurnedLand$World" (11 : Nat) ({ cls := "TurnedLand$Ground", name := "<init>", desc := "()V" } : Jvm.MethodName)) ∈ zAll := zAll_t1 38 rfl rfl
set_option maxRecDepth 20000 in
theorem xw_39 : (Jvm.Cond.instanceMethod ({ cls := "TurnedLand$Ground", name := "<init>", desc := "()V" } : Jvm.MethodName)) ∈ zAll := zAll_t1 39 rfl rfl
set_option maxRecDepth 20000 in
theorem xw_40 : (Jvm.Cond.code ({ cls := "TurnedLand$Ground", name := "<init>", desc := "()V" } : Jvm.MethodName) prog_4_method_1_code (1 : Nat) (Option.none : Option Jvm.ClassFile.FieldType)) ∈ zAll := zAll_t1 40 rfl rfl
set_option maxRecDepth 20000 in
theorem xw_41 : (Jvm.Cond.methodLink "TurnedLand$Ground" (3 : Nat) ({ cls := "java/lang/Object", name := "<init>", desc := "()V" } : Jvm.MethodName)) ∈ zAll := zAll_t1 41 rfl rfl
set_option maxRecDepth 20000 in
theorem xw_42 : (Jvm.Cond.methodLink "TurnedLand$Ground" (31 : Nat) ({ cls := "java/util/Arrays", name := "fill", desc := "([II)V" } : Jvm.MethodName)) ∈ zAll := zAll_t1 42 rfl rfl
set_option maxRecDepth 20000 in
theorem xw_78 : (Jvm.Cond.arrayClass Jvm.ClassFile.FieldType.int) ∈ zAll := zAll_t1 78 rfl rfl
set_option maxRecDepth 20000 in
theorem xw_79 : (Jvm.Cond.classLink "TurnedLand$World" (18 : Nat) "TurnedLand$Walks") ∈ zAll := zAll_t1 79 rfl rfl
set_option maxRecDepth 20000 in
theorem xw_80 : (Jvm.Cond.instantiable "TurnedLand$Walks" (6 : Nat)) ∈ zAll := zAll_t1 80 rfl rfl
set_option maxRecDepth 20000 in
theorem xw_82 : (Jvm.Cond.instanceMethod ({ cls := "TurnedLand$Walks", name := "<init>", desc := "()V" } : Jvm.MethodName)) ∈ zAll := zAll_t1 82 rfl rfl
set_option maxRecDepth 20000 in
theorem xw_83 : (Jvm.Cond.code ({ cls := "TurnedLand$Walks", name := "<init>", desc := "()V" } : Jvm.MethodName) prog_10_method_1_code (1 : Nat) (Option.none : Option Jvm.ClassFile.FieldType)) ∈ zAll := zAll_t1 83 rfl rfl
set_option maxRecDepth 20000 in
theorem xw_84 : (Jvm.Cond.methodLink "TurnedLand$Walks" (3 : Nat) ({ cls := "java/lang/Object", name := "<init>", desc := "()V" } : Jvm.MethodName)) ∈ zAll := zAll_t1 84 rfl rfl
set_option maxRecDepth 20000 in
theorem xw_85 : (Jvm.Cond.classLink "TurnedLand$Walks" (28 : Nat) "[[I") ∈ zAll := zAll_t1 85 rfl rfl
set_option maxRecDepth 20000 in
theorem xw_117 : (Jvm.Cond.classLink "TurnedLand$World" (25 : Nat) "TurnedLand$Folk") ∈ zAll := zAll_t1 117 rfl rfl
set_option maxRecDepth 20000 in
theorem xw_118 : (Jvm.Cond.instantiable "TurnedLand$Folk" (7 : Nat)) ∈ zAll := zAll_t1 118 rfl rfl
set_option maxRecDepth 20000 in
theorem xw_120 : (Jvm.Cond.instanceMethod ({ cls := "TurnedLand$Folk", name := "<init>", desc := "()V" } : Jvm.MethodName)) ∈ zAll := zAll_t1 120 rfl rfl
set_option maxRecDepth 20000 in
theorem xw_121 : (Jvm.Cond.code ({ cls := "TurnedLand$Folk", name := "<init>", desc := "()V" } : Jvm.MethodName) prog_3_method_1_code (1 : Nat) (Option.none : Option Jvm.ClassFile.FieldType)) ∈ zAll := zAll_t1 121 rfl rfl
set_option maxRecDepth 20000 in
theorem xw_122 : (Jvm.Cond.methodLink "TurnedLand$Folk" (3 : Nat) ({ cls := "java/lang/Object", name := "<init>", desc := "()V" } : Jvm.MethodName)) ∈ zAll := zAll_t1 122 rfl rfl
set_option maxRecDepth 20000 in
theorem xw_156 : (Jvm.Cond.classLink "TurnedLand$World" (32 : Nat) "TurnedLand$Doubts") ∈ zAll := zAll_t1 156 rfl rfl
set_option maxRecDepth 20000 in
theorem xw_157 : (Jvm.Cond.instantiable "TurnedLand$Doubts" (8 : Nat)) ∈ zAll := zAll_t1 157 rfl rfl
set_option maxRecDepth 20000 in
theorem xw_159 : (Jvm.Cond.instanceMethod ({ cls := "TurnedLand$Doubts", name := "<init>", desc := "()V" } : Jvm.MethodName)) ∈ zAll := zAll_t1 159 rfl rfl
set_option maxRecDepth 20000 in
theorem xw_160 : (Jvm.Cond.code ({ cls := "TurnedLand$Doubts", name := "<init>", desc := "()V" } : Jvm.MethodName) prog_2_method_1_code (1 : Nat) (Option.none : Option Jvm.ClassFile.FieldType)) ∈ zAll := zAll_t1 160 rfl rfl
set_option maxRecDepth 20000 in
theorem xw_161 : (Jvm.Cond.methodLink "TurnedLand$Doubts" (3 : Nat) ({ cls := "java/lang/Object", name := "<init>", desc := "()V" } : Jvm.MethodName)) ∈ zAll := zAll_t1 161 rfl rfl
set_option maxRecDepth 20000 in
theorem xw_193 : (Jvm.Cond.classLink "TurnedLand$World" (39 : Nat) "TurnedLand$Text") ∈ zAll := zAll_t1 193 rfl rfl
set_option maxRecDepth 20000 in
theorem xw_194 : (Jvm.Cond.instantiable "TurnedLand$Text" (6 : Nat)) ∈ zAll := zAll_t1 194 rfl rfl
set_option maxRecDepth 20000 in
theorem xw_196 : (Jvm.Cond.instanceMethod ({ cls := "TurnedLand$Text", name := "<init>", desc := "()V" } : Jvm.MethodName)) ∈ zAll := zAll_t1 196 rfl rfl
set_option maxRecDepth 20000 in
theorem xw_197 : (Jvm.Cond.code ({ cls := "TurnedLand$Text", name := "<init>", desc := "()V" } : Jvm.MethodName) prog_7_method_1_code (1 : Nat) (Option.none : Option Jvm.ClassFile.FieldType)) ∈ zAll := zAll_t1 197 rfl rfl
set_option maxRecDepth 20000 in
theorem xw_198 : (Jvm.Cond.methodLink "TurnedLand$Text" (3 : Nat) ({ cls := "java/lang/Object", name := "<init>", desc := "()V" } : Jvm.MethodName)) ∈ zAll := zAll_t1 198 rfl rfl
set_option maxRecDepth 20000 in
theorem xw_270 : (Jvm.Cond.classLink "TurnedLand" (33 : Nat) "[[I") ∈ zAll := zAll_t2 30 rfl rfl
set_option maxRecDepth 20000 in
theorem xw_271 : (Jvm.Cond.classLink "TurnedLand" (38 : Nat) "TurnedLand$Shape") ∈ zAll := zAll_t2 31 rfl rfl
set_option maxRecDepth 20000 in
theorem xw_272 : (Jvm.Cond.instantiable "TurnedLand$Shape" (2 : Nat)) ∈ zAll := zAll_t2 32 rfl rfl
set_option maxRecDepth 20000 in
theorem xw_274 : (Jvm.Cond.instanceMethod ({ cls := "TurnedLand$Shape", name := "<init>", desc := "()V" } : Jvm.MethodName)) ∈ zAll := zAll_t2 34 rfl rfl
set_option maxRecDepth 20000 in
theorem xw_275 : (Jvm.Cond.code ({ cls := "TurnedLand$Shape", name := "<init>", desc := "()V" } : Jvm.MethodName) prog_6_method_1_code (1 : Nat) (Option.none : Option Jvm.ClassFile.FieldType)) ∈ zAll := zAll_t2 35 rfl rfl
set_option maxRecDepth 20000 in
theorem xw_276 : (Jvm.Cond.methodLink "TurnedLand$Shape" (3 : Nat) ({ cls := "java/lang/Object", name := "<init>", desc := "()V" } : Jvm.MethodName)) ∈ zAll := zAll_t2 36 rfl rfl
set_option maxRecDepth 20000 in
theorem xw_284 : (Jvm.Cond.classLink "TurnedLand" (45 : Nat) "TurnedLand$Ways") ∈ zAll := zAll_t2 44 rfl rfl
set_option maxRecDepth 20000 in
theorem xw_285 : (Jvm.Cond.instantiable "TurnedLand$Ways" (5 : Nat)) ∈ zAll := zAll_t2 45 rfl rfl
set_option maxRecDepth 20000 in
theorem xw_287 : (Jvm.Cond.instanceMethod ({ cls := "TurnedLand$Ways", name := "<init>", desc := "()V" } : Jvm.MethodName)) ∈ zAll := zAll_t2 47 rfl rfl
set_option maxRecDepth 20000 in
theorem xw_288 : (Jvm.Cond.code ({ cls := "TurnedLand$Ways", name := "<init>", desc := "()V" } : Jvm.MethodName) prog_11_method_1_code (1 : Nat) (Option.none : Option Jvm.ClassFile.FieldType)) ∈ zAll := zAll_t2 48 rfl rfl
set_option maxRecDepth 20000 in
theorem xw_289 : (Jvm.Cond.methodLink "TurnedLand$Ways" (3 : Nat) ({ cls := "java/lang/Object", name := "<init>", desc := "()V" } : Jvm.MethodName)) ∈ zAll := zAll_t2 49 rfl rfl
set_option maxRecDepth 20000 in
theorem xw_290 : (Jvm.Cond.classLink "TurnedLand$Ways" (18 : Nat) "[[I") ∈ zAll := zAll_t2 50 rfl rfl
set_option maxRecDepth 20000 in
theorem xw_309 : (Jvm.Cond.classLink "TurnedLand" (55 : Nat) "TurnedLand$Walker") ∈ zAll := zAll_t2 69 rfl rfl
set_option maxRecDepth 20000 in
theorem xw_310 : (Jvm.Cond.instantiable "TurnedLand$Walker" (2 : Nat)) ∈ zAll := zAll_t2 70 rfl rfl
set_option maxRecDepth 20000 in
theorem xw_312 : (Jvm.Cond.instanceMethod ({ cls := "TurnedLand$Walker", name := "<init>", desc := "()V" } : Jvm.MethodName)) ∈ zAll := zAll_t2 72 rfl rfl
set_option maxRecDepth 20000 in
theorem xw_313 : (Jvm.Cond.code ({ cls := "TurnedLand$Walker", name := "<init>", desc := "()V" } : Jvm.MethodName) prog_9_method_1_code (1 : Nat) (Option.none : Option Jvm.ClassFile.FieldType)) ∈ zAll := zAll_t2 73 rfl rfl
set_option maxRecDepth 20000 in
theorem xw_314 : (Jvm.Cond.methodLink "TurnedLand$Walker" (3 : Nat) ({ cls := "java/lang/Object", name := "<init>", desc := "()V" } : Jvm.MethodName)) ∈ zAll := zAll_t2 74 rfl rfl
set_option maxRecDepth 20000 in
theorem xw_323 : (Jvm.Cond.classLink "TurnedLand" (62 : Nat) "TurnedLand$Reader") ∈ zAll := zAll_t2 83 rfl rfl
set_option maxRecDepth 20000 in
theorem xw_324 : (Jvm.Cond.instantiable "TurnedLand$Reader" (7 : Nat)) ∈ zAll := zAll_t2 84 rfl rfl
set_option maxRecDepth 20000 in
theorem xw_326 : (Jvm.Cond.instanceMethod ({ cls := "TurnedLand$Reader", name := "<init>", desc := "()V" } : Jvm.MethodName)) ∈ zAll := zAll_t2 86 rfl rfl
set_option maxRecDepth 20000 in
theorem xw_327 : (Jvm.Cond.code ({ cls := "TurnedLand$Reader", name := "<init>", desc := "()V" } : Jvm.MethodName) prog_5_method_1_code (1 : Nat) (Option.none : Option Jvm.ClassFile.FieldType)) ∈ zAll := zAll_t2 87 rfl rfl
set_option maxRecDepth 20000 in
theorem xw_328 : (Jvm.Cond.methodLink "TurnedLand$Reader" (3 : Nat) ({ cls := "java/lang/Object", name := "<init>", desc := "()V" } : Jvm.MethodName)) ∈ zAll := zAll_t2 88 rfl rfl
set_option maxRecDepth 20000 in
theorem xw_355 : (Jvm.Cond.classLink "TurnedLand" (69 : Nat) "TurnedLand$Voices") ∈ zAll := zAll_t2 115 rfl rfl
set_option maxRecDepth 20000 in
theorem xw_356 : (Jvm.Cond.instantiable "TurnedLand$Voices" (6 : Nat)) ∈ zAll := zAll_t2 116 rfl rfl
set_option maxRecDepth 20000 in
theorem xw_358 : (Jvm.Cond.instanceMethod ({ cls := "TurnedLand$Voices", name := "<init>", desc := "()V" } : Jvm.MethodName)) ∈ zAll := zAll_t2 118 rfl rfl
set_option maxRecDepth 20000 in
theorem xw_359 : (Jvm.Cond.code ({ cls := "TurnedLand$Voices", name := "<init>", desc := "()V" } : Jvm.MethodName) prog_8_method_1_code (1 : Nat) (Option.none : Option Jvm.ClassFile.FieldType)) ∈ zAll := zAll_t2 119 rfl rfl
set_option maxRecDepth 20000 in
theorem xw_360 : (Jvm.Cond.methodLink "TurnedLand$Voices" (3 : Nat) ({ cls := "java/lang/Object", name := "<init>", desc := "()V" } : Jvm.MethodName)) ∈ zAll := zAll_t2 120 rfl rfl
set_option maxRecDepth 20000 in
theorem xw_1028 : (Jvm.Cond.code ({ cls := "TurnedLandModel", name := "<init>", desc := "()V" } : Jvm.MethodName) prog_14_method_1_code (1 : Nat) (Option.none : Option Jvm.ClassFile.FieldType)) ∈ zAll := zAll_t5 68 rfl rfl
set_option maxRecDepth 20000 in
theorem xw_1029 : (Jvm.Cond.methodLink "TurnedLandModel" (3 : Nat) ({ cls := "java/lang/Object", name := "<init>", desc := "()V" } : Jvm.MethodName)) ∈ zAll := zAll_t5 69 rfl rfl
set_option maxRecDepth 20000 in
theorem xw_1030 : (Jvm.Cond.classLink "TurnedLandModel" (22 : Nat) "java/lang/String") ∈ zAll := zAll_t5 70 rfl rfl
theorem xobj : Cond.instanceMethod Lib.objectInit ∈ zAll ∧ Cond.code Lib.objectInit ⟨#[0xb1]⟩ 1 none ∈ zAll := ⟨xw_28, xw_29⟩
theorem xarr : Cond.arrayClass .int ∈ zAll := xw_78
theorem zln {sh L : List zK} {n : Nat} (hn : sh.length = n) : (sh ++ L).length = n + L.length := by rw [List.length_append, hn]
theorem zln2 {sh L K : List zK} {n : Nat} (hn : sh.length = n) : ((sh ++ L) ++ K).length = n + L.length + K.length := by rw [List.length_append, List.length_append, hn]
theorem zat {sh L : List zK} {n i : Nat} {k : zK} (hn : sh.length = n) (h : L[i]? = some k) : (sh ++ L)[n + i]? = some k := by
  subst hn
  rw [List.getElem?_append_right (by omega)]
  rw [show sh.length + i - sh.length = i by omega]
  exact h
def yi_2 : zMt := (⟨"TurnedLand$Ground", "<init>", "()V"⟩, prog_4_method_1_code, 1, none)
theorem cai_2 : zCallee yi_2 0 := ⟨xw_40, zw_3, by decide +kernel, by decide +kernel, by decide +kernel⟩
theorem di_2_0 : zD prog_4_method_1_code 0 (.aload_n 0) 1 1 := ⟨by decide +kernel, rfl⟩
theorem di_2_1 : zD prog_4_method_1_code 1 (.invokespecial 3) 3 4 := ⟨by decide +kernel, rfl⟩
theorem di_2_4 : zD prog_4_method_1_code 4 (.aload_n 0) 1 5 := ⟨by decide +kernel, rfl⟩
theorem di_2_5 : zD prog_4_method_1_code 5 (.iconst 0) 1 6 := ⟨by decide +kernel, rfl⟩
theorem di_2_6 : zD prog_4_method_1_code 6 (.putfield 9) 3 9 := ⟨by decide +kernel, rfl⟩
theorem di_2_9 : zD prog_4_method_1_code 9 (.aload_n 0) 1 10 := ⟨by decide +kernel, rfl⟩
theorem di_2_10 : zD prog_4_method_1_code 10 (.bipush 8) 2 12 := ⟨by decide +kernel, rfl⟩
theorem di_2_12 : zD prog_4_method_1_code 12 (.newarray .int) 2 14 := ⟨by decide +kernel, rfl⟩
theorem di_2_14 : zD prog_4_method_1_code 14 (.putfield 15) 3 17 := ⟨by decide +kernel, rfl⟩
theorem di_2_17 : zD prog_4_method_1_code 17 (.aload_n 0) 1 18 := ⟨by decide +kernel, rfl⟩
theorem di_2_18 : zD prog_4_method_1_code 18 (.iconst 0) 1 19 := ⟨by decide +kernel, rfl⟩
theorem di_2_19 : zD prog_4_method_1_code 19 (.putfield 19) 3 22 := ⟨by decide +kernel, rfl⟩
theorem di_2_22 : zD prog_4_method_1_code 22 (.aload_n 0) 1 23 := ⟨by decide +kernel, rfl⟩
theorem di_2_23 : zD prog_4_method_1_code 23 (.bipush 32) 2 25 := ⟨by decide +kernel, rfl⟩
theorem di_2_25 : zD prog_4_method_1_code 25 (.newarray .int) 2 27 := ⟨by decide +kernel, rfl⟩
theorem di_2_27 : zD prog_4_method_1_code 27 (.putfield 22) 3 30 := ⟨by decide +kernel, rfl⟩
theorem di_2_30 : zD prog_4_method_1_code 30 (.aload_n 0) 1 31 := ⟨by decide +kernel, rfl⟩
theorem di_2_31 : zD prog_4_method_1_code 31 (.bipush 16) 2 33 := ⟨by decide +kernel, rfl⟩
theorem di_2_33 : zD prog_4_method_1_code 33 (.newarray .int) 2 35 := ⟨by decide +kernel, rfl⟩
theorem di_2_35 : zD prog_4_method_1_code 35 (.putfield 25) 3 38 := ⟨by decide +kernel, rfl⟩
theorem di_2_38 : zD prog_4_method_1_code 38 (.aload_n 0) 1 39 := ⟨by decide +kernel, rfl⟩
theorem di_2_39 : zD prog_4_method_1_code 39 (.bipush 32) 2 41 := ⟨by decide +kernel, rfl⟩
theorem di_2_41 : zD prog_4_method_1_code 41 (.newarray .int) 2 43 := ⟨by decide +kernel, rfl⟩
theorem di_2_43 : zD prog_4_method_1_code 43 (.putfield 28) 3 46 := ⟨by decide +kernel, rfl⟩
theorem di_2_46 : zD prog_4_method_1_code 46 (.aload_n 0) 1 47 := ⟨by decide +kernel, rfl⟩
theorem di_2_47 : zD prog_4_method_1_code 47 (.getfield 28) 3 50 := ⟨by decide +kernel, rfl⟩
theorem di_2_50 : zD prog_4_method_1_code 50 (.iconst (-1)) 1 51 := ⟨by decide +kernel, rfl⟩
theorem di_2_51 : zD prog_4_method_1_code 51 (.invokestatic 31) 3 54 := ⟨by decide +kernel, rfl⟩
theorem di_2_54 : zD prog_4_method_1_code 54 (.return_) 1 55 := ⟨by decide +kernel, rfl⟩
def zL_2 : List zK := (((([.inl 2] ++ [.inr (0, 8)]) ++ [.inr (0, 32)]) ++ [.inr (0, 16)]) ++ [.inr (0, 32)])
set_option maxRecDepth 20000 in
theorem zLl_2 : zL_2.length = 5 := by decide
def zR_2 (n : Nat) (R : zRf) : zRf := (zrn (zrn (zrn (zrn R n 1 (some (n + 1))) n 3 (some (n + 2))) n 4 (some (n + 3))) n 5 (some (n + 4)))
def zI_2 (n : Nat) (I : zI) : zI := (zfill (zup (zup I n 0 0) n 2 0) (n + 4) 32 (-1))
theorem ci_2_F {R : zRf} {I : zI} {n : Nat} (hn2 : n + 5 < 100000) (hF : zFr (n + 1) R I) : zFr (n + 5) (zR_2 n R) (zI_2 n I) := by
  have hF1 := hF.zu (i := n) (k := 0) (x := 0) (by omega)
  have hF2 := (hF1.up (m' := n + 2) (by omega)).rn (i := n) (k := 1) (j := n + 1) (by omega) (Or.inl (by omega))
  have hF3 := hF2.zu (i := n) (k := 2) (x := 0) (by omega)
  have hF4 := (hF3.up (m' := n + 3) (by omega)).rn (i := n) (k := 3) (j := n + 2) (by omega) (Or.inl (by omega))
  have hF5 := (hF4.up (m' := n + 4) (by omega)).rn (i := n) (k := 4) (j := n + 3) (by omega) (Or.inl (by omega))
  have hF6 := (hF5.up (m' := n + 5) (by omega)).rn (i := n) (k := 5) (j := n + 4) (by omega) (Or.inl (by omega))
  have hF7 : zFr (n + 5) (zrn (zrn (zrn (zrn R n 1 (some (n + 1))) n 3 (some (n + 2))) n 4 (some (n + 3))) n 5 (some (n + 4))) (zfill (zup (zup I n 0 0) n 2 0) (n + 4) 32 (-1)) := (hF6.up (m' := n + 5) (by omega)).zi (i := n + 4) (by omega)
  exact hF7
set_option maxRecDepth 20000 in
theorem ci_2 {sh : List zK} {R : zRf} {I : zI} {n : Nat} (hn : sh.length = n) (hn2 : n + 5 < 100000) (hF : zFr (n + 1) R I) : zM 2 yi_2 [.inr (.inr (some n))] (sh ++ [.inl 2], R, I) none (sh ++ zL_2, zR_2 n R, zI_2 n I) 4 88 := by
  refine zM_of (by decide) (Nat.le_of_ble_eq_true rfl) (lv := [(0, .inr (.inr (some n)))]) rfl ?_
  refine zg_aload_n di_2_0 rfl (j := 0) rfl ?_
  refine zg_obj di_2_1 xw_41 xobj (by decide) (by decide) ?_
  refine zg_aload_n di_2_4 rfl (j := 0) rfl ?_
  refine zg_iconst di_2_5 (v := 0) (by decide) ?_
  refine zg_putI (ci := 2) (k := 0) di_2_6 ⟨_, zcl_2, by decide, zw_45, rfl⟩ (zat (i := 0) hn rfl) rfl (by exact zSt_int _) ?_
  have hF1 := hF.zu (i := n) (k := 0) (x := 0) (by omega)
  refine zg_aload_n di_2_9 rfl (j := 0) rfl ?_
  refine zg_bipush di_2_10 (v := 8) (by decide) ?_
  refine zg_newa di_2_12 xarr (by decide) (N := 8) (by decide) (by decide) (n := n + 1) (zln hn) (hF1.up (by omega)) (by omega) (by simp [zok]; try omega) (by simp [zok]; try omega) ⟨by decide, by decide⟩ (List.append_assoc _ _ _) (c2 := 1) (s2 := 8) rfl rfl ?_
  refine zg_putR (ci := 2) (k := 1) di_2_14 ⟨_, zcl_2, by decide, zw_50, rfl, rfl⟩ rfl (zat (i := 0) hn rfl) rfl ?_
  have hF2 := (hF1.up (m' := n + 2) (by omega)).rn (i := n) (k := 1) (j := n + 1) (by omega) (Or.inl (by omega))
  refine zg_aload_n di_2_17 rfl (j := 0) rfl ?_
  refine zg_iconst di_2_18 (v := 0) (by decide) ?_
  refine zg_putI (ci := 2) (k := 2) di_2_19 ⟨_, zcl_2, by decide, zw_53, rfl⟩ (zat (i := 0) hn rfl) rfl (by exact zSt_int _) ?_
  have hF3 := hF2.zu (i := n) (k := 2) (x := 0) (by omega)
  refine zg_aload_n di_2_22 rfl (j := 0) rfl ?_
  refine zg_bipush di_2_23 (v := 32) (by decide) ?_
  refine zg_newa di_2_25 xarr (by decide) (N := 32) (by decide) (by decide) (n := n + 2) (zln hn) (hF3.up (by omega)) (by omega) (by simp [zok]; try omega) (by simp [zok]; try omega) ⟨by decide, by decide⟩ (List.append_assoc _ _ _) (c2 := 2) (s2 := 40) rfl rfl ?_
  refine zg_putR (ci := 2) (k := 3) di_2_27 ⟨_, zcl_2, by decide, zw_57, rfl, rfl⟩ rfl (zat (i := 0) hn rfl) rfl ?_
  have hF4 := (hF3.up (m' := n + 3) (by omega)).rn (i := n) (k := 3) (j := n + 2) (by omega) (Or.inl (by omega))
  refine zg_aload_n di_2_30 rfl (j := 0) rfl ?_
  refine zg_bipush di_2_31 (v := 16) (by decide) ?_
  refine zg_newa di_2_33 xarr (by decide) (N := 16) (by decide) (by decide) (n := n + 3) (zln hn) (hF4.up (by omega)) (by omega) (by simp [zok]; try omega) (by simp [zok]; try omega) ⟨by decide, by decide⟩ (List.append_assoc _ _ _) (c2 := 3) (s2 := 56) rfl rfl ?_
  refine zg_putR (ci := 2) (k := 4) di_2_35 ⟨_, zcl_2, by decide, zw_60, rfl, rfl⟩ rfl (zat (i := 0) hn rfl) rfl ?_
  have hF5 := (hF4.up (m' := n + 4) (by omega)).rn (i := n) (k := 4) (j := n + 3) (by omega) (Or.inl (by omega))
  refine zg_aload_n di_2_38 rfl (j := 0) rfl ?_
  refine zg_bipush di_2_39 (v := 32) (by decide) ?_
  refine zg_newa di_2_41 xarr (by decide) (N := 32) (by decide) (by decide) (n := n + 4) (zln hn) (hF5.up (by omega)) (by omega) (by simp [zok]; try omega) (by simp [zok]; try omega) ⟨by decide, by decide⟩ (List.append_assoc _ _ _) (c2 := 4) (s2 := 88) rfl rfl ?_
  refine zg_putR (ci := 2) (k := 5) di_2_43 ⟨_, zcl_2, by decide, zw_63, rfl, rfl⟩ rfl (zat (i := 0) hn rfl) rfl ?_
  have hF6 := (hF5.up (m' := n + 5) (by omega)).rn (i := n) (k := 5) (j := n + 4) (by omega) (Or.inl (by omega))
  refine zg_aload_n di_2_46 rfl (j := 0) rfl ?_
  refine zg_getR (ci := 2) (k := 5) di_2_47 ⟨_, zcl_2, by decide, zw_63⟩ (zat (i := 0) hn rfl) rfl (j := n + 4) (by simp [zrn]) ?_
  refine zg_iconst di_2_50 (v := (-1)) (by decide) ?_
  refine zg_invS (av := [.inr (.inr (some (n + 4))), .inl (-1)]) (st := []) (n := 2) (r2 := none) (σ2 := (_, _, zfill _ (n + 4) 32 (-1))) (mc2 := 0) (ms2 := 0) di_2_51 ca_28 xw_42 zw_43 (mt_fill (zat (i := 4) hn rfl) (by decide)) rfl ⟨by decide, by decide⟩ (by decide) ⟨by decide, by decide⟩ zfix ?_
  have hF7 : zFr (n + 5) (zrn (zrn (zrn (zrn R n 1 (some (n + 1))) n 3 (some (n + 2))) n 4 (some (n + 3))) n 5 (some (n + 4))) (zfill (zup (zup I n 0 0) n 2 0) (n + 4) 32 (-1)) := (hF6.up (m' := n + 5) (by omega)).zi (i := n + 4) (by omega)
  exact zg_vret di_2_54 rfl
def yi_8 : zMt := (⟨"TurnedLand$Walks", "<init>", "()V"⟩, prog_10_method_1_code, 1, none)
theorem cai_8 : zCallee yi_8 0 := ⟨xw_83, zw_5, by decide +kernel, by decide +kernel, by decide +kernel⟩
theorem di_8_0 : zD prog_10_method_1_code 0 (.aload_n 0) 1 1 := ⟨by decide +kernel, rfl⟩
theorem di_8_1 : zD prog_10_method_1_code 1 (.invokespecial 3) 3 4 := ⟨by decide +kernel, rfl⟩
theorem di_8_4 : zD prog_10_method_1_code 4 (.aload_n 0) 1 5 := ⟨by decide +kernel, rfl⟩
theorem di_8_5 : zD prog_10_method_1_code 5 (.iconst 0) 1 6 := ⟨by decide +kernel, rfl⟩
theorem di_8_6 : zD prog_10_method_1_code 6 (.putfield 9) 3 9 := ⟨by decide +kernel, rfl⟩
theorem di_8_9 : zD prog_10_method_1_code 9 (.aload_n 0) 1 10 := ⟨by decide +kernel, rfl⟩
theorem di_8_10 : zD prog_10_method_1_code 10 (.bipush 10) 2 12 := ⟨by decide +kernel, rfl⟩
theorem di_8_12 : zD prog_10_method_1_code 12 (.newarray .int) 2 14 := ⟨by decide +kernel, rfl⟩
theorem di_8_14 : zD prog_10_method_1_code 14 (.putfield 15) 3 17 := ⟨by decide +kernel, rfl⟩
theorem di_8_17 : zD prog_10_method_1_code 17 (.aload_n 0) 1 18 := ⟨by decide +kernel, rfl⟩
theorem di_8_18 : zD prog_10_method_1_code 18 (.bipush 10) 2 20 := ⟨by decide +kernel, rfl⟩
theorem di_8_20 : zD prog_10_method_1_code 20 (.newarray .int) 2 22 := ⟨by decide +kernel, rfl⟩
theorem di_8_22 : zD prog_10_method_1_code 22 (.putfield 19) 3 25 := ⟨by decide +kernel, rfl⟩
theorem di_8_25 : zD prog_10_method_1_code 25 (.aload_n 0) 1 26 := ⟨by decide +kernel, rfl⟩
theorem di_8_26 : zD prog_10_method_1_code 26 (.bipush 10) 2 28 := ⟨by decide +kernel, rfl⟩
theorem di_8_28 : zD prog_10_method_1_code 28 (.newarray .int) 2 30 := ⟨by decide +kernel, rfl⟩
theorem di_8_30 : zD prog_10_method_1_code 30 (.putfield 22) 3 33 := ⟨by decide +kernel, rfl⟩
theorem di_8_33 : zD prog_10_method_1_code 33 (.aload_n 0) 1 34 := ⟨by decide +kernel, rfl⟩
theorem di_8_34 : zD prog_10_method_1_code 34 (.bipush 10) 2 36 := ⟨by decide +kernel, rfl⟩
theorem di_8_36 : zD prog_10_method_1_code 36 (.newarray .int) 2 38 := ⟨by decide +kernel, rfl⟩
theorem di_8_38 : zD prog_10_method_1_code 38 (.putfield 25) 3 41 := ⟨by decide +kernel, rfl⟩
theorem di_8_41 : zD prog_10_method_1_code 41 (.aload_n 0) 1 42 := ⟨by decide +kernel, rfl⟩
theorem di_8_42 : zD prog_10_method_1_code 42 (.bipush 10) 2 44 := ⟨by decide +kernel, rfl⟩
theorem di_8_44 : zD prog_10_method_1_code 44 (.bipush 8) 2 46 := ⟨by decide +kernel, rfl⟩
theorem di_8_46 : zD prog_10_method_1_code 46 (.multianewarray 28 2) 4 50 := ⟨by decide +kernel, rfl⟩
theorem di_8_50 : zD prog_10_method_1_code 50 (.putfield 30) 3 53 := ⟨by decide +kernel, rfl⟩
theorem di_8_53 : zD prog_10_method_1_code 53 (.return_) 1 54 := ⟨by decide +kernel, rfl⟩
def zL_8 : List zK := ((((([.inl 8] ++ [.inr (0, 10)]) ++ [.inr (0, 10)]) ++ [.inr (0, 10)]) ++ [.inr (0, 10)]) ++ .inr (1, 10) :: List.replicate 10 (.inr (0, 8)))
set_option maxRecDepth 20000 in
theorem zLl_8 : zL_8.length = 16 := by decide
def zR_8 (n : Nat) (R : zRf) : zRf := (zrn (zrr (zrn (zrn (zrn (zrn R n 1 (some (n + 1))) n 2 (some (n + 2))) n 3 (some (n + 3))) n 4 (some (n + 4))) (n + 5) 10) n 5 (some (n + 5)))
def zI_8 (n : Nat) (I : zI) : zI := (zup I n 0 0)
theorem ci_8_F {R : zRf} {I : zI} {n : Nat} (hn2 : n + 16 < 100000) (hF : zFr (n + 1) R I) : zFr (n + 16) (zR_8 n R) (zI_8 n I) := by
  have hF1 := hF.zu (i := n) (k := 0) (x := 0) (by omega)
  have hF2 := (hF1.up (m' := n + 2) (by omega)).rn (i := n) (k := 1) (j := n + 1) (by omega) (Or.inl (by omega))
  have hF3 := (hF2.up (m' := n + 3) (by omega)).rn (i := n) (k := 2) (j := n + 2) (by omega) (Or.inl (by omega))
  have hF4 := (hF3.up (m' := n + 4) (by omega)).rn (i := n) (k := 3) (j := n + 3) (by omega) (Or.inl (by omega))
  have hF5 := (hF4.up (m' := n + 5) (by omega)).rn (i := n) (k := 4) (j := n + 4) (by omega) (Or.inl (by omega))
  have hF6 := (hF5.up (m' := n + 16) (by omega)).rr (i := n + 5) (N := 10) (by omega)
  have hF7 := (hF6.up (m' := n + 16) (by omega)).rn (i := n) (k := 5) (j := n + 5) (by omega) (Or.inl (by omega))
  exact hF7
set_option maxRecDepth 20000 in
theorem ci_8 {sh : List zK} {R : zRf} {I : zI} {n : Nat} (hn : sh.length = n) (hn2 : n + 16 < 100000) (hF : zFr (n + 1) R I) : zM 1 yi_8 [.inr (.inr (some n))] (sh ++ [.inl 8], R, I) none (sh ++ zL_8, zR_8 n R, zI_8 n I) 15 130 := by
  refine zM_of (by decide) (Nat.le_of_ble_eq_true rfl) (lv := [(0, .inr (.inr (some n)))]) rfl ?_
  refine zg_aload_n di_8_0 rfl (j := 0) rfl ?_
  refine zg_obj di_8_1 xw_84 xobj (by decide) (by decide) ?_
  refine zg_aload_n di_8_4 rfl (j := 0) rfl ?_
  refine zg_iconst di_8_5 (v := 0) (by decide) ?_
  refine zg_putI (ci := 8) (k := 0) di_8_6 ⟨_, zcl_8, by decide, zw_87, rfl⟩ (zat (i := 0) hn rfl) rfl (by exact zSt_int _) ?_
  have hF1 := hF.zu (i := n) (k := 0) (x := 0) (by omega)
  refine zg_aload_n di_8_9 rfl (j := 0) rfl ?_
  refine zg_bipush di_8_10 (v := 10) (by decide) ?_
  refine zg_newa di_8_12 xarr (by decide) (N := 10) (by decide) (by decide) (n := n + 1) (zln hn) (hF1.up (by omega)) (by omega) (by simp [zok]; try omega) (by simp [zok]; try omega) ⟨by decide, by decide⟩ (List.append_assoc _ _ _) (c2 := 1) (s2 := 10) rfl rfl ?_
  refine zg_putR (ci := 8) (k := 1) di_8_14 ⟨_, zcl_8, by decide, zw_90, rfl, rfl⟩ rfl (zat (i := 0) hn rfl) rfl ?_
  have hF2 := (hF1.up (m' := n + 2) (by omega)).rn (i := n) (k := 1) (j := n + 1) (by omega) (Or.inl (by omega))
  refine zg_aload_n di_8_17 rfl (j := 0) rfl ?_
  refine zg_bipush di_8_18 (v := 10) (by decide) ?_
  refine zg_newa di_8_20 xarr (by decide) (N := 10) (by decide) (by decide) (n := n + 2) (zln hn) (hF2.up (by omega)) (by omega) (by simp [zok]; try omega) (by simp [zok]; try omega) ⟨by decide, by decide⟩ (List.append_assoc _ _ _) (c2 := 2) (s2 := 20) rfl rfl ?_
  refine zg_putR (ci := 8) (k := 2) di_8_22 ⟨_, zcl_8, by decide, zw_93, rfl, rfl⟩ rfl (zat (i := 0) hn rfl) rfl ?_
  have hF3 := (hF2.up (m' := n + 3) (by omega)).rn (i := n) (k := 2) (j := n + 2) (by omega) (Or.inl (by omega))
  refine zg_aload_n di_8_25 rfl (j := 0) rfl ?_
  refine zg_bipush di_8_26 (v := 10) (by decide) ?_
  refine zg_newa di_8_28 xarr (by decide) (N := 10) (by decide) (by decide) (n := n + 3) (zln hn) (hF3.up (by omega)) (by omega) (by simp [zok]; try omega) (by simp [zok]; try omega) ⟨by decide, by decide⟩ (List.append_assoc _ _ _) (c2 := 3) (s2 := 30) rfl rfl ?_
  refine zg_putR (ci := 8) (k := 3) di_8_30 ⟨_, zcl_8, by decide, zw_96, rfl, rfl⟩ rfl (zat (i := 0) hn rfl) rfl ?_
  have hF4 := (hF3.up (m' := n + 4) (by omega)).rn (i := n) (k := 3) (j := n + 3) (by omega) (Or.inl (by omega))
  refine zg_aload_n di_8_33 rfl (j := 0) rfl ?_
  refine zg_bipush di_8_34 (v := 10) (by decide) ?_
  refine zg_newa di_8_36 xarr (by decide) (N := 10) (by decide) (by decide) (n := n + 4) (zln hn) (hF4.up (by omega)) (by omega) (by simp [zok]; try omega) (by simp [zok]; try omega) ⟨by decide, by decide⟩ (List.append_assoc _ _ _) (c2 := 4) (s2 := 40) rfl rfl ?_
  refine zg_putR (ci := 8) (k := 4) di_8_38 ⟨_, zcl_8, by decide, zw_99, rfl, rfl⟩ rfl (zat (i := 0) hn rfl) rfl ?_
  have hF5 := (hF4.up (m' := n + 5) (by omega)).rn (i := n) (k := 4) (j := n + 4) (by omega) (Or.inl (by omega))
  refine zg_aload_n di_8_41 rfl (j := 0) rfl ?_
  refine zg_bipush di_8_42 (v := 10) (by decide) ?_
  refine zg_bipush di_8_44 (v := 8) (by decide) ?_
  refine zg_mna di_8_46 xw_85 xarr (N := 10) (K := 8) ⟨by decide, by decide, by decide, by decide⟩ ⟨by decide, by decide⟩ (n := n + 5) (zln hn) (hF5.up (by omega)) (by omega) (by simp [zok]; try omega) (by simp [zok]; try omega) ⟨by decide, by decide⟩ (List.append_assoc _ _ _) (c2 := 15) (s2 := 130) rfl rfl ?_
  have hF6 := (hF5.up (m' := n + 16) (by omega)).rr (i := n + 5) (N := 10) (by omega)
  refine zg_putR (ci := 8) (k := 5) di_8_50 ⟨_, zcl_8, by decide, zw_102, rfl, rfl⟩ rfl (zat (i := 0) hn rfl) rfl ?_
  have hF7 := (hF6.up (m' := n + 16) (by omega)).rn (i := n) (k := 5) (j := n + 5) (by omega) (Or.inl (by omega))
  exact zg_vret di_8_53 rfl
def yi_1 : zMt := (⟨"TurnedLand$Folk", "<init>", "()V"⟩, prog_3_method_1_code, 1, none)
theorem cai_1 : zCallee yi_1 0 := ⟨xw_121, zw_6, by decide +kernel, by decide +kernel, by decide +kernel⟩
theorem di_1_0 : zD prog_3_method_1_code 0 (.aload_n 0) 1 1 := ⟨by decide +kernel, rfl⟩
theorem di_1_1 : zD prog_3_method_1_code 1 (.invokespecial 3) 3 4 := ⟨by decide +kernel, rfl⟩
theorem di_1_4 : zD prog_3_method_1_code 4 (.aload_n 0) 1 5 := ⟨by decide +kernel, rfl⟩
theorem di_1_5 : zD prog_3_method_1_code 5 (.iconst 0) 1 6 := ⟨by decide +kernel, rfl⟩
theorem di_1_6 : zD prog_3_method_1_code 6 (.putfield 9) 3 9 := ⟨by decide +kernel, rfl⟩
theorem di_1_9 : zD prog_3_method_1_code 9 (.aload_n 0) 1 10 := ⟨by decide +kernel, rfl⟩
theorem di_1_10 : zD prog_3_method_1_code 10 (.bipush 6) 2 12 := ⟨by decide +kernel, rfl⟩
theorem di_1_12 : zD prog_3_method_1_code 12 (.newarray .int) 2 14 := ⟨by decide +kernel, rfl⟩
theorem di_1_14 : zD prog_3_method_1_code 14 (.putfield 15) 3 17 := ⟨by decide +kernel, rfl⟩
theorem di_1_17 : zD prog_3_method_1_code 17 (.aload_n 0) 1 18 := ⟨by decide +kernel, rfl⟩
theorem di_1_18 : zD prog_3_method_1_code 18 (.bipush 6) 2 20 := ⟨by decide +kernel, rfl⟩
theorem di_1_20 : zD prog_3_method_1_code 20 (.newarray .int) 2 22 := ⟨by decide +kernel, rfl⟩
theorem di_1_22 : zD prog_3_method_1_code 22 (.putfield 19) 3 25 := ⟨by decide +kernel, rfl⟩
theorem di_1_25 : zD prog_3_method_1_code 25 (.aload_n 0) 1 26 := ⟨by decide +kernel, rfl⟩
theorem di_1_26 : zD prog_3_method_1_code 26 (.iconst 0) 1 27 := ⟨by decide +kernel, rfl⟩
theorem di_1_27 : zD prog_3_method_1_code 27 (.putfield 22) 3 30 := ⟨by decide +kernel, rfl⟩
theorem di_1_30 : zD prog_3_method_1_code 30 (.aload_n 0) 1 31 := ⟨by decide +kernel, rfl⟩
theorem di_1_31 : zD prog_3_method_1_code 31 (.bipush 6) 2 33 := ⟨by decide +kernel, rfl⟩
theorem di_1_33 : zD prog_3_method_1_code 33 (.newarray .int) 2 35 := ⟨by decide +kernel, rfl⟩
theorem di_1_35 : zD prog_3_method_1_code 35 (.putfield 25) 3 38 := ⟨by decide +kernel, rfl⟩
theorem di_1_38 : zD prog_3_method_1_code 38 (.aload_n 0) 1 39 := ⟨by decide +kernel, rfl⟩
theorem di_1_39 : zD prog_3_method_1_code 39 (.bipush 6) 2 41 := ⟨by decide +kernel, rfl⟩
theorem di_1_41 : zD prog_3_method_1_code 41 (.newarray .int) 2 43 := ⟨by decide +kernel, rfl⟩
theorem di_1_43 : zD prog_3_method_1_code 43 (.putfield 28) 3 46 := ⟨by decide +kernel, rfl⟩
theorem di_1_46 : zD prog_3_method_1_code 46 (.aload_n 0) 1 47 := ⟨by decide +kernel, rfl⟩
theorem di_1_47 : zD prog_3_method_1_code 47 (.bipush 6) 2 49 := ⟨by decide +kernel, rfl⟩
theorem di_1_49 : zD prog_3_method_1_code 49 (.newarray .int) 2 51 := ⟨by decide +kernel, rfl⟩
theorem di_1_51 : zD prog_3_method_1_code 51 (.putfield 31) 3 54 := ⟨by decide +kernel, rfl⟩
theorem di_1_54 : zD prog_3_method_1_code 54 (.return_) 1 55 := ⟨by decide +kernel, rfl⟩
def zL_1 : List zK := ((((([.inl 1] ++ [.inr (0, 6)]) ++ [.inr (0, 6)]) ++ [.inr (0, 6)]) ++ [.inr (0, 6)]) ++ [.inr (0, 6)])
set_option maxRecDepth 20000 in
theorem zLl_1 : zL_1.length = 6 := by decide
def zR_1 (n : Nat) (R : zRf) : zRf := (zrn (zrn (zrn (zrn (zrn R n 1 (some (n + 1))) n 2 (some (n + 2))) n 4 (some (n + 3))) n 5 (some (n + 4))) n 6 (some (n + 5)))
def zI_1 (n : Nat) (I : zI) : zI := (zup (zup I n 0 0) n 3 0)
theorem ci_1_F {R : zRf} {I : zI} {n : Nat} (hn2 : n + 6 < 100000) (hF : zFr (n + 1) R I) : zFr (n + 6) (zR_1 n R) (zI_1 n I) := by
  have hF1 := hF.zu (i := n) (k := 0) (x := 0) (by omega)
  have hF2 := (hF1.up (m' := n + 2) (by omega)).rn (i := n) (k := 1) (j := n + 1) (by omega) (Or.inl (by omega))
  have hF3 := (hF2.up (m' := n + 3) (by omega)).rn (i := n) (k := 2) (j := n + 2) (by omega) (Or.inl (by omega))
  have hF4 := hF3.zu (i := n) (k := 3) (x := 0) (by omega)
  have hF5 := (hF4.up (m' := n + 4) (by omega)).rn (i := n) (k := 4) (j := n + 3) (by omega) (Or.inl (by omega))
  have hF6 := (hF5.up (m' := n + 5) (by omega)).rn (i := n) (k := 5) (j := n + 4) (by omega) (Or.inl (by omega))
  have hF7 := (hF6.up (m' := n + 6) (by omega)).rn (i := n) (k := 6) (j := n + 5) (by omega) (Or.inl (by omega))
  exact hF7
set_option maxRecDepth 20000 in
theorem ci_1 {sh : List zK} {R : zRf} {I : zI} {n : Nat} (hn : sh.length = n) (hn2 : n + 6 < 100000) (hF : zFr (n + 1) R I) : zM 1 yi_1 [.inr (.inr (some n))] (sh ++ [.inl 1], R, I) none (sh ++ zL_1, zR_1 n R, zI_1 n I) 5 30 := by
  refine zM_of (by decide) (Nat.le_of_ble_eq_true rfl) (lv := [(0, .inr (.inr (some n)))]) rfl ?_
  refine zg_aload_n di_1_0 rfl (j := 0) rfl ?_
  refine zg_obj di_1_1 xw_122 xobj (by decide) (by decide) ?_
  refine zg_aload_n di_1_4 rfl (j := 0) rfl ?_
  refine zg_iconst di_1_5 (v := 0) (by decide) ?_
  refine zg_putI (ci := 1) (k := 0) di_1_6 ⟨_, zcl_1, by decide, zw_123, rfl⟩ (zat (i := 0) hn rfl) rfl (by exact zSt_int _) ?_
  have hF1 := hF.zu (i := n) (k := 0) (x := 0) (by omega)
  refine zg_aload_n di_1_9 rfl (j := 0) rfl ?_
  refine zg_bipush di_1_10 (v := 6) (by decide) ?_
  refine zg_newa di_1_12 xarr (by decide) (N := 6) (by decide) (by decide) (n := n + 1) (zln hn) (hF1.up (by omega)) (by omega) (by simp [zok]; try omega) (by simp [zok]; try omega) ⟨by decide, by decide⟩ (List.append_assoc _ _ _) (c2 := 1) (s2 := 6) rfl rfl ?_
  refine zg_putR (ci := 1) (k := 1) di_1_14 ⟨_, zcl_1, by decide, zw_125, rfl, rfl⟩ rfl (zat (i := 0) hn rfl) rfl ?_
  have hF2 := (hF1.up (m' := n + 2) (by omega)).rn (i := n) (k := 1) (j := n + 1) (by omega) (Or.inl (by omega))
  refine zg_aload_n di_1_17 rfl (j := 0) rfl ?_
  refine zg_bipush di_1_18 (v := 6) (by decide) ?_
  refine zg_newa di_1_20 xarr (by decide) (N := 6) (by decide) (by decide) (n := n + 2) (zln hn) (hF2.up (by omega)) (by omega) (by simp [zok]; try omega) (by simp [zok]; try omega) ⟨by decide, by decide⟩ (List.append_assoc _ _ _) (c2 := 2) (s2 := 12) rfl rfl ?_
  refine zg_putR (ci := 1) (k := 2) di_1_22 ⟨_, zcl_1, by decide, zw_128, rfl, rfl⟩ rfl (zat (i := 0) hn rfl) rfl ?_
  have hF3 := (hF2.up (m' := n + 3) (by omega)).rn (i := n) (k := 2) (j := n + 2) (by omega) (Or.inl (by omega))
  refine zg_aload_n di_1_25 rfl (j := 0) rfl ?_
  refine zg_iconst di_1_26 (v := 0) (by decide) ?_
  refine zg_putI (ci := 1) (k := 3) di_1_27 ⟨_, zcl_1, by decide, zw_131, rfl⟩ (zat (i := 0) hn rfl) rfl (by exact zSt_int _) ?_
  have hF4 := hF3.zu (i := n) (k := 3) (x := 0) (by omega)
  refine zg_aload_n di_1_30 rfl (j := 0) rfl ?_
  refine zg_bipush di_1_31 (v := 6) (by decide) ?_
  refine zg_newa di_1_33 xarr (by decide) (N := 6) (by decide) (by decide) (n := n + 3) (zln hn) (hF4.up (by omega)) (by omega) (by simp [zok]; try omega) (by simp [zok]; try omega) ⟨by decide, by decide⟩ (List.append_assoc _ _ _) (c2 := 3) (s2 := 18) rfl rfl ?_
  refine zg_putR (ci := 1) (k := 4) di_1_35 ⟨_, zcl_1, by decide, zw_133, rfl, rfl⟩ rfl (zat (i := 0) hn rfl) rfl ?_
  have hF5 := (hF4.up (m' := n + 4) (by omega)).rn (i := n) (k := 4) (j := n + 3) (by omega) (Or.inl (by omega))
  refine zg_aload_n di_1_38 rfl (j := 0) rfl ?_
  refine zg_bipush di_1_39 (v := 6) (by decide) ?_
  refine zg_newa di_1_41 xarr (by decide) (N := 6) (by decide) (by decide) (n := n + 4) (zln hn) (hF5.up (by omega)) (by omega) (by simp [zok]; try omega) (by simp [zok]; try omega) ⟨by decide, by decide⟩ (List.append_assoc _ _ _) (c2 := 4) (s2 := 24) rfl rfl ?_
  refine zg_putR (ci := 1) (k := 5) di_1_43 ⟨_, zcl_1, by decide, zw_135, rfl, rfl⟩ rfl (zat (i := 0) hn rfl) rfl ?_
  have hF6 := (hF5.up (m' := n + 5) (by omega)).rn (i := n) (k := 5) (j := n + 4) (by omega) (Or.inl (by omega))
  refine zg_aload_n di_1_46 rfl (j := 0) rfl ?_
  refine zg_bipush di_1_47 (v := 6) (by decide) ?_
  refine zg_newa di_1_49 xarr (by decide) (N := 6) (by decide) (by decide) (n := n + 5) (zln hn) (hF6.up (by omega)) (by omega) (by simp [zok]; try omega) (by simp [zok]; try omega) ⟨by decide, by decide⟩ (List.append_assoc _ _ _) (c2 := 5) (s2 := 30) rfl rfl ?_
  refine zg_putR (ci := 1) (k := 6) di_1_51 ⟨_, zcl_1, by decide, zw_138, rfl, rfl⟩ rfl (zat (i := 0) hn rfl) rfl ?_
  have hF7 := (hF6.up (m' := n + 6) (by omega)).rn (i := n) (k := 6) (j := n + 5) (by omega) (Or.inl (by omega))
  exact zg_vret di_1_54 rfl
def yi_0 : zMt := (⟨"TurnedLand$Doubts", "<init>", "()V"⟩, prog_2_method_1_code, 1, none)
theorem cai_0 : zCallee yi_0 0 := ⟨xw_160, zw_7, by decide +kernel, by decide +kernel, by decide +kernel⟩
theorem di_0_0 : zD prog_2_method_1_code 0 (.aload_n 0) 1 1 := ⟨by decide +kernel, rfl⟩
theorem di_0_1 : zD prog_2_method_1_code 1 (.invokespecial 3) 3 4 := ⟨by decide +kernel, rfl⟩
theorem di_0_4 : zD prog_2_method_1_code 4 (.aload_n 0) 1 5 := ⟨by decide +kernel, rfl⟩
theorem di_0_5 : zD prog_2_method_1_code 5 (.iconst 0) 1 6 := ⟨by decide +kernel, rfl⟩
theorem di_0_6 : zD prog_2_method_1_code 6 (.putfield 9) 3 9 := ⟨by decide +kernel, rfl⟩
theorem di_0_9 : zD prog_2_method_1_code 9 (.aload_n 0) 1 10 := ⟨by decide +kernel, rfl⟩
theorem di_0_10 : zD prog_2_method_1_code 10 (.iconst 0) 1 11 := ⟨by decide +kernel, rfl⟩
theorem di_0_11 : zD prog_2_method_1_code 11 (.putfield 15) 3 14 := ⟨by decide +kernel, rfl⟩
theorem di_0_14 : zD prog_2_method_1_code 14 (.aload_n 0) 1 15 := ⟨by decide +kernel, rfl⟩
theorem di_0_15 : zD prog_2_method_1_code 15 (.bipush 12) 2 17 := ⟨by decide +kernel, rfl⟩
theorem di_0_17 : zD prog_2_method_1_code 17 (.newarray .int) 2 19 := ⟨by decide +kernel, rfl⟩
theorem di_0_19 : zD prog_2_method_1_code 19 (.putfield 18) 3 22 := ⟨by decide +kernel, rfl⟩
theorem di_0_22 : zD prog_2_method_1_code 22 (.aload_n 0) 1 23 := ⟨by decide +kernel, rfl⟩
theorem di_0_23 : zD prog_2_method_1_code 23 (.bipush 12) 2 25 := ⟨by decide +kernel, rfl⟩
theorem di_0_25 : zD prog_2_method_1_code 25 (.newarray .int) 2 27 := ⟨by decide +kernel, rfl⟩
theorem di_0_27 : zD prog_2_method_1_code 27 (.putfield 22) 3 30 := ⟨by decide +kernel, rfl⟩
theorem di_0_30 : zD prog_2_method_1_code 30 (.aload_n 0) 1 31 := ⟨by decide +kernel, rfl⟩
theorem di_0_31 : zD prog_2_method_1_code 31 (.iconst 0) 1 32 := ⟨by decide +kernel, rfl⟩
theorem di_0_32 : zD prog_2_method_1_code 32 (.putfield 25) 3 35 := ⟨by decide +kernel, rfl⟩
theorem di_0_35 : zD prog_2_method_1_code 35 (.aload_n 0) 1 36 := ⟨by decide +kernel, rfl⟩
theorem di_0_36 : zD prog_2_method_1_code 36 (.bipush 16) 2 38 := ⟨by decide +kernel, rfl⟩
theorem di_0_38 : zD prog_2_method_1_code 38 (.newarray .int) 2 40 := ⟨by decide +kernel, rfl⟩
theorem di_0_40 : zD prog_2_method_1_code 40 (.putfield 28) 3 43 := ⟨by decide +kernel, rfl⟩
theorem di_0_43 : zD prog_2_method_1_code 43 (.aload_n 0) 1 44 := ⟨by decide +kernel, rfl⟩
theorem di_0_44 : zD prog_2_method_1_code 44 (.bipush 10) 2 46 := ⟨by decide +kernel, rfl⟩
theorem di_0_46 : zD prog_2_method_1_code 46 (.newarray .int) 2 48 := ⟨by decide +kernel, rfl⟩
theorem di_0_48 : zD prog_2_method_1_code 48 (.putfield 31) 3 51 := ⟨by decide +kernel, rfl⟩
theorem di_0_51 : zD prog_2_method_1_code 51 (.aload_n 0) 1 52 := ⟨by decide +kernel, rfl⟩
theorem di_0_52 : zD prog_2_method_1_code 52 (.bipush 10) 2 54 := ⟨by decide +kernel, rfl⟩
theorem di_0_54 : zD prog_2_method_1_code 54 (.newarray .int) 2 56 := ⟨by decide +kernel, rfl⟩
theorem di_0_56 : zD prog_2_method_1_code 56 (.putfield 34) 3 59 := ⟨by decide +kernel, rfl⟩
theorem di_0_59 : zD prog_2_method_1_code 59 (.return_) 1 60 := ⟨by decide +kernel, rfl⟩
def zL_0 : List zK := ((((([.inl 0] ++ [.inr (0, 12)]) ++ [.inr (0, 12)]) ++ [.inr (0, 16)]) ++ [.inr (0, 10)]) ++ [.inr (0, 10)])
set_option maxRecDepth 20000 in
theorem zLl_0 : zL_0.length = 6 := by decide
def zR_0 (n : Nat) (R : zRf) : zRf := (zrn (zrn (zrn (zrn (zrn R n 2 (some (n + 1))) n 3 (some (n + 2))) n 5 (some (n + 3))) n 6 (some (n + 4))) n 7 (some (n + 5)))
def zI_0 (n : Nat) (I : zI) : zI := (zup (zup (zup I n 0 0) n 1 0) n 4 0)
theorem ci_0_F {R : zRf} {I : zI} {n : Nat} (hn2 : n + 6 < 100000) (hF : zFr (n + 1) R I) : zFr (n + 6) (zR_0 n R) (zI_0 n I) := by
  have hF1 := hF.zu (i := n) (k := 0) (x := 0) (by omega)
  have hF2 := hF1.zu (i := n) (k := 1) (x := 0) (by omega)
  have hF3 := (hF2.up (m' := n + 2) (by omega)).rn (i := n) (k := 2) (j := n + 1) (by omega) (Or.inl (by omega))
  have hF4 := (hF3.up (m' := n + 3) (by omega)).rn (i := n) (k := 3) (j := n + 2) (by omega) (Or.inl (by omega))
  have hF5 := hF4.zu (i := n) (k := 4) (x := 0) (by omega)
  have hF6 := (hF5.up (m' := n + 4) (by omega)).rn (i := n) (k := 5) (j := n + 3) (by omega) (Or.inl (by omega))
  have hF7 := (hF6.up (m' := n + 5) (by omega)).rn (i := n) (k := 6) (j := n + 4) (by omega) (Or.inl (by omega))
  have hF8 := (hF7.up (m' := n + 6) (by omega)).rn (i := n) (k := 7) (j := n + 5) (by omega) (Or.inl (by omega))
  exact hF8
set_option maxRecDepth 20000 in
theorem ci_0 {sh : List zK} {R : zRf} {I : zI} {n : Nat} (hn : sh.length = n) (hn2 : n + 6 < 100000) (hF : zFr (n + 1) R I) : zM 1 yi_0 [.inr (.inr (some n))] (sh ++ [.inl 0], R, I) none (sh ++ zL_0, zR_0 n R, zI_0 n I) 5 60 := by
  refine zM_of (by decide) (Nat.le_of_ble_eq_true rfl) (lv := [(0, .inr (.inr (some n)))]) rfl ?_
  refine zg_aload_n di_0_0 rfl (j := 0) rfl ?_
  refine zg_obj di_0_1 xw_161 xobj (by decide) (by decide) ?_
  refine zg_aload_n di_0_4 rfl (j := 0) rfl ?_
  refine zg_iconst di_0_5 (v := 0) (by decide) ?_
  refine zg_putI (ci := 0) (k := 0) di_0_6 ⟨_, zcl_0, by decide, zw_162, rfl⟩ (zat (i := 0) hn rfl) rfl (by exact zSt_int _) ?_
  have hF1 := hF.zu (i := n) (k := 0) (x := 0) (by omega)
  refine zg_aload_n di_0_9 rfl (j := 0) rfl ?_
  refine zg_iconst di_0_10 (v := 0) (by decide) ?_
  refine zg_putI (ci := 0) (k := 1) di_0_11 ⟨_, zcl_0, by decide, zw_164, rfl⟩ (zat (i := 0) hn rfl) rfl (by exact zSt_int _) ?_
  have hF2 := hF1.zu (i := n) (k := 1) (x := 0) (by omega)
  refine zg_aload_n di_0_14 rfl (j := 0) rfl ?_
  refine zg_bipush di_0_15 (v := 12) (by decide) ?_
  refine zg_newa di_0_17 xarr (by decide) (N := 12) (by decide) (by decide) (n := n + 1) (zln hn) (hF2.up (by omega)) (by omega) (by simp [zok]; try omega) (by simp [zok]; try omega) ⟨by decide, by decide⟩ (List.append_assoc _ _ _) (c2 := 1) (s2 := 12) rfl rfl ?_
  refine zg_putR (ci := 0) (k := 2) di_0_19 ⟨_, zcl_0, by decide, zw_166, rfl, rfl⟩ rfl (zat (i := 0) hn rfl) rfl ?_
  have hF3 := (hF2.up (m' := n + 2) (by omega)).rn (i := n) (k := 2) (j := n + 1) (by omega) (Or.inl (by omega))
  refine zg_aload_n di_0_22 rfl (j := 0) rfl ?_
  refine zg_bipush di_0_23 (v := 12) (by decide) ?_
  refine zg_newa di_0_25 xarr (by decide) (N := 12) (by decide) (by decide) (n := n + 2) (zln hn) (hF3.up (by omega)) (by omega) (by simp [zok]; try omega) (by simp [zok]; try omega) ⟨by decide, by decide⟩ (List.append_assoc _ _ _) (c2 := 2) (s2 := 24) rfl rfl ?_
  refine zg_putR (ci := 0) (k := 3) di_0_27 ⟨_, zcl_0, by decide, zw_168, rfl, rfl⟩ rfl (zat (i := 0) hn rfl) rfl ?_
  have hF4 := (hF3.up (m' := n + 3) (by omega)).rn (i := n) (k := 3) (j := n + 2) (by omega) (Or.inl (by omega))
  refine zg_aload_n di_0_30 rfl (j := 0) rfl ?_
  refine zg_iconst di_0_31 (v := 0) (by decide) ?_
  refine zg_putI (ci := 0) (k := 4) di_0_32 ⟨_, zcl_0, by decide, zw_170, rfl⟩ (zat (i := 0) hn rfl) rfl (by exact zSt_int _) ?_
  have hF5 := hF4.zu (i := n) (k := 4) (x := 0) (by omega)
  refine zg_aload_n di_0_35 rfl (j := 0) rfl ?_
  refine zg_bipush di_0_36 (v := 16) (by decide) ?_
  refine zg_newa di_0_38 xarr (by decide) (N := 16) (by decide) (by decide) (n := n + 3) (zln hn) (hF5.up (by omega)) (by omega) (by simp [zok]; try omega) (by simp [zok]; try omega) ⟨by decide, by decide⟩ (List.append_assoc _ _ _) (c2 := 3) (s2 := 40) rfl rfl ?_
  refine zg_putR (ci := 0) (k := 5) di_0_40 ⟨_, zcl_0, by decide, zw_172, rfl, rfl⟩ rfl (zat (i := 0) hn rfl) rfl ?_
  have hF6 := (hF5.up (m' := n + 4) (by omega)).rn (i := n) (k := 5) (j := n + 3) (by omega) (Or.inl (by omega))
  refine zg_aload_n di_0_43 rfl (j := 0) rfl ?_
  refine zg_bipush di_0_44 (v := 10) (by decide) ?_
  refine zg_newa di_0_46 xarr (by decide) (N := 10) (by decide) (by decide) (n := n + 4) (zln hn) (hF6.up (by omega)) (by omega) (by simp [zok]; try omega) (by simp [zok]; try omega) ⟨by decide, by decide⟩ (List.append_assoc _ _ _) (c2 := 4) (s2 := 50) rfl rfl ?_
  refine zg_putR (ci := 0) (k := 6) di_0_48 ⟨_, zcl_0, by decide, zw_174, rfl, rfl⟩ rfl (zat (i := 0) hn rfl) rfl ?_
  have hF7 := (hF6.up (m' := n + 5) (by omega)).rn (i := n) (k := 6) (j := n + 4) (by omega) (Or.inl (by omega))
  refine zg_aload_n di_0_51 rfl (j := 0) rfl ?_
  refine zg_bipush di_0_52 (v := 10) (by decide) ?_
  refine zg_newa di_0_54 xarr (by decide) (N := 10) (by decide) (by decide) (n := n + 5) (zln hn) (hF7.up (by omega)) (by omega) (by simp [zok]; try omega) (by simp [zok]; try omega) ⟨by decide, by decide⟩ (List.append_assoc _ _ _) (c2 := 5) (s2 := 60) rfl rfl ?_
  refine zg_putR (ci := 0) (k := 7) di_0_56 ⟨_, zcl_0, by decide, zw_175, rfl, rfl⟩ rfl (zat (i := 0) hn rfl) rfl ?_
  have hF8 := (hF7.up (m' := n + 6) (by omega)).rn (i := n) (k := 7) (j := n + 5) (by omega) (Or.inl (by omega))
  exact zg_vret di_0_59 rfl
def yi_5 : zMt := (⟨"TurnedLand$Text", "<init>", "()V"⟩, prog_7_method_1_code, 1, none)
theorem cai_5 : zCallee yi_5 0 := ⟨xw_197, zw_8, by decide +kernel, by decide +kernel, by decide +kernel⟩
theorem di_5_0 : zD prog_7_method_1_code 0 (.aload_n 0) 1 1 := ⟨by decide +kernel, rfl⟩
theorem di_5_1 : zD prog_7_method_1_code 1 (.invokespecial 3) 3 4 := ⟨by decide +kernel, rfl⟩
theorem di_5_4 : zD prog_7_method_1_code 4 (.aload_n 0) 1 5 := ⟨by decide +kernel, rfl⟩
theorem di_5_5 : zD prog_7_method_1_code 5 (.iconst 0) 1 6 := ⟨by decide +kernel, rfl⟩
theorem di_5_6 : zD prog_7_method_1_code 6 (.putfield 9) 3 9 := ⟨by decide +kernel, rfl⟩
theorem di_5_9 : zD prog_7_method_1_code 9 (.aload_n 0) 1 10 := ⟨by decide +kernel, rfl⟩
theorem di_5_10 : zD prog_7_method_1_code 10 (.iconst 0) 1 11 := ⟨by decide +kernel, rfl⟩
theorem di_5_11 : zD prog_7_method_1_code 11 (.putfield 15) 3 14 := ⟨by decide +kernel, rfl⟩
theorem di_5_14 : zD prog_7_method_1_code 14 (.aload_n 0) 1 15 := ⟨by decide +kernel, rfl⟩
theorem di_5_15 : zD prog_7_method_1_code 15 (.bipush 60) 2 17 := ⟨by decide +kernel, rfl⟩
theorem di_5_17 : zD prog_7_method_1_code 17 (.newarray .int) 2 19 := ⟨by decide +kernel, rfl⟩
theorem di_5_19 : zD prog_7_method_1_code 19 (.putfield 19) 3 22 := ⟨by decide +kernel, rfl⟩
theorem di_5_22 : zD prog_7_method_1_code 22 (.aload_n 0) 1 23 := ⟨by decide +kernel, rfl⟩
theorem di_5_23 : zD prog_7_method_1_code 23 (.bipush 60) 2 25 := ⟨by decide +kernel, rfl⟩
theorem di_5_25 : zD prog_7_method_1_code 25 (.newarray .int) 2 27 := ⟨by decide +kernel, rfl⟩
theorem di_5_27 : zD prog_7_method_1_code 27 (.putfield 23) 3 30 := ⟨by decide +kernel, rfl⟩
theorem di_5_30 : zD prog_7_method_1_code 30 (.aload_n 0) 1 31 := ⟨by decide +kernel, rfl⟩
theorem di_5_31 : zD prog_7_method_1_code 31 (.bipush 60) 2 33 := ⟨by decide +kernel, rfl⟩
theorem di_5_33 : zD prog_7_method_1_code 33 (.newarray .int) 2 35 := ⟨by decide +kernel, rfl⟩
theorem di_5_35 : zD prog_7_method_1_code 35 (.putfield 26) 3 38 := ⟨by decide +kernel, rfl⟩
theorem di_5_38 : zD prog_7_method_1_code 38 (.aload_n 0) 1 39 := ⟨by decide +kernel, rfl⟩
theorem di_5_39 : zD prog_7_method_1_code 39 (.iconst 4) 1 40 := ⟨by decide +kernel, rfl⟩
theorem di_5_40 : zD prog_7_method_1_code 40 (.newarray .int) 2 42 := ⟨by decide +kernel, rfl⟩
theorem di_5_42 : zD prog_7_method_1_code 42 (.putfield 29) 3 45 := ⟨by decide +kernel, rfl⟩
theorem di_5_45 : zD prog_7_method_1_code 45 (.return_) 1 46 := ⟨by decide +kernel, rfl⟩
def zL_5 : List zK := (((([.inl 5] ++ [.inr (0, 60)]) ++ [.inr (0, 60)]) ++ [.inr (0, 60)]) ++ [.inr (0, 4)])
set_option maxRecDepth 20000 in
theorem zLl_5 : zL_5.length = 5 := by decide
def zR_5 (n : Nat) (R : zRf) : zRf := (zrn (zrn (zrn (zrn R n 2 (some (n + 1))) n 3 (some (n + 2))) n 4 (some (n + 3))) n 5 (some (n + 4)))
def zI_5 (n : Nat) (I : zI) : zI := (zup (zup I n 0 0) n 1 0)
theorem ci_5_F {R : zRf} {I : zI} {n : Nat} (hn2 : n + 5 < 100000) (hF : zFr (n + 1) R I) : zFr (n + 5) (zR_5 n R) (zI_5 n I) := by
  have hF1 := hF.zu (i := n) (k := 0) (x := 0) (by omega)
  have hF2 := hF1.zu (i := n) (k := 1) (x := 0) (by omega)
  have hF3 := (hF2.up (m' := n + 2) (by omega)).rn (i := n) (k := 2) (j := n + 1) (by omega) (Or.inl (by omega))
  have hF4 := (hF3.up (m' := n + 3) (by omega)).rn (i := n) (k := 3) (j := n + 2) (by omega) (Or.inl (by omega))
  have hF5 := (hF4.up (m' := n + 4) (by omega)).rn (i := n) (k := 4) (j := n + 3) (by omega) (Or.inl (by omega))
  have hF6 := (hF5.up (m' := n + 5) (by omega)).rn (i := n) (k := 5) (j := n + 4) (by omega) (Or.inl (by omega))
  exact hF6
set_option maxRecDepth 20000 in
theorem ci_5 {sh : List zK} {R : zRf} {I : zI} {n : Nat} (hn : sh.length = n) (hn2 : n + 5 < 100000) (hF : zFr (n + 1) R I) : zM 1 yi_5 [.inr (.inr (some n))] (sh ++ [.inl 5], R, I) none (sh ++ zL_5, zR_5 n R, zI_5 n I) 4 184 := by
  refine zM_of (by decide) (Nat.le_of_ble_eq_true rfl) (lv := [(0, .inr (.inr (some n)))]) rfl ?_
  refine zg_aload_n di_5_0 rfl (j := 0) rfl ?_
  refine zg_obj di_5_1 xw_198 xobj (by decide) (by decide) ?_
  refine zg_aload_n di_5_4 rfl (j := 0) rfl ?_
  refine zg_iconst di_5_5 (v := 0) (by decide) ?_
  refine zg_putI (ci := 5) (k := 0) di_5_6 ⟨_, zcl_5, by decide, zw_199, rfl⟩ (zat (i := 0) hn rfl) rfl (by first | exact zSt_b0 | exact zSt_b1) ?_
  have hF1 := hF.zu (i := n) (k := 0) (x := 0) (by omega)
  refine zg_aload_n di_5_9 rfl (j := 0) rfl ?_
  refine zg_iconst di_5_10 (v := 0) (by decide) ?_
  refine zg_putI (ci := 5) (k := 1) di_5_11 ⟨_, zcl_5, by decide, zw_202, rfl⟩ (zat (i := 0) hn rfl) rfl (by exact zSt_int _) ?_
  have hF2 := hF1.zu (i := n) (k := 1) (x := 0) (by omega)
  refine zg_aload_n di_5_14 rfl (j := 0) rfl ?_
  refine zg_bipush di_5_15 (v := 60) (by decide) ?_
  refine zg_newa di_5_17 xarr (by decide) (N := 60) (by decide) (by decide) (n := n + 1) (zln hn) (hF2.up (by omega)) (by omega) (by simp [zok]; try omega) (by simp [zok]; try omega) ⟨by decide, by decide⟩ (List.append_assoc _ _ _) (c2 := 1) (s2 := 60) rfl rfl ?_
  refine zg_putR (ci := 5) (k := 2) di_5_19 ⟨_, zcl_5, by decide, zw_203, rfl, rfl⟩ rfl (zat (i := 0) hn rfl) rfl ?_
  have hF3 := (hF2.up (m' := n + 2) (by omega)).rn (i := n) (k := 2) (j := n + 1) (by omega) (Or.inl (by omega))
  refine zg_aload_n di_5_22 rfl (j := 0) rfl ?_
  refine zg_bipush di_5_23 (v := 60) (by decide) ?_
  refine zg_newa di_5_25 xarr (by decide) (N := 60) (by decide) (by decide) (n := n + 2) (zln hn) (hF3.up (by omega)) (by omega) (by simp [zok]; try omega) (by simp [zok]; try omega) ⟨by decide, by decide⟩ (List.append_assoc _ _ _) (c2 := 2) (s2 := 120) rfl rfl ?_
  refine zg_putR (ci := 5) (k := 3) di_5_27 ⟨_, zcl_5, by decide, zw_204, rfl, rfl⟩ rfl (zat (i := 0) hn rfl) rfl ?_
  have hF4 := (hF3.up (m' := n + 3) (by omega)).rn (i := n) (k := 3) (j := n + 2) (by omega) (Or.inl (by omega))
  refine zg_aload_n di_5_30 rfl (j := 0) rfl ?_
  refine zg_bipush di_5_31 (v := 60) (by decide) ?_
  refine zg_newa di_5_33 xarr (by decide) (N := 60) (by decide) (by decide) (n := n + 3) (zln hn) (hF4.up (by omega)) (by omega) (by simp [zok]; try omega) (by simp [zok]; try omega) ⟨by decide, by decide⟩ (List.append_assoc _ _ _) (c2 := 3) (s2 := 180) rfl rfl ?_
  refine zg_putR (ci := 5) (k := 4) di_5_35 ⟨_, zcl_5, by decide, zw_205, rfl, rfl⟩ rfl (zat (i := 0) hn rfl) rfl ?_
  have hF5 := (hF4.up (m' := n + 4) (by omega)).rn (i := n) (k := 4) (j := n + 3) (by omega) (Or.inl (by omega))
  refine zg_aload_n di_5_38 rfl (j := 0) rfl ?_
  refine zg_iconst di_5_39 (v := 4) (by decide) ?_
  refine zg_newa di_5_40 xarr (by decide) (N := 4) (by decide) (by decide) (n := n + 4) (zln hn) (hF5.up (by omega)) (by omega) (by simp [zok]; try omega) (by simp [zok]; try omega) ⟨by decide, by decide⟩ (List.append_assoc _ _ _) (c2 := 4) (s2 := 184) rfl rfl ?_
  refine zg_putR (ci := 5) (k := 5) di_5_42 ⟨_, zcl_5, by decide, zw_206, rfl, rfl⟩ rfl (zat (i := 0) hn rfl) rfl ?_
  have hF6 := (hF5.up (m' := n + 5) (by omega)).rn (i := n) (k := 5) (j := n + 4) (by omega) (Or.inl (by omega))
  exact zg_vret di_5_45 rfl
def yi_10 : zMt := (⟨"TurnedLand$World", "<init>", "()V"⟩, prog_12_method_1_code, 1, none)
theorem cai_10 : zCallee yi_10 0 := ⟨xw_34, zw_2, by decide +kernel, by decide +kernel, by decide +kernel⟩
theorem di_10_0 : zD prog_12_method_1_code 0 (.aload_n 0) 1 1 := ⟨by decide +kernel, rfl⟩
theorem di_10_1 : zD prog_12_method_1_code 1 (.invokespecial 3) 3 4 := ⟨by decide +kernel, rfl⟩
theorem di_10_4 : zD prog_12_method_1_code 4 (.aload_n 0) 1 5 := ⟨by decide +kernel, rfl⟩
theorem di_10_5 : zD prog_12_method_1_code 5 (.new 9) 3 8 := ⟨by decide +kernel, rfl⟩
theorem di_10_8 : zD prog_12_method_1_code 8 (.dup) 1 9 := ⟨by decide +kernel, rfl⟩
theorem di_10_9 : zD prog_12_method_1_code 9 (.invokespecial 11) 3 12 := ⟨by decide +kernel, rfl⟩
theorem di_10_12 : zD prog_12_method_1_code 12 (.putfield 12) 3 15 := ⟨by decide +kernel, rfl⟩
theorem di_10_15 : zD prog_12_method_1_code 15 (.aload_n 0) 1 16 := ⟨by decide +kernel, rfl⟩
theorem di_10_16 : zD prog_12_method_1_code 16 (.new 18) 3 19 := ⟨by decide +kernel, rfl⟩
theorem di_10_19 : zD prog_12_method_1_code 19 (.dup) 1 20 := ⟨by decide +kernel, rfl⟩
theorem di_10_20 : zD prog_12_method_1_code 20 (.invokespecial 20) 3 23 := ⟨by decide +kernel, rfl⟩
theorem di_10_23 : zD prog_12_method_1_code 23 (.putfield 21) 3 26 := ⟨by decide +kernel, rfl⟩
theorem di_10_26 : zD prog_12_method_1_code 26 (.aload_n 0) 1 27 := ⟨by decide +kernel, rfl⟩
theorem di_10_27 : zD prog_12_method_1_code 27 (.new 25) 3 30 := ⟨by decide +kernel, rfl⟩
theorem di_10_30 : zD prog_12_method_1_code 30 (.dup) 1 31 := ⟨by decide +kernel, rfl⟩
theorem di_10_31 : zD prog_12_method_1_code 31 (.invokespecial 27) 3 34 := ⟨by decide +kernel, rfl⟩
theorem di_10_34 : zD prog_12_method_1_code 34 (.putfield 28) 3 37 := ⟨by decide +kernel, rfl⟩
theorem di_10_37 : zD prog_12_method_1_code 37 (.aload_n 0) 1 38 := ⟨by decide +kernel, rfl⟩
theorem di_10_38 : zD prog_12_method_1_code 38 (.new 32) 3 41 := ⟨by decide +kernel, rfl⟩
theorem di_10_41 : zD prog_12_method_1_code 41 (.dup) 1 42 := ⟨by decide +kernel, rfl⟩
theorem di_10_42 : zD prog_12_method_1_code 42 (.invokespecial 34) 3 45 := ⟨by decide +kernel, rfl⟩
theorem di_10_45 : zD prog_12_method_1_code 45 (.putfield 35) 3 48 := ⟨by decide +kernel, rfl⟩
theorem di_10_48 : zD prog_12_method_1_code 48 (.aload_n 0) 1 49 := ⟨by decide +kernel, rfl⟩
theorem di_10_49 : zD prog_12_method_1_code 49 (.new 39) 3 52 := ⟨by decide +kernel, rfl⟩
theorem di_10_52 : zD prog_12_method_1_code 52 (.dup) 1 53 := ⟨by decide +kernel, rfl⟩
theorem di_10_53 : zD prog_12_method_1_code 53 (.invokespecial 41) 3 56 := ⟨by decide +kernel, rfl⟩
theorem di_10_56 : zD prog_12_method_1_code 56 (.putfield 42) 3 59 := ⟨by decide +kernel, rfl⟩
theorem di_10_59 : zD prog_12_method_1_code 59 (.aload_n 0) 1 60 := ⟨by decide +kernel, rfl⟩
theorem di_10_60 : zD prog_12_method_1_code 60 (.new 39) 3 63 := ⟨by decide +kernel, rfl⟩
theorem di_10_63 : zD prog_12_method_1_code 63 (.dup) 1 64 := ⟨by decide +kernel, rfl⟩
theorem di_10_64 : zD prog_12_method_1_code 64 (.invokespecial 41) 3 67 := ⟨by decide +kernel, rfl⟩
theorem di_10_67 : zD prog_12_method_1_code 67 (.putfield 46) 3 70 := ⟨by decide +kernel, rfl⟩
theorem di_10_70 : zD prog_12_method_1_code 70 (.aload_n 0) 1 71 := ⟨by decide +kernel, rfl⟩
theorem di_10_71 : zD prog_12_method_1_code 71 (.bipush 60) 2 73 := ⟨by decide +kernel, rfl⟩
theorem di_10_73 : zD prog_12_method_1_code 73 (.newarray .int) 2 75 := ⟨by decide +kernel, rfl⟩
theorem di_10_75 : zD prog_12_method_1_code 75 (.putfield 49) 3 78 := ⟨by decide +kernel, rfl⟩
theorem di_10_78 : zD prog_12_method_1_code 78 (.aload_n 0) 1 79 := ⟨by decide +kernel, rfl⟩
theorem di_10_79 : zD prog_12_method_1_code 79 (.iconst 0) 1 80 := ⟨by decide +kernel, rfl⟩
theorem di_10_80 : zD prog_12_method_1_code 80 (.putfield 53) 3 83 := ⟨by decide +kernel, rfl⟩
theorem di_10_83 : zD prog_12_method_1_code 83 (.aload_n 0) 1 84 := ⟨by decide +kernel, rfl⟩
theorem di_10_84 : zD prog_12_method_1_code 84 (.bipush 24) 2 86 := ⟨by decide +kernel, rfl⟩
theorem di_10_86 : zD prog_12_method_1_code 86 (.newarray .int) 2 88 := ⟨by decide +kernel, rfl⟩
theorem di_10_88 : zD prog_12_method_1_code 88 (.putfield 57) 3 91 := ⟨by decide +kernel, rfl⟩
theorem di_10_91 : zD prog_12_method_1_code 91 (.aload_n 0) 1 92 := ⟨by decide +kernel, rfl⟩
theorem di_10_92 : zD prog_12_method_1_code 92 (.iconst 0) 1 93 := ⟨by decide +kernel, rfl⟩
theorem di_10_93 : zD prog_12_method_1_code 93 (.putfield 60) 3 96 := ⟨by decide +kernel, rfl⟩
theorem di_10_96 : zD prog_12_method_1_code 96 (.aload_n 0) 1 97 := ⟨by decide +kernel, rfl⟩
theorem di_10_97 : zD prog_12_method_1_code 97 (.iconst 1) 1 98 := ⟨by decide +kernel, rfl⟩
theorem di_10_98 : zD prog_12_method_1_code 98 (.putfield 63) 3 101 := ⟨by decide +kernel, rfl⟩
theorem di_10_101 : zD prog_12_method_1_code 101 (.return_) 1 102 := ⟨by decide +kernel, rfl⟩
def zL_10 : List zK := (((((((([.inl 10] ++ zL_2) ++ zL_8) ++ zL_1) ++ zL_0) ++ zL_5) ++ zL_5) ++ [.inr (0, 60)]) ++ [.inr (0, 24)])
set_option maxRecDepth 20000 in
theorem zLl_10 : zL_10.length = 46 := by decide
def zR_10 (n : Nat) (R : zRf) : zRf := (zrn (zrn (zrn (zR_5 (n + 39) (zrn (zR_5 (n + 34) (zrn (zR_0 (n + 28) (zrn (zR_1 (n + 22) (zrn (zR_8 (n + 6) (zrn (zR_2 (n + 1) R) n 0 (some (n + 1)))) n 1 (some (n + 6)))) n 2 (some (n + 22)))) n 3 (some (n + 28)))) n 4 (some (n + 34)))) n 5 (some (n + 39))) n 6 (some (n + 44))) n 8 (some (n + 45)))
def zI_10 (n : Nat) (I : zI) : zI := (zup (zup (zup (zI_5 (n + 39) (zI_5 (n + 34) (zI_0 (n + 28) (zI_1 (n + 22) (zI_8 (n + 6) (zI_2 (n + 1) I)))))) n 7 0) n 9 0) n 10 1)
theorem ci_10_F {R : zRf} {I : zI} {n : Nat} (hn2 : n + 46 < 100000) (hF : zFr (n + 1) R I) : zFr (n + 46) (zR_10 n R) (zI_10 n I) := by
  have hF1 := ci_2_F (R := R) (I := I) (n := n + 1) (by omega) (hF.up (m' := n + 2) (by omega))
  have hF2 := (hF1.up (m' := n + 6) (by omega)).rn (i := n) (k := 0) (j := n + 1) (by omega) (Or.inl (by omega))
  have hF3 := ci_8_F (R := (zrn (zR_2 (n + 1) R) n 0 (some (n + 1)))) (I := (zI_2 (n + 1) I)) (n := n + 6) (by omega) (hF2.up (m' := n + 7) (by omega))
  have hF4 := (hF3.up (m' := n + 22) (by omega)).rn (i := n) (k := 1) (j := n + 6) (by omega) (Or.inl (by omega))
  have hF5 := ci_1_F (R := (zrn (zR_8 (n + 6) (zrn (zR_2 (n + 1) R) n 0 (some (n + 1)))) n 1 (some (n + 6)))) (I := (zI_8 (n + 6) (zI_2 (n + 1) I))) (n := n + 22) (by omega) (hF4.up (m' := n + 23) (by omega))
  have hF6 := (hF5.up (m' := n + 28) (by omega)).rn (i := n) (k := 2) (j := n + 22) (by omega) (Or.inl (by omega))
  have hF7 := ci_0_F (R := (zrn (zR_1 (n + 22) (zrn (zR_8 (n + 6) (zrn (zR_2 (n + 1) R) n 0 (some (n + 1)))) n 1 (some (n + 6)))) n 2 (some (n + 22)))) (I := (zI_1 (n + 22) (zI_8 (n + 6) (zI_2 (n + 1) I)))) (n := n + 28) (by omega) (hF6.up (m' := n + 29) (by omega))
  have hF8 := (hF7.up (m' := n + 34) (by omega)).rn (i := n) (k := 3) (j := n + 28) (by omega) (Or.inl (by omega))
  have hF9 := ci_5_F (R := (zrn (zR_0 (n + 28) (zrn (zR_1 (n + 22) (zrn (zR_8 (n + 6) (zrn (zR_2 (n + 1) R) n 0 (some (n + 1)))) n 1 (some (n + 6)))) n 2 (some (n + 22)))) n 3 (some (n + 28)))) (I := (zI_0 (n + 28) (zI_1 (n + 22) (zI_8 (n + 6) (zI_2 (n + 1) I))))) (n := n + 34) (by omega) (hF8.up (m' := n + 35) (by omega))
  have hF10 := (hF9.up (m' := n + 39) (by omega)).rn (i := n) (k := 4) (j := n + 34) (by omega) (Or.inl (by omega))
  have hF11 := ci_5_F (R := (zrn (zR_5 (n + 34) (zrn (zR_0 (n + 28) (zrn (zR_1 (n + 22) (zrn (zR_8 (n + 6) (zrn (zR_2 (n + 1) R) n 0 (some (n + 1)))) n 1 (some (n + 6)))) n 2 (some (n + 22)))) n 3 (some (n + 28)))) n 4 (some (n + 34)))) (I := (zI_5 (n + 34) (zI_0 (n + 28) (zI_1 (n + 22) (zI_8 (n + 6) (zI_2 (n + 1) I)))))) (n := n + 39) (by omega) (hF10.up (m' := n + 40) (by omega))
  have hF12 := (hF11.up (m' := n + 44) (by omega)).rn (i := n) (k := 5) (j := n + 39) (by omega) (Or.inl (by omega))
  have hF13 := (hF12.up (m' := n + 45) (by omega)).rn (i := n) (k := 6) (j := n + 44) (by omega) (Or.inl (by omega))
  have hF14 := hF13.zu (i := n) (k := 7) (x := 0) (by omega)
  have hF15 := (hF14.up (m' := n + 46) (by omega)).rn (i := n) (k := 8) (j := n + 45) (by omega) (Or.inl (by omega))
  have hF16 := hF15.zu (i := n) (k := 9) (x := 0) (by omega)
  have hF17 := hF16.zu (i := n) (k := 10) (x := 1) (by omega)
  exact hF17
set_option maxRecDepth 20000 in
theorem ci_10 {sh : List zK} {R : zRf} {I : zI} {n : Nat} (hn : sh.length = n) (hn2 : n + 46 < 100000) (hF : zFr (n + 1) R I) : zM 3 yi_10 [.inr (.inr (some n))] (sh ++ [.inl 10], R, I) none (sh ++ zL_10, zR_10 n R, zI_10 n I) 45 799 := by
  refine zM_of (by decide) (Nat.le_of_ble_eq_true rfl) (lv := [(0, .inr (.inr (some n)))]) rfl ?_
  refine zg_aload_n di_10_0 rfl (j := 0) rfl ?_
  refine zg_obj di_10_1 xw_35 xobj (by decide) (by decide) ?_
  refine zg_aload_n di_10_4 rfl (j := 0) rfl ?_
  refine zg_new di_10_5 zcl_2 xw_36 ⟨xw_37, zw_3⟩ (n := n + 1) (zln hn) (hF.up (by omega)) (by omega) (by simp [zok]; try omega) (by simp [zok]; try omega) ⟨by decide, by decide⟩ rfl (c2 := 1) (s2 := 6) rfl rfl ?_
  refine zg_dup di_10_8 rfl ?_
  have hM1 := ci_2 (sh := sh ++ [.inl 10]) (R := R) (I := I) (n := n + 1) (zln hn) (by omega) (hF.up (by omega))
  rw [List.append_assoc sh _ zL_2] at hM1
  refine zg_initL di_10_9 cai_2 ⟨rfl, rfl⟩ xw_38 xw_39 hM1 ⟨by decide, by decide⟩ (Nat.le_of_ble_eq_true rfl) ⟨by decide, by decide⟩ ?_ ?_ (c2 := 5) (s2 := 94) rfl rfl ?_
  · rw [zln2 hn]; simp [zok, zLl_2, zLl_8, zLl_1, zLl_0, zLl_5]; try omega
  · rw [zln2 hn]; simp [zok, zLl_2, zLl_8, zLl_1, zLl_0, zLl_5]; try omega
  have hF1 := ci_2_F (R := R) (I := I) (n := n + 1) (by omega) (hF.up (m' := n + 2) (by omega))
  refine zg_putR (ci := 10) (k := 0) di_10_12 ⟨_, zcl_10, by decide, zw_220, rfl, rfl⟩ rfl (zat (i := 0) hn rfl) rfl ?_
  have hF2 := (hF1.up (m' := n + 6) (by omega)).rn (i := n) (k := 0) (j := n + 1) (by omega) (Or.inl (by omega))
  refine zg_aload_n di_10_15 rfl (j := 0) rfl ?_
  refine zg_new di_10_16 zcl_8 xw_79 ⟨xw_80, zw_5⟩ (n := n + 6) (zln hn) (hF2.up (by omega)) (by omega) (by simp [zok]; try omega) (by simp [zok]; try omega) ⟨by decide, by decide⟩ rfl (c2 := 6) (s2 := 100) rfl rfl ?_
  refine zg_dup di_10_19 rfl ?_
  have hM3 := ci_8 (sh := sh ++ ([.inl 10] ++ zL_2)) (R := (zrn (zR_2 (n + 1) R) n 0 (some (n + 1)))) (I := (zI_2 (n + 1) I)) (n := n + 6) (zln hn) (by omega) (hF2.up (by omega))
  rw [List.append_assoc sh _ zL_8] at hM3
  refine zg_initN di_10_20 cai_8 ⟨rfl, rfl⟩ (host := "TurnedLand") (by simp [zXn, yi_10, yi_8]) xw_82 hM3 ⟨by decide, by decide⟩ (Nat.le_of_ble_eq_true rfl) ⟨by decide, by decide⟩ ?_ ?_ (c2 := 21) (s2 := 230) rfl rfl ?_
  · rw [zln2 hn]; simp [zok, zLl_2, zLl_8, zLl_1, zLl_0, zLl_5]; try omega
  · rw [zln2 hn]; simp [zok, zLl_2, zLl_8, zLl_1, zLl_0, zLl_5]; try omega
  have hF3 := ci_8_F (R := (zrn (zR_2 (n + 1) R) n 0 (some (n + 1)))) (I := (zI_2 (n + 1) I)) (n := n + 6) (by omega) (hF2.up (m' := n + 7) (by omega))
  refine zg_putR (ci := 10) (k := 1) di_10_23 ⟨_, zcl_10, by decide, zw_225, rfl, rfl⟩ rfl (zat (i := 0) hn rfl) rfl ?_
  have hF4 := (hF3.up (m' := n + 22) (by omega)).rn (i := n) (k := 1) (j := n + 6) (by omega) (Or.inl (by omega))
  refine zg_aload_n di_10_26 rfl (j := 0) rfl ?_
  refine zg_new di_10_27 zcl_1 xw_117 ⟨xw_118, zw_6⟩ (n := n + 22) (zln hn) (hF4.up (by omega)) (by omega) (by simp [zok]; try omega) (by simp [zok]; try omega) ⟨by decide, by decide⟩ rfl (c2 := 22) (s2 := 237) rfl rfl ?_
  refine zg_dup di_10_30 rfl ?_
  have hM5 := ci_1 (sh := sh ++ (([.inl 10] ++ zL_2) ++ zL_8)) (R := (zrn (zR_8 (n + 6) (zrn (zR_2 (n + 1) R) n 0 (some (n + 1)))) n 1 (some (n + 6)))) (I := (zI_8 (n + 6) (zI_2 (n + 1) I))) (n := n + 22) (zln hn) (by omega) (hF4.up (by omega))
  rw [List.append_assoc sh _ zL_1] at hM5
  refine zg_initN di_10_31 cai_1 ⟨rfl, rfl⟩ (host := "TurnedLand") (by simp [zXn, yi_10, yi_1]) xw_120 hM5 ⟨by decide, by decide⟩ (Nat.le_of_ble_eq_true rfl) ⟨by decide, by decide⟩ ?_ ?_ (c2 := 27) (s2 := 267) rfl rfl ?_
  · rw [zln2 hn]; simp [zok, zLl_2, zLl_8, zLl_1, zLl_0, zLl_5]; try omega
  · rw [zln2 hn]; simp [zok, zLl_2, zLl_8, zLl_1, zLl_0, zLl_5]; try omega
  have hF5 := ci_1_F (R := (zrn (zR_8 (n + 6) (zrn (zR_2 (n + 1) R) n 0 (some (n + 1)))) n 1 (some (n + 6)))) (I := (zI_8 (n + 6) (zI_2 (n + 1) I))) (n := n + 22) (by omega) (hF4.up (m' := n + 23) (by omega))
  refine zg_putR (ci := 10) (k := 2) di_10_34 ⟨_, zcl_10, by decide, zw_229, rfl, rfl⟩ rfl (zat (i := 0) hn rfl) rfl ?_
  have hF6 := (hF5.up (m' := n + 28) (by omega)).rn (i := n) (k := 2) (j := n + 22) (by omega) (Or.inl (by omega))
  refine zg_aload_n di_10_37 rfl (j := 0) rfl ?_
  refine zg_new di_10_38 zcl_0 xw_156 ⟨xw_157, zw_7⟩ (n := n + 28) (zln hn) (hF6.up (by omega)) (by omega) (by simp [zok]; try omega) (by simp [zok]; try omega) ⟨by decide, by decide⟩ rfl (c2 := 28) (s2 := 275) rfl rfl ?_
  refine zg_dup di_10_41 rfl ?_
  have hM7 := ci_0 (sh := sh ++ ((([.inl 10] ++ zL_2) ++ zL_8) ++ zL_1)) (R := (zrn (zR_1 (n + 22) (zrn (zR_8 (n + 6) (zrn (zR_2 (n + 1) R) n 0 (some (n + 1)))) n 1 (some (n + 6)))) n 2 (some (n + 22)))) (I := (zI_1 (n + 22) (zI_8 (n + 6) (zI_2 (n + 1) I)))) (n := n + 28) (zln hn) (by omega) (hF6.up (by omega))
  rw [List.append_assoc sh _ zL_0] at hM7
  refine zg_initN di_10_42 cai_0 ⟨rfl, rfl⟩ (host := "TurnedLand") (by simp [zXn, yi_10, yi_0]) xw_159 hM7 ⟨by decide, by decide⟩ (Nat.le_of_ble_eq_true rfl) ⟨by decide, by decide⟩ ?_ ?_ (c2 := 33) (s2 := 335) rfl rfl ?_
  · rw [zln2 hn]; simp [zok, zLl_2, zLl_8, zLl_1, zLl_0, zLl_5]; try omega
  · rw [zln2 hn]; simp [zok, zLl_2, zLl_8, zLl_1, zLl_0, zLl_5]; try omega
  have hF7 := ci_0_F (R := (zrn (zR_1 (n + 22) (zrn (zR_8 (n + 6) (zrn (zR_2 (n + 1) R) n 0 (some (n + 1)))) n 1 (some (n + 6)))) n 2 (some (n + 22)))) (I := (zI_1 (n + 22) (zI_8 (n + 6) (zI_2 (n + 1) I)))) (n := n + 28) (by omega) (hF6.up (m' := n + 29) (by omega))
  refine zg_putR (ci := 10) (k := 3) di_10_45 ⟨_, zcl_10, by decide, zw_231, rfl, rfl⟩ rfl (zat (i := 0) hn rfl) rfl ?_
  have hF8 := (hF7.up (m' := n + 34) (by omega)).rn (i := n) (k := 3) (j := n + 28) (by omega) (Or.inl (by omega))
  refine zg_aload_n di_10_48 rfl (j := 0) rfl ?_
  refine zg_new di_10_49 zcl_5 xw_193 ⟨xw_194, zw_8⟩ (n := n + 34) (zln hn) (hF8.up (by omega)) (by omega) (by simp [zok]; try omega) (by simp [zok]; try omega) ⟨by decide, by decide⟩ rfl (c2 := 34) (s2 := 341) rfl rfl ?_
  refine zg_dup di_10_52 rfl ?_
  have hM9 := ci_5 (sh := sh ++ (((([.inl 10] ++ zL_2) ++ zL_8) ++ zL_1) ++ zL_0)) (R := (zrn (zR_0 (n + 28) (zrn (zR_1 (n + 22) (zrn (zR_8 (n + 6) (zrn (zR_2 (n + 1) R) n 0 (some (n + 1)))) n 1 (some (n + 6)))) n 2 (some (n + 22)))) n 3 (some (n + 28)))) (I := (zI_0 (n + 28) (zI_1 (n + 22) (zI_8 (n + 6) (zI_2 (n + 1) I))))) (n := n + 34) (zln hn) (by omega) (hF8.up (by omega))
  rw [List.append_assoc sh _ zL_5] at hM9
  refine zg_initN di_10_53 cai_5 ⟨rfl, rfl⟩ (host := "TurnedLand") (by simp [zXn, yi_10, yi_5]) xw_196 hM9 ⟨by decide, by decide⟩ (Nat.le_of_ble_eq_true rfl) ⟨by decide, by decide⟩ ?_ ?_ (c2 := 38) (s2 := 525) rfl rfl ?_
  · rw [zln2 hn]; simp [zok, zLl_2, zLl_8, zLl_1, zLl_0, zLl_5]; try omega
  · rw [zln2 hn]; simp [zok, zLl_2, zLl_8, zLl_1, zLl_0, zLl_5]; try omega
  have hF9 := ci_5_F (R := (zrn (zR_0 (n + 28) (zrn (zR_1 (n + 22) (zrn (zR_8 (n + 6) (zrn (zR_2 (n + 1) R) n 0 (some (n + 1)))) n 1 (some (n + 6)))) n 2 (some (n + 22)))) n 3 (some (n + 28)))) (I := (zI_0 (n + 28) (zI_1 (n + 22) (zI_8 (n + 6) (zI_2 (n + 1) I))))) (n := n + 34) (by omega) (hF8.up (m' := n + 35) (by omega))
  refine zg_putR (ci := 10) (k := 4) di_10_56 ⟨_, zcl_10, by decide, zw_233, rfl, rfl⟩ rfl (zat (i := 0) hn rfl) rfl ?_
  have hF10 := (hF9.up (m' := n + 39) (by omega)).rn (i := n) (k := 4) (j := n + 34) (by omega) (Or.inl (by omega))
  refine zg_aload_n di_10_59 rfl (j := 0) rfl ?_
  refine zg_new di_10_60 zcl_5 xw_193 ⟨xw_194, zw_8⟩ (n := n + 39) (zln hn) (hF10.up (by omega)) (by omega) (by simp [zok]; try omega) (by simp [zok]; try omega) ⟨by decide, by decide⟩ rfl (c2 := 39) (s2 := 531) rfl rfl ?_
  refine zg_dup di_10_63 rfl ?_
  have hM11 := ci_5 (sh := sh ++ ((((([.inl 10] ++ zL_2) ++ zL_8) ++ zL_1) ++ zL_0) ++ zL_5)) (R := (zrn (zR_5 (n + 34) (zrn (zR_0 (n + 28) (zrn (zR_1 (n + 22) (zrn (zR_8 (n + 6) (zrn (zR_2 (n + 1) R) n 0 (some (n + 1)))) n 1 (some (n + 6)))) n 2 (some (n + 22)))) n 3 (some (n + 28)))) n 4 (some (n + 34)))) (I := (zI_5 (n + 34) (zI_0 (n + 28) (zI_1 (n + 22) (zI_8 (n + 6) (zI_2 (n + 1) I)))))) (n := n + 39) (zln hn) (by omega) (hF10.up (by omega))
  rw [List.append_assoc sh _ zL_5] at hM11
  refine zg_initN di_10_64 cai_5 ⟨rfl, rfl⟩ (host := "TurnedLand") (by simp [zXn, yi_10, yi_5]) xw_196 hM11 ⟨by decide, by decide⟩ (Nat.le_of_ble_eq_true rfl) ⟨by decide, by decide⟩ ?_ ?_ (c2 := 43) (s2 := 715) rfl rfl ?_
  · rw [zln2 hn]; simp [zok, zLl_2, zLl_8, zLl_1, zLl_0, zLl_5]; try omega
  · rw [zln2 hn]; simp [zok, zLl_2, zLl_8, zLl_1, zLl_0, zLl_5]; try omega
  have hF11 := ci_5_F (R := (zrn (zR_5 (n + 34) (zrn (zR_0 (n + 28) (zrn (zR_1 (n + 22) (zrn (zR_8 (n + 6) (zrn (zR_2 (n + 1) R) n 0 (some (n + 1)))) n 1 (some (n + 6)))) n 2 (some (n + 22)))) n 3 (some (n + 28)))) n 4 (some (n + 34)))) (I := (zI_5 (n + 34) (zI_0 (n + 28) (zI_1 (n + 22) (zI_8 (n + 6) (zI_2 (n + 1) I)))))) (n := n + 39) (by omega) (hF10.up (m' := n + 40) (by omega))
  refine zg_putR (ci := 10) (k := 5) di_10_67 ⟨_, zcl_10, by decide, zw_235, rfl, rfl⟩ rfl (zat (i := 0) hn rfl) rfl ?_
  have hF12 := (hF11.up (m' := n + 44) (by omega)).rn (i := n) (k := 5) (j := n + 39) (by omega) (Or.inl (by omega))
  refine zg_aload_n di_10_70 rfl (j := 0) rfl ?_
  refine zg_bipush di_10_71 (v := 60) (by decide) ?_
  refine zg_newa di_10_73 xarr (by decide) (N := 60) (by decide) (by decide) (n := n + 44) (zln hn) (hF12.up (by omega)) (by omega) (by simp [zok]; try omega) (by simp [zok]; try omega) ⟨by decide, by decide⟩ (List.append_assoc _ _ _) (c2 := 44) (s2 := 775) rfl rfl ?_
  refine zg_putR (ci := 10) (k := 6) di_10_75 ⟨_, zcl_10, by decide, zw_237, rfl, rfl⟩ rfl (zat (i := 0) hn rfl) rfl ?_
  have hF13 := (hF12.up (m' := n + 45) (by omega)).rn (i := n) (k := 6) (j := n + 44) (by omega) (Or.inl (by omega))
  refine zg_aload_n di_10_78 rfl (j := 0) rfl ?_
  refine zg_iconst di_10_79 (v := 0) (by decide) ?_
  refine zg_putI (ci := 10) (k := 7) di_10_80 ⟨_, zcl_10, by decide, zw_239, rfl⟩ (zat (i := 0) hn rfl) rfl (by exact zSt_int _) ?_
  have hF14 := hF13.zu (i := n) (k := 7) (x := 0) (by omega)
  refine zg_aload_n di_10_83 rfl (j := 0) rfl ?_
  refine zg_bipush di_10_84 (v := 24) (by decide) ?_
  refine zg_newa di_10_86 xarr (by decide) (N := 24) (by decide) (by decide) (n := n + 45) (zln hn) (hF14.up (by omega)) (by omega) (by simp [zok]; try omega) (by simp [zok]; try omega) ⟨by decide, by decide⟩ (List.append_assoc _ _ _) (c2 := 45) (s2 := 799) rfl rfl ?_
  refine zg_putR (ci := 10) (k := 8) di_10_88 ⟨_, zcl_10, by decide, zw_241, rfl, rfl⟩ rfl (zat (i := 0) hn rfl) rfl ?_
  have hF15 := (hF14.up (m' := n + 46) (by omega)).rn (i := n) (k := 8) (j := n + 45) (by omega) (Or.inl (by omega))
  refine zg_aload_n di_10_91 rfl (j := 0) rfl ?_
  refine zg_iconst di_10_92 (v := 0) (by decide) ?_
  refine zg_putI (ci := 10) (k := 9) di_10_93 ⟨_, zcl_10, by decide, zw_243, rfl⟩ (zat (i := 0) hn rfl) rfl (by exact zSt_int _) ?_
  have hF16 := hF15.zu (i := n) (k := 9) (x := 0) (by omega)
  refine zg_aload_n di_10_96 rfl (j := 0) rfl ?_
  refine zg_iconst di_10_97 (v := 1) (by decide) ?_
  refine zg_putI (ci := 10) (k := 10) di_10_98 ⟨_, zcl_10, by decide, zw_245, rfl⟩ (zat (i := 0) hn rfl) rfl (by exact zSt_int _) ?_
  have hF17 := hF16.zu (i := n) (k := 10) (x := 1) (by omega)
  exact zg_vret di_10_101 rfl
def yi_4 : zMt := (⟨"TurnedLand$Shape", "<init>", "()V"⟩, prog_6_method_1_code, 1, none)
theorem cai_4 : zCallee yi_4 0 := ⟨xw_275, zw_9, by decide +kernel, by decide +kernel, by decide +kernel⟩
theorem di_4_0 : zD prog_6_method_1_code 0 (.aload_n 0) 1 1 := ⟨by decide +kernel, rfl⟩
theorem di_4_1 : zD prog_6_method_1_code 1 (.invokespecial 3) 3 4 := ⟨by decide +kernel, rfl⟩
theorem di_4_4 : zD prog_6_method_1_code 4 (.aload_n 0) 1 5 := ⟨by decide +kernel, rfl⟩
theorem di_4_5 : zD prog_6_method_1_code 5 (.bipush 32) 2 7 := ⟨by decide +kernel, rfl⟩
theorem di_4_7 : zD prog_6_method_1_code 7 (.newarray .int) 2 9 := ⟨by decide +kernel, rfl⟩
theorem di_4_9 : zD prog_6_method_1_code 9 (.putfield 9) 3 12 := ⟨by decide +kernel, rfl⟩
theorem di_4_12 : zD prog_6_method_1_code 12 (.aload_n 0) 1 13 := ⟨by decide +kernel, rfl⟩
theorem di_4_13 : zD prog_6_method_1_code 13 (.bipush 8) 2 15 := ⟨by decide +kernel, rfl⟩
theorem di_4_15 : zD prog_6_method_1_code 15 (.newarray .int) 2 17 := ⟨by decide +kernel, rfl⟩
theorem di_4_17 : zD prog_6_method_1_code 17 (.putfield 15) 3 20 := ⟨by decide +kernel, rfl⟩
theorem di_4_20 : zD prog_6_method_1_code 20 (.return_) 1 21 := ⟨by decide +kernel, rfl⟩
def zL_4 : List zK := (([.inl 4] ++ [.inr (0, 32)]) ++ [.inr (0, 8)])
set_option maxRecDepth 20000 in
theorem zLl_4 : zL_4.length = 3 := by decide
def zR_4 (n : Nat) (R : zRf) : zRf := (zrn (zrn R n 0 (some (n + 1))) n 1 (some (n + 2)))
def zI_4 (n : Nat) (I : zI) : zI := I
theorem ci_4_F {R : zRf} {I : zI} {n : Nat} (hn2 : n + 3 < 100000) (hF : zFr (n + 1) R I) : zFr (n + 3) (zR_4 n R) (zI_4 n I) := by
  have hF1 := (hF.up (m' := n + 2) (by omega)).rn (i := n) (k := 0) (j := n + 1) (by omega) (Or.inl (by omega))
  have hF2 := (hF1.up (m' := n + 3) (by omega)).rn (i := n) (k := 1) (j := n + 2) (by omega) (Or.inl (by omega))
  exact hF2
set_option maxRecDepth 20000 in
theorem ci_4 {sh : List zK} {R : zRf} {I : zI} {n : Nat} (hn : sh.length = n) (hn2 : n + 3 < 100000) (hF : zFr (n + 1) R I) : zM 1 yi_4 [.inr (.inr (some n))] (sh ++ [.inl 4], R, I) none (sh ++ zL_4, zR_4 n R, zI_4 n I) 2 40 := by
  refine zM_of (by decide) (Nat.le_of_ble_eq_true rfl) (lv := [(0, .inr (.inr (some n)))]) rfl ?_
  refine zg_aload_n di_4_0 rfl (j := 0) rfl ?_
  refine zg_obj di_4_1 xw_276 xobj (by decide) (by decide) ?_
  refine zg_aload_n di_4_4 rfl (j := 0) rfl ?_
  refine zg_bipush di_4_5 (v := 32) (by decide) ?_
  refine zg_newa di_4_7 xarr (by decide) (N := 32) (by decide) (by decide) (n := n + 1) (zln hn) (hF.up (by omega)) (by omega) (by simp [zok]; try omega) (by simp [zok]; try omega) ⟨by decide, by decide⟩ (List.append_assoc _ _ _) (c2 := 1) (s2 := 32) rfl rfl ?_
  refine zg_putR (ci := 4) (k := 0) di_4_9 ⟨_, zcl_4, by decide, zw_277, rfl, rfl⟩ rfl (zat (i := 0) hn rfl) rfl ?_
  have hF1 := (hF.up (m' := n + 2) (by omega)).rn (i := n) (k := 0) (j := n + 1) (by omega) (Or.inl (by omega))
  refine zg_aload_n di_4_12 rfl (j := 0) rfl ?_
  refine zg_bipush di_4_13 (v := 8) (by decide) ?_
  refine zg_newa di_4_15 xarr (by decide) (N := 8) (by decide) (by decide) (n := n + 2) (zln hn) (hF1.up (by omega)) (by omega) (by simp [zok]; try omega) (by simp [zok]; try omega) ⟨by decide, by decide⟩ (List.append_assoc _ _ _) (c2 := 2) (s2 := 40) rfl rfl ?_
  refine zg_putR (ci := 4) (k := 1) di_4_17 ⟨_, zcl_4, by decide, zw_278, rfl, rfl⟩ rfl (zat (i := 0) hn rfl) rfl ?_
  have hF2 := (hF1.up (m' := n + 3) (by omega)).rn (i := n) (k := 1) (j := n + 2) (by omega) (Or.inl (by omega))
  exact zg_vret di_4_20 rfl
def yi_9 : zMt := (⟨"TurnedLand$Ways", "<init>", "()V"⟩, prog_11_method_1_code, 1, none)
theorem cai_9 : zCallee yi_9 0 := ⟨xw_288, zw_10, by decide +kernel, by decide +kernel, by decide +kernel⟩
theorem di_9_0 : zD prog_11_method_1_code 0 (.aload_n 0) 1 1 := ⟨by decide +kernel, rfl⟩
theorem di_9_1 : zD prog_11_method_1_code 1 (.invokespecial 3) 3 4 := ⟨by decide +kernel, rfl⟩
theorem di_9_4 : zD prog_11_method_1_code 4 (.aload_n 0) 1 5 := ⟨by decide +kernel, rfl⟩
theorem di_9_5 : zD prog_11_method_1_code 5 (.bipush 16) 2 7 := ⟨by decide +kernel, rfl⟩
theorem di_9_7 : zD prog_11_method_1_code 7 (.newarray .int) 2 9 := ⟨by decide +kernel, rfl⟩
theorem di_9_9 : zD prog_11_method_1_code 9 (.putfield 9) 3 12 := ⟨by decide +kernel, rfl⟩
theorem di_9_12 : zD prog_11_method_1_code 12 (.aload_n 0) 1 13 := ⟨by decide +kernel, rfl⟩
theorem di_9_13 : zD prog_11_method_1_code 13 (.bipush 16) 2 15 := ⟨by decide +kernel, rfl⟩
theorem di_9_15 : zD prog_11_method_1_code 15 (.newarray .int) 2 17 := ⟨by decide +kernel, rfl⟩
theorem di_9_17 : zD prog_11_method_1_code 17 (.putfield 15) 3 20 := ⟨by decide +kernel, rfl⟩
theorem di_9_20 : zD prog_11_method_1_code 20 (.aload_n 0) 1 21 := ⟨by decide +kernel, rfl⟩
theorem di_9_21 : zD prog_11_method_1_code 21 (.bipush 16) 2 23 := ⟨by decide +kernel, rfl⟩
theorem di_9_23 : zD prog_11_method_1_code 23 (.iconst 4) 1 24 := ⟨by decide +kernel, rfl⟩
theorem di_9_24 : zD prog_11_method_1_code 24 (.multianewarray 18 2) 4 28 := ⟨by decide +kernel, rfl⟩
theorem di_9_28 : zD prog_11_method_1_code 28 (.putfield 20) 3 31 := ⟨by decide +kernel, rfl⟩
theorem di_9_31 : zD prog_11_method_1_code 31 (.aload_n 0) 1 32 := ⟨by decide +kernel, rfl⟩
theorem di_9_32 : zD prog_11_method_1_code 32 (.bipush 16) 2 34 := ⟨by decide +kernel, rfl⟩
theorem di_9_34 : zD prog_11_method_1_code 34 (.iconst 4) 1 35 := ⟨by decide +kernel, rfl⟩
theorem di_9_35 : zD prog_11_method_1_code 35 (.multianewarray 18 2) 4 39 := ⟨by decide +kernel, rfl⟩
theorem di_9_39 : zD prog_11_method_1_code 39 (.putfield 23) 3 42 := ⟨by decide +kernel, rfl⟩
theorem di_9_42 : zD prog_11_method_1_code 42 (.aload_n 0) 1 43 := ⟨by decide +kernel, rfl⟩
theorem di_9_43 : zD prog_11_method_1_code 43 (.iconst 0) 1 44 := ⟨by decide +kernel, rfl⟩
theorem di_9_44 : zD prog_11_method_1_code 44 (.putfield 26) 3 47 := ⟨by decide +kernel, rfl⟩
theorem di_9_47 : zD prog_11_method_1_code 47 (.return_) 1 48 := ⟨by decide +kernel, rfl⟩
def zL_9 : List zK := (((([.inl 9] ++ [.inr (0, 16)]) ++ [.inr (0, 16)]) ++ .inr (1, 16) :: List.replicate 16 (.inr (0, 4))) ++ .inr (1, 16) :: List.replicate 16 (.inr (0, 4)))
set_option maxRecDepth 20000 in
theorem zLl_9 : zL_9.length = 37 := by decide
def zR_9 (n : Nat) (R : zRf) : zRf := (zrn (zrr (zrn (zrr (zrn (zrn R n 0 (some (n + 1))) n 1 (some (n + 2))) (n + 3) 16) n 2 (some (n + 3))) (n + 20) 16) n 3 (some (n + 20)))
def zI_9 (n : Nat) (I : zI) : zI := (zup I n 4 0)
theorem ci_9_F {R : zRf} {I : zI} {n : Nat} (hn2 : n + 37 < 100000) (hF : zFr (n + 1) R I) : zFr (n + 37) (zR_9 n R) (zI_9 n I) := by
  have hF1 := (hF.up (m' := n + 2) (by omega)).rn (i := n) (k := 0) (j := n + 1) (by omega) (Or.inl (by omega))
  have hF2 := (hF1.up (m' := n + 3) (by omega)).rn (i := n) (k := 1) (j := n + 2) (by omega) (Or.inl (by omega))
  have hF3 := (hF2.up (m' := n + 20) (by omega)).rr (i := n + 3) (N := 16) (by omega)
  have hF4 := (hF3.up (m' := n + 20) (by omega)).rn (i := n) (k := 2) (j := n + 3) (by omega) (Or.inl (by omega))
  have hF5 := (hF4.up (m' := n + 37) (by omega)).rr (i := n + 20) (N := 16) (by omega)
  have hF6 := (hF5.up (m' := n + 37) (by omega)).rn (i := n) (k := 3) (j := n + 20) (by omega) (Or.inl (by omega))
  have hF7 := hF6.zu (i := n) (k := 4) (x := 0) (by omega)
  exact hF7
set_option maxRecDepth 20000 in
theorem ci_9 {sh : List zK} {R : zRf} {I : zI} {n : Nat} (hn : sh.length = n) (hn2 : n + 37 < 100000) (hF : zFr (n + 1) R I) : zM 1 yi_9 [.inr (.inr (some n))] (sh ++ [.inl 9], R, I) none (sh ++ zL_9, zR_9 n R, zI_9 n I) 36 192 := by
  refine zM_of (by decide) (Nat.le_of_ble_eq_true rfl) (lv := [(0, .inr (.inr (some n)))]) rfl ?_
  refine zg_aload_n di_9_0 rfl (j := 0) rfl ?_
  refine zg_obj di_9_1 xw_289 xobj (by decide) (by decide) ?_
  refine zg_aload_n di_9_4 rfl (j := 0) rfl ?_
  refine zg_bipush di_9_5 (v := 16) (by decide) ?_
  refine zg_newa di_9_7 xarr (by decide) (N := 16) (by decide) (by decide) (n := n + 1) (zln hn) (hF.up (by omega)) (by omega) (by simp [zok]; try omega) (by simp [zok]; try omega) ⟨by decide, by decide⟩ (List.append_assoc _ _ _) (c2 := 1) (s2 := 16) rfl rfl ?_
  refine zg_putR (ci := 9) (k := 0) di_9_9 ⟨_, zcl_9, by decide, zw_291, rfl, rfl⟩ rfl (zat (i := 0) hn rfl) rfl ?_
  have hF1 := (hF.up (m' := n + 2) (by omega)).rn (i := n) (k := 0) (j := n + 1) (by omega) (Or.inl (by omega))
  refine zg_aload_n di_9_12 rfl (j := 0) rfl ?_
  refine zg_bipush di_9_13 (v := 16) (by decide) ?_
  refine zg_newa di_9_15 xarr (by decide) (N := 16) (by decide) (by decide) (n := n + 2) (zln hn) (hF1.up (by omega)) (by omega) (by simp [zok]; try omega) (by simp [zok]; try omega) ⟨by decide, by decide⟩ (List.append_assoc _ _ _) (c2 := 2) (s2 := 32) rfl rfl ?_
  refine zg_putR (ci := 9) (k := 1) di_9_17 ⟨_, zcl_9, by decide, zw_293, rfl, rfl⟩ rfl (zat (i := 0) hn rfl) rfl ?_
  have hF2 := (hF1.up (m' := n + 3) (by omega)).rn (i := n) (k := 1) (j := n + 2) (by omega) (Or.inl (by omega))
  refine zg_aload_n di_9_20 rfl (j := 0) rfl ?_
  refine zg_bipush di_9_21 (v := 16) (by decide) ?_
  refine zg_iconst di_9_23 (v := 4) (by decide) ?_
  refine zg_mna di_9_24 xw_290 xarr (N := 16) (K := 4) ⟨by decide, by decide, by decide, by decide⟩ ⟨by decide, by decide⟩ (n := n + 3) (zln hn) (hF2.up (by omega)) (by omega) (by simp [zok]; try omega) (by simp [zok]; try omega) ⟨by decide, by decide⟩ (List.append_assoc _ _ _) (c2 := 19) (s2 := 112) rfl rfl ?_
  have hF3 := (hF2.up (m' := n + 20) (by omega)).rr (i := n + 3) (N := 16) (by omega)
  refine zg_putR (ci := 9) (k := 2) di_9_28 ⟨_, zcl_9, by decide, zw_295, rfl, rfl⟩ rfl (zat (i := 0) hn rfl) rfl ?_
  have hF4 := (hF3.up (m' := n + 20) (by omega)).rn (i := n) (k := 2) (j := n + 3) (by omega) (Or.inl (by omega))
  refine zg_aload_n di_9_31 rfl (j := 0) rfl ?_
  refine zg_bipush di_9_32 (v := 16) (by decide) ?_
  refine zg_iconst di_9_34 (v := 4) (by decide) ?_
  refine zg_mna di_9_35 xw_290 xarr (N := 16) (K := 4) ⟨by decide, by decide, by decide, by decide⟩ ⟨by decide, by decide⟩ (n := n + 20) (zln hn) (hF4.up (by omega)) (by omega) (by simp [zok]; try omega) (by simp [zok]; try omega) ⟨by decide, by decide⟩ (List.append_assoc _ _ _) (c2 := 36) (s2 := 192) rfl rfl ?_
  have hF5 := (hF4.up (m' := n + 37) (by omega)).rr (i := n + 20) (N := 16) (by omega)
  refine zg_putR (ci := 9) (k := 3) di_9_39 ⟨_, zcl_9, by decide, zw_296, rfl, rfl⟩ rfl (zat (i := 0) hn rfl) rfl ?_
  have hF6 := (hF5.up (m' := n + 37) (by omega)).rn (i := n) (k := 3) (j := n + 20) (by omega) (Or.inl (by omega))
  refine zg_aload_n di_9_42 rfl (j := 0) rfl ?_
  refine zg_iconst di_9_43 (v := 0) (by decide) ?_
  refine zg_putI (ci := 9) (k := 4) di_9_44 ⟨_, zcl_9, by decide, zw_297, rfl⟩ (zat (i := 0) hn rfl) rfl (by exact zSt_int _) ?_
  have hF7 := hF6.zu (i := n) (k := 4) (x := 0) (by omega)
  exact zg_vret di_9_47 rfl
def yi_7 : zMt := (⟨"TurnedLand$Walker", "<init>", "()V"⟩, prog_9_method_1_code, 1, none)
theorem cai_7 : zCallee yi_7 0 := ⟨xw_313, zw_11, by decide +kernel, by decide +kernel, by decide +kernel⟩
theorem di_7_0 : zD prog_9_method_1_code 0 (.aload_n 0) 1 1 := ⟨by decide +kernel, rfl⟩
theorem di_7_1 : zD prog_9_method_1_code 1 (.invokespecial 3) 3 4 := ⟨by decide +kernel, rfl⟩
theorem di_7_4 : zD prog_9_method_1_code 4 (.aload_n 0) 1 5 := ⟨by decide +kernel, rfl⟩
theorem di_7_5 : zD prog_9_method_1_code 5 (.bipush 9) 2 7 := ⟨by decide +kernel, rfl⟩
theorem di_7_7 : zD prog_9_method_1_code 7 (.newarray .int) 2 9 := ⟨by decide +kernel, rfl⟩
theorem di_7_9 : zD prog_9_method_1_code 9 (.putfield 9) 3 12 := ⟨by decide +kernel, rfl⟩
theorem di_7_12 : zD prog_9_method_1_code 12 (.aload_n 0) 1 13 := ⟨by decide +kernel, rfl⟩
theorem di_7_13 : zD prog_9_method_1_code 13 (.iconst 0) 1 14 := ⟨by decide +kernel, rfl⟩
theorem di_7_14 : zD prog_9_method_1_code 14 (.putfield 15) 3 17 := ⟨by decide +kernel, rfl⟩
theorem di_7_17 : zD prog_9_method_1_code 17 (.return_) 1 18 := ⟨by decide +kernel, rfl⟩
def zL_7 : List zK := ([.inl 7] ++ [.inr (0, 9)])
set_option maxRecDepth 20000 in
theorem zLl_7 : zL_7.length = 2 := by decide
def zR_7 (n : Nat) (R : zRf) : zRf := (zrn R n 0 (some (n + 1)))
def zI_7 (n : Nat) (I : zI) : zI := (zup I n 1 0)
theorem ci_7_F {R : zRf} {I : zI} {n : Nat} (hn2 : n + 2 < 100000) (hF : zFr (n + 1) R I) : zFr (n + 2) (zR_7 n R) (zI_7 n I) := by
  have hF1 := (hF.up (m' := n + 2) (by omega)).rn (i := n) (k := 0) (j := n + 1) (by omega) (Or.inl (by omega))
  have hF2 := hF1.zu (i := n) (k := 1) (x := 0) (by omega)
  exact hF2
set_option maxRecDepth 20000 in
theorem ci_7 {sh : List zK} {R : zRf} {I : zI} {n : Nat} (hn : sh.length = n) (hn2 : n + 2 < 100000) (hF : zFr (n + 1) R I) : zM 1 yi_7 [.inr (.inr (some n))] (sh ++ [.inl 7], R, I) none (sh ++ zL_7, zR_7 n R, zI_7 n I) 1 9 := by
  refine zM_of (by decide) (Nat.le_of_ble_eq_true rfl) (lv := [(0, .inr (.inr (some n)))]) rfl ?_
  refine zg_aload_n di_7_0 rfl (j := 0) rfl ?_
  refine zg_obj di_7_1 xw_314 xobj (by decide) (by decide) ?_
  refine zg_aload_n di_7_4 rfl (j := 0) rfl ?_
  refine zg_bipush di_7_5 (v := 9) (by decide) ?_
  refine zg_newa di_7_7 xarr (by decide) (N := 9) (by decide) (by decide) (n := n + 1) (zln hn) (hF.up (by omega)) (by omega) (by simp [zok]; try omega) (by simp [zok]; try omega) ⟨by decide, by decide⟩ (List.append_assoc _ _ _) (c2 := 1) (s2 := 9) rfl rfl ?_
  refine zg_putR (ci := 7) (k := 0) di_7_9 ⟨_, zcl_7, by decide, zw_315, rfl, rfl⟩ rfl (zat (i := 0) hn rfl) rfl ?_
  have hF1 := (hF.up (m' := n + 2) (by omega)).rn (i := n) (k := 0) (j := n + 1) (by omega) (Or.inl (by omega))
  refine zg_aload_n di_7_12 rfl (j := 0) rfl ?_
  refine zg_iconst di_7_13 (v := 0) (by decide) ?_
  refine zg_putI (ci := 7) (k := 1) di_7_14 ⟨_, zcl_7, by decide, zw_316, rfl⟩ (zat (i := 0) hn rfl) rfl (by exact zSt_int _) ?_
  have hF2 := hF1.zu (i := n) (k := 1) (x := 0) (by omega)
  exact zg_vret di_7_17 rfl
def yi_3 : zMt := (⟨"TurnedLand$Reader", "<init>", "()V"⟩, prog_5_method_1_code, 1, none)
theorem cai_3 : zCallee yi_3 0 := ⟨xw_327, zw_12, by decide +kernel, by decide +kernel, by decide +kernel⟩
theorem di_3_0 : zD prog_5_method_1_code 0 (.aload_n 0) 1 1 := ⟨by decide +kernel, rfl⟩
theorem di_3_1 : zD prog_5_method_1_code 1 (.invokespecial 3) 3 4 := ⟨by decide +kernel, rfl⟩
theorem di_3_4 : zD prog_5_method_1_code 4 (.aload_n 0) 1 5 := ⟨by decide +kernel, rfl⟩
theorem di_3_5 : zD prog_5_method_1_code 5 (.bipush 60) 2 7 := ⟨by decide +kernel, rfl⟩
theorem di_3_7 : zD prog_5_method_1_code 7 (.newarray .int) 2 9 := ⟨by decide +kernel, rfl⟩
theorem di_3_9 : zD prog_5_method_1_code 9 (.putfield 9) 3 12 := ⟨by decide +kernel, rfl⟩
theorem di_3_12 : zD prog_5_method_1_code 12 (.aload_n 0) 1 13 := ⟨by decide +kernel, rfl⟩
theorem di_3_13 : zD prog_5_method_1_code 13 (.bipush 60) 2 15 := ⟨by decide +kernel, rfl⟩
theorem di_3_15 : zD prog_5_method_1_code 15 (.newarray .int) 2 17 := ⟨by decide +kernel, rfl⟩
theorem di_3_17 : zD prog_5_method_1_code 17 (.putfield 15) 3 20 := ⟨by decide +kernel, rfl⟩
theorem di_3_20 : zD prog_5_method_1_code 20 (.aload_n 0) 1 21 := ⟨by decide +kernel, rfl⟩
theorem di_3_21 : zD prog_5_method_1_code 21 (.iconst 0) 1 22 := ⟨by decide +kernel, rfl⟩
theorem di_3_22 : zD prog_5_method_1_code 22 (.putfield 18) 3 25 := ⟨by decide +kernel, rfl⟩
theorem di_3_25 : zD prog_5_method_1_code 25 (.aload_n 0) 1 26 := ⟨by decide +kernel, rfl⟩
theorem di_3_26 : zD prog_5_method_1_code 26 (.iconst 0) 1 27 := ⟨by decide +kernel, rfl⟩
theorem di_3_27 : zD prog_5_method_1_code 27 (.putfield 22) 3 30 := ⟨by decide +kernel, rfl⟩
theorem di_3_30 : zD prog_5_method_1_code 30 (.aload_n 0) 1 31 := ⟨by decide +kernel, rfl⟩
theorem di_3_31 : zD prog_5_method_1_code 31 (.bipush 60) 2 33 := ⟨by decide +kernel, rfl⟩
theorem di_3_33 : zD prog_5_method_1_code 33 (.newarray .int) 2 35 := ⟨by decide +kernel, rfl⟩
theorem di_3_35 : zD prog_5_method_1_code 35 (.putfield 25) 3 38 := ⟨by decide +kernel, rfl⟩
theorem di_3_38 : zD prog_5_method_1_code 38 (.aload_n 0) 1 39 := ⟨by decide +kernel, rfl⟩
theorem di_3_39 : zD prog_5_method_1_code 39 (.iconst 0) 1 40 := ⟨by decide +kernel, rfl⟩
theorem di_3_40 : zD prog_5_method_1_code 40 (.putfield 28) 3 43 := ⟨by decide +kernel, rfl⟩
theorem di_3_43 : zD prog_5_method_1_code 43 (.aload_n 0) 1 44 := ⟨by decide +kernel, rfl⟩
theorem di_3_44 : zD prog_5_method_1_code 44 (.iconst 0) 1 45 := ⟨by decide +kernel, rfl⟩
theorem di_3_45 : zD prog_5_method_1_code 45 (.putfield 31) 3 48 := ⟨by decide +kernel, rfl⟩
theorem di_3_48 : zD prog_5_method_1_code 48 (.return_) 1 49 := ⟨by decide +kernel, rfl⟩
def zL_3 : List zK := ((([.inl 3] ++ [.inr (0, 60)]) ++ [.inr (0, 60)]) ++ [.inr (0, 60)])
set_option maxRecDepth 20000 in
theorem zLl_3 : zL_3.length = 4 := by decide
def zR_3 (n : Nat) (R : zRf) : zRf := (zrn (zrn (zrn R n 0 (some (n + 1))) n 1 (some (n + 2))) n 4 (some (n + 3)))
def zI_3 (n : Nat) (I : zI) : zI := (zup (zup (zup (zup I n 2 0) n 3 0) n 5 0) n 6 0)
theorem ci_3_F {R : zRf} {I : zI} {n : Nat} (hn2 : n + 4 < 100000) (hF : zFr (n + 1) R I) : zFr (n + 4) (zR_3 n R) (zI_3 n I) := by
  have hF1 := (hF.up (m' := n + 2) (by omega)).rn (i := n) (k := 0) (j := n + 1) (by omega) (Or.inl (by omega))
  have hF2 := (hF1.up (m' := n + 3) (by omega)).rn (i := n) (k := 1) (j := n + 2) (by omega) (Or.inl (by omega))
  have hF3 := hF2.zu (i := n) (k := 2) (x := 0) (by omega)
  have hF4 := hF3.zu (i := n) (k := 3) (x := 0) (by omega)
  have hF5 := (hF4.up (m' := n + 4) (by omega)).rn (i := n) (k := 4) (j := n + 3) (by omega) (Or.inl (by omega))
  have hF6 := hF5.zu (i := n) (k := 5) (x := 0) (by omega)
  have hF7 := hF6.zu (i := n) (k := 6) (x := 0) (by omega)
  exact hF7
set_option maxRecDepth 20000 in
theorem ci_3 {sh : List zK} {R : zRf} {I : zI} {n : Nat} (hn : sh.length = n) (hn2 : n + 4 < 100000) (hF : zFr (n + 1) R I) : zM 1 yi_3 [.inr (.inr (some n))] (sh ++ [.inl 3], R, I) none (sh ++ zL_3, zR_3 n R, zI_3 n I) 3 180 := by
  refine zM_of (by decide) (Nat.le_of_ble_eq_true rfl) (lv := [(0, .inr (.inr (some n)))]) rfl ?_
  refine zg_aload_n di_3_0 rfl (j := 0) rfl ?_
  refine zg_obj di_3_1 xw_328 xobj (by decide) (by decide) ?_
  refine zg_aload_n di_3_4 rfl (j := 0) rfl ?_
  refine zg_bipush di_3_5 (v := 60) (by decide) ?_
  refine zg_newa di_3_7 xarr (by decide) (N := 60) (by decide) (by decide) (n := n + 1) (zln hn) (hF.up (by omega)) (by omega) (by simp [zok]; try omega) (by simp [zok]; try omega) ⟨by decide, by decide⟩ (List.append_assoc _ _ _) (c2 := 1) (s2 := 60) rfl rfl ?_
  refine zg_putR (ci := 3) (k := 0) di_3_9 ⟨_, zcl_3, by decide, zw_329, rfl, rfl⟩ rfl (zat (i := 0) hn rfl) rfl ?_
  have hF1 := (hF.up (m' := n + 2) (by omega)).rn (i := n) (k := 0) (j := n + 1) (by omega) (Or.inl (by omega))
  refine zg_aload_n di_3_12 rfl (j := 0) rfl ?_
  refine zg_bipush di_3_13 (v := 60) (by decide) ?_
  refine zg_newa di_3_15 xarr (by decide) (N := 60) (by decide) (by decide) (n := n + 2) (zln hn) (hF1.up (by omega)) (by omega) (by simp [zok]; try omega) (by simp [zok]; try omega) ⟨by decide, by decide⟩ (List.append_assoc _ _ _) (c2 := 2) (s2 := 120) rfl rfl ?_
  refine zg_putR (ci := 3) (k := 1) di_3_17 ⟨_, zcl_3, by decide, zw_331, rfl, rfl⟩ rfl (zat (i := 0) hn rfl) rfl ?_
  have hF2 := (hF1.up (m' := n + 3) (by omega)).rn (i := n) (k := 1) (j := n + 2) (by omega) (Or.inl (by omega))
  refine zg_aload_n di_3_20 rfl (j := 0) rfl ?_
  refine zg_iconst di_3_21 (v := 0) (by decide) ?_
  refine zg_putI (ci := 3) (k := 2) di_3_22 ⟨_, zcl_3, by decide, zw_333, rfl⟩ (zat (i := 0) hn rfl) rfl (by exact zSt_int _) ?_
  have hF3 := hF2.zu (i := n) (k := 2) (x := 0) (by omega)
  refine zg_aload_n di_3_25 rfl (j := 0) rfl ?_
  refine zg_iconst di_3_26 (v := 0) (by decide) ?_
  refine zg_putI (ci := 3) (k := 3) di_3_27 ⟨_, zcl_3, by decide, zw_335, rfl⟩ (zat (i := 0) hn rfl) rfl (by exact zSt_int _) ?_
  have hF4 := hF3.zu (i := n) (k := 3) (x := 0) (by omega)
  refine zg_aload_n di_3_30 rfl (j := 0) rfl ?_
  refine zg_bipush di_3_31 (v := 60) (by decide) ?_
  refine zg_newa di_3_33 xarr (by decide) (N := 60) (by decide) (by decide) (n := n + 3) (zln hn) (hF4.up (by omega)) (by omega) (by simp [zok]; try omega) (by simp [zok]; try omega) ⟨by decide, by decide⟩ (List.append_assoc _ _ _) (c2 := 3) (s2 := 180) rfl rfl ?_
  refine zg_putR (ci := 3) (k := 4) di_3_35 ⟨_, zcl_3, by decide, zw_337, rfl, rfl⟩ rfl (zat (i := 0) hn rfl) rfl ?_
  have hF5 := (hF4.up (m' := n + 4) (by omega)).rn (i := n) (k := 4) (j := n + 3) (by omega) (Or.inl (by omega))
  refine zg_aload_n di_3_38 rfl (j := 0) rfl ?_
  refine zg_iconst di_3_39 (v := 0) (by decide) ?_
  refine zg_putI (ci := 3) (k := 5) di_3_40 ⟨_, zcl_3, by decide, zw_338, rfl⟩ (zat (i := 0) hn rfl) rfl (by exact zSt_int _) ?_
  have hF6 := hF5.zu (i := n) (k := 5) (x := 0) (by omega)
  refine zg_aload_n di_3_43 rfl (j := 0) rfl ?_
  refine zg_iconst di_3_44 (v := 0) (by decide) ?_
  refine zg_putI (ci := 3) (k := 6) di_3_45 ⟨_, zcl_3, by decide, zw_339, rfl⟩ (zat (i := 0) hn rfl) rfl (by exact zSt_int _) ?_
  have hF7 := hF6.zu (i := n) (k := 6) (x := 0) (by omega)
  exact zg_vret di_3_48 rfl
def yi_6 : zMt := (⟨"TurnedLand$Voices", "<init>", "()V"⟩, prog_8_method_1_code, 1, none)
theorem cai_6 : zCallee yi_6 0 := ⟨xw_359, zw_13, by decide +kernel, by decide +kernel, by decide +kernel⟩
theorem di_6_0 : zD prog_8_method_1_code 0 (.aload_n 0) 1 1 := ⟨by decide +kernel, rfl⟩
theorem di_6_1 : zD prog_8_method_1_code 1 (.invokespecial 3) 3 4 := ⟨by decide +kernel, rfl⟩
theorem di_6_4 : zD prog_8_method_1_code 4 (.aload_n 0) 1 5 := ⟨by decide +kernel, rfl⟩
theorem di_6_5 : zD prog_8_method_1_code 5 (.bipush 30) 2 7 := ⟨by decide +kernel, rfl⟩
theorem di_6_7 : zD prog_8_method_1_code 7 (.newarray .int) 2 9 := ⟨by decide +kernel, rfl⟩
theorem di_6_9 : zD prog_8_method_1_code 9 (.putfield 9) 3 12 := ⟨by decide +kernel, rfl⟩
theorem di_6_12 : zD prog_8_method_1_code 12 (.aload_n 0) 1 13 := ⟨by decide +kernel, rfl⟩
theorem di_6_13 : zD prog_8_method_1_code 13 (.iconst 0) 1 14 := ⟨by decide +kernel, rfl⟩
theorem di_6_14 : zD prog_8_method_1_code 14 (.putfield 15) 3 17 := ⟨by decide +kernel, rfl⟩
theorem di_6_17 : zD prog_8_method_1_code 17 (.aload_n 0) 1 18 := ⟨by decide +kernel, rfl⟩
theorem di_6_18 : zD prog_8_method_1_code 18 (.iconst 0) 1 19 := ⟨by decide +kernel, rfl⟩
theorem di_6_19 : zD prog_8_method_1_code 19 (.putfield 19) 3 22 := ⟨by decide +kernel, rfl⟩
theorem di_6_22 : zD prog_8_method_1_code 22 (.aload_n 0) 1 23 := ⟨by decide +kernel, rfl⟩
theorem di_6_23 : zD prog_8_method_1_code 23 (.iconst 0) 1 24 := ⟨by decide +kernel, rfl⟩
theorem di_6_24 : zD prog_8_method_1_code 24 (.putfield 23) 3 27 := ⟨by decide +kernel, rfl⟩
theorem di_6_27 : zD prog_8_method_1_code 27 (.aload_n 0) 1 28 := ⟨by decide +kernel, rfl⟩
theorem di_6_28 : zD prog_8_method_1_code 28 (.iconst 0) 1 29 := ⟨by decide +kernel, rfl⟩
theorem di_6_29 : zD prog_8_method_1_code 29 (.putfield 26) 3 32 := ⟨by decide +kernel, rfl⟩
theorem di_6_32 : zD prog_8_method_1_code 32 (.aload_n 0) 1 33 := ⟨by decide +kernel, rfl⟩
theorem di_6_33 : zD prog_8_method_1_code 33 (.iconst 0) 1 34 := ⟨by decide +kernel, rfl⟩
theorem di_6_34 : zD prog_8_method_1_code 34 (.putfield 29) 3 37 := ⟨by decide +kernel, rfl⟩
theorem di_6_37 : zD prog_8_method_1_code 37 (.return_) 1 38 := ⟨by decide +kernel, rfl⟩
def zL_6 : List zK := ([.inl 6] ++ [.inr (0, 30)])
set_option maxRecDepth 20000 in
theorem zLl_6 : zL_6.length = 2 := by decide
def zR_6 (n : Nat) (R : zRf) : zRf := (zrn R n 0 (some (n + 1)))
def zI_6 (n : Nat) (I : zI) : zI := (zup (zup (zup (zup (zup I n 1 0) n 2 0) n 3 0) n 4 0) n 5 0)
theorem ci_6_F {R : zRf} {I : zI} {n : Nat} (hn2 : n + 2 < 100000) (hF : zFr (n + 1) R I) : zFr (n + 2) (zR_6 n R) (zI_6 n I) := by
  have hF1 := (hF.up (m' := n + 2) (by omega)).rn (i := n) (k := 0) (j := n + 1) (by omega) (Or.inl (by omega))
  have hF2 := hF1.zu (i := n) (k := 1) (x := 0) (by omega)
  have hF3 := hF2.zu (i := n) (k := 2) (x := 0) (by omega)
  have hF4 := hF3.zu (i := n) (k := 3) (x := 0) (by omega)
  have hF5 := hF4.zu (i := n) (k := 4) (x := 0) (by omega)
  have hF6 := hF5.zu (i := n) (k := 5) (x := 0) (by omega)
  exact hF6
set_option maxRecDepth 20000 in
theorem ci_6 {sh : List zK} {R : zRf} {I : zI} {n : Nat} (hn : sh.length = n) (hn2 : n + 2 < 100000) (hF : zFr (n + 1) R I) : zM 1 yi_6 [.inr (.inr (some n))] (sh ++ [.inl 6], R, I) none (sh ++ zL_6, zR_6 n R, zI_6 n I) 1 30 := by
  refine zM_of (by decide) (Nat.le_of_ble_eq_true rfl) (lv := [(0, .inr (.inr (some n)))]) rfl ?_
  refine zg_aload_n di_6_0 rfl (j := 0) rfl ?_
  refine zg_obj di_6_1 xw_360 xobj (by decide) (by decide) ?_
  refine zg_aload_n di_6_4 rfl (j := 0) rfl ?_
  refine zg_bipush di_6_5 (v := 30) (by decide) ?_
  refine zg_newa di_6_7 xarr (by decide) (N := 30) (by decide) (by decide) (n := n + 1) (zln hn) (hF.up (by omega)) (by omega) (by simp [zok]; try omega) (by simp [zok]; try omega) ⟨by decide, by decide⟩ (List.append_assoc _ _ _) (c2 := 1) (s2 := 30) rfl rfl ?_
  refine zg_putR (ci := 6) (k := 0) di_6_9 ⟨_, zcl_6, by decide, zw_361, rfl, rfl⟩ rfl (zat (i := 0) hn rfl) rfl ?_
  have hF1 := (hF.up (m' := n + 2) (by omega)).rn (i := n) (k := 0) (j := n + 1) (by omega) (Or.inl (by omega))
  refine zg_aload_n di_6_12 rfl (j := 0) rfl ?_
  refine zg_iconst di_6_13 (v := 0) (by decide) ?_
  refine zg_putI (ci := 6) (k := 1) di_6_14 ⟨_, zcl_6, by decide, zw_363, rfl⟩ (zat (i := 0) hn rfl) rfl (by exact zSt_int _) ?_
  have hF2 := hF1.zu (i := n) (k := 1) (x := 0) (by omega)
  refine zg_aload_n di_6_17 rfl (j := 0) rfl ?_
  refine zg_iconst di_6_18 (v := 0) (by decide) ?_
  refine zg_putI (ci := 6) (k := 2) di_6_19 ⟨_, zcl_6, by decide, zw_365, rfl⟩ (zat (i := 0) hn rfl) rfl (by first | exact zSt_b0 | exact zSt_b1) ?_
  have hF3 := hF2.zu (i := n) (k := 2) (x := 0) (by omega)
  refine zg_aload_n di_6_22 rfl (j := 0) rfl ?_
  refine zg_iconst di_6_23 (v := 0) (by decide) ?_
  refine zg_putI (ci := 6) (k := 3) di_6_24 ⟨_, zcl_6, by decide, zw_367, rfl⟩ (zat (i := 0) hn rfl) rfl (by exact zSt_int _) ?_
  have hF4 := hF3.zu (i := n) (k := 3) (x := 0) (by omega)
  refine zg_aload_n di_6_27 rfl (j := 0) rfl ?_
  refine zg_iconst di_6_28 (v := 0) (by decide) ?_
  refine zg_putI (ci := 6) (k := 4) di_6_29 ⟨_, zcl_6, by decide, zw_368, rfl⟩ (zat (i := 0) hn rfl) rfl (by exact zSt_int _) ?_
  have hF5 := hF4.zu (i := n) (k := 4) (x := 0) (by omega)
  refine zg_aload_n di_6_32 rfl (j := 0) rfl ?_
  refine zg_iconst di_6_33 (v := 0) (by decide) ?_
  refine zg_putI (ci := 6) (k := 5) di_6_34 ⟨_, zcl_6, by decide, zw_369, rfl⟩ (zat (i := 0) hn rfl) rfl (by exact zSt_int _) ?_
  have hF6 := hF5.zu (i := n) (k := 5) (x := 0) (by omega)
  exact zg_vret di_6_37 rfl
def yi_11 : zMt := (⟨"TurnedLand", "<init>", "()V"⟩, prog_1_method_1_code, 1, none)
theorem cai_11 : zCallee yi_11 0 := ⟨xw_26, zw_1, by decide +kernel, by decide +kernel, by decide +kernel⟩
theorem di_11_0 : zD prog_1_method_1_code 0 (.aload_n 0) 1 1 := ⟨by decide +kernel, rfl⟩
theorem di_11_1 : zD prog_1_method_1_code 1 (.invokespecial 3) 3 4 := ⟨by decide +kernel, rfl⟩
theorem di_11_4 : zD prog_1_method_1_code 4 (.aload_n 0) 1 5 := ⟨by decide +kernel, rfl⟩
theorem di_11_5 : zD prog_1_method_1_code 5 (.new 9) 3 8 := ⟨by decide +kernel, rfl⟩
theorem di_11_8 : zD prog_1_method_1_code 8 (.dup) 1 9 := ⟨by decide +kernel, rfl⟩
theorem di_11_9 : zD prog_1_method_1_code 9 (.invokespecial 11) 3 12 := ⟨by decide +kernel, rfl⟩
theorem di_11_12 : zD prog_1_method_1_code 12 (.putfield 12) 3 15 := ⟨by decide +kernel, rfl⟩
theorem di_11_15 : zD prog_1_method_1_code 15 (.aload_n 0) 1 16 := ⟨by decide +kernel, rfl⟩
theorem di_11_16 : zD prog_1_method_1_code 16 (.new 9) 3 19 := ⟨by decide +kernel, rfl⟩
theorem di_11_19 : zD prog_1_method_1_code 19 (.dup) 1 20 := ⟨by decide +kernel, rfl⟩
theorem di_11_20 : zD prog_1_method_1_code 20 (.invokespecial 11) 3 23 := ⟨by decide +kernel, rfl⟩
theorem di_11_23 : zD prog_1_method_1_code 23 (.putfield 16) 3 26 := ⟨by decide +kernel, rfl⟩
theorem di_11_26 : zD prog_1_method_1_code 26 (.aload_n 0) 1 27 := ⟨by decide +kernel, rfl⟩
theorem di_11_27 : zD prog_1_method_1_code 27 (.iconst 0) 1 28 := ⟨by decide +kernel, rfl⟩
theorem di_11_28 : zD prog_1_method_1_code 28 (.putfield 19) 3 31 := ⟨by decide +kernel, rfl⟩
theorem di_11_31 : zD prog_1_method_1_code 31 (.aload_n 0) 1 32 := ⟨by decide +kernel, rfl⟩
theorem di_11_32 : zD prog_1_method_1_code 32 (.bipush 7) 2 34 := ⟨by decide +kernel, rfl⟩
theorem di_11_34 : zD prog_1_method_1_code 34 (.newarray .int) 2 36 := ⟨by decide +kernel, rfl⟩
theorem di_11_36 : zD prog_1_method_1_code 36 (.putfield 23) 3 39 := ⟨by decide +kernel, rfl⟩
theorem di_11_39 : zD prog_1_method_1_code 39 (.aload_n 0) 1 40 := ⟨by decide +kernel, rfl⟩
theorem di_11_40 : zD prog_1_method_1_code 40 (.iconst 4) 1 41 := ⟨by decide +kernel, rfl⟩
theorem di_11_41 : zD prog_1_method_1_code 41 (.newarray .int) 2 43 := ⟨by decide +kernel, rfl⟩
theorem di_11_43 : zD prog_1_method_1_code 43 (.putfield 27) 3 46 := ⟨by decide +kernel, rfl⟩
theorem di_11_46 : zD prog_1_method_1_code 46 (.aload_n 0) 1 47 := ⟨by decide +kernel, rfl⟩
theorem di_11_47 : zD prog_1_method_1_code 47 (.iconst 4) 1 48 := ⟨by decide +kernel, rfl⟩
theorem di_11_48 : zD prog_1_method_1_code 48 (.newarray .int) 2 50 := ⟨by decide +kernel, rfl⟩
theorem di_11_50 : zD prog_1_method_1_code 50 (.putfield 30) 3 53 := ⟨by decide +kernel, rfl⟩
theorem di_11_53 : zD prog_1_method_1_code 53 (.aload_n 0) 1 54 := ⟨by decide +kernel, rfl⟩
theorem di_11_54 : zD prog_1_method_1_code 54 (.iconst 4) 1 55 := ⟨by decide +kernel, rfl⟩
theorem di_11_55 : zD prog_1_method_1_code 55 (.bipush 24) 2 57 := ⟨by decide +kernel, rfl⟩
theorem di_11_57 : zD prog_1_method_1_code 57 (.multianewarray 33 2) 4 61 := ⟨by decide +kernel, rfl⟩
theorem di_11_61 : zD prog_1_method_1_code 61 (.putfield 35) 3 64 := ⟨by decide +kernel, rfl⟩
theorem di_11_64 : zD prog_1_method_1_code 64 (.aload_n 0) 1 65 := ⟨by decide +kernel, rfl⟩
theorem di_11_65 : zD prog_1_method_1_code 65 (.new 38) 3 68 := ⟨by decide +kernel, rfl⟩
theorem di_11_68 : zD prog_1_method_1_code 68 (.dup) 1 69 := ⟨by decide +kernel, rfl⟩
theorem di_11_69 : zD prog_1_method_1_code 69 (.invokespecial 40) 3 72 := ⟨by decide +kernel, rfl⟩
theorem di_11_72 : zD prog_1_method_1_code 72 (.putfield 41) 3 75 := ⟨by decide +kernel, rfl⟩
theorem di_11_75 : zD prog_1_method_1_code 75 (.aload_n 0) 1 76 := ⟨by decide +kernel, rfl⟩
theorem di_11_76 : zD prog_1_method_1_code 76 (.new 45) 3 79 := ⟨by decide +kernel, rfl⟩
theorem di_11_79 : zD prog_1_method_1_code 79 (.dup) 1 80 := ⟨by decide +kernel, rfl⟩
theorem di_11_80 : zD prog_1_method_1_code 80 (.invokespecial 47) 3 83 := ⟨by decide +kernel, rfl⟩
theorem di_11_83 : zD prog_1_method_1_code 83 (.putfield 48) 3 86 := ⟨by decide +kernel, rfl⟩
theorem di_11_86 : zD prog_1_method_1_code 86 (.aload_n 0) 1 87 := ⟨by decide +kernel, rfl⟩
theorem di_11_87 : zD prog_1_method_1_code 87 (.new 45) 3 90 := ⟨by decide +kernel, rfl⟩
theorem di_11_90 : zD prog_1_method_1_code 90 (.dup) 1 91 := ⟨by decide +kernel, rfl⟩
theorem di_11_91 : zD prog_1_method_1_code 91 (.invokespecial 47) 3 94 := ⟨by decide +kernel, rfl⟩
theorem di_11_94 : zD prog_1_method_1_code 94 (.putfield 52) 3 97 := ⟨by decide +kernel, rfl⟩
theorem di_11_97 : zD prog_1_method_1_code 97 (.aload_n 0) 1 98 := ⟨by decide +kernel, rfl⟩
theorem di_11_98 : zD prog_1_method_1_code 98 (.new 55) 3 101 := ⟨by decide +kernel, rfl⟩
theorem di_11_101 : zD prog_1_method_1_code 101 (.dup) 1 102 := ⟨by decide +kernel, rfl⟩
theorem di_11_102 : zD prog_1_method_1_code 102 (.invokespecial 57) 3 105 := ⟨by decide +kernel, rfl⟩
theorem di_11_105 : zD prog_1_method_1_code 105 (.putfield 58) 3 108 := ⟨by decide +kernel, rfl⟩
theorem di_11_108 : zD prog_1_method_1_code 108 (.aload_n 0) 1 109 := ⟨by decide +kernel, rfl⟩
theorem di_11_109 : zD prog_1_method_1_code 109 (.new 62) 3 112 := ⟨by decide +kernel, rfl⟩
theorem di_11_112 : zD prog_1_method_1_code 112 (.dup) 1 113 := ⟨by decide +kernel, rfl⟩
theorem di_11_113 : zD prog_1_method_1_code 113 (.invokespecial 64) 3 116 := ⟨by decide +kernel, rfl⟩
theorem di_11_116 : zD prog_1_method_1_code 116 (.putfield 65) 3 119 := ⟨by decide +kernel, rfl⟩
theorem di_11_119 : zD prog_1_method_1_code 119 (.aload_n 0) 1 120 := ⟨by decide +kernel, rfl⟩
theorem di_11_120 : zD prog_1_method_1_code 120 (.new 69) 3 123 := ⟨by decide +kernel, rfl⟩
theorem di_11_123 : zD prog_1_method_1_code 123 (.dup) 1 124 := ⟨by decide +kernel, rfl⟩
theorem di_11_124 : zD prog_1_method_1_code 124 (.invokespecial 71) 3 127 := ⟨by decide +kernel, rfl⟩
theorem di_11_127 : zD prog_1_method_1_code 127 (.putfield 72) 3 130 := ⟨by decide +kernel, rfl⟩
theorem di_11_130 : zD prog_1_method_1_code 130 (.return_) 1 131 := ⟨by decide +kernel, rfl⟩
def zL_11 : List zK := (((((((((((([.inl 11] ++ zL_10) ++ zL_10) ++ [.inr (0, 7)]) ++ [.inr (0, 4)]) ++ [.inr (0, 4)]) ++ .inr (1, 4) :: List.replicate 4 (.inr (0, 24))) ++ zL_4) ++ zL_9) ++ zL_9) ++ zL_7) ++ zL_3) ++ zL_6)
set_option maxRecDepth 20000 in
theorem zLl_11 : zL_11.length = 186 := by decide
def zR_11 (n : Nat) (R : zRf) : zRf := (zrn (zR_6 (n + 184) (zrn (zR_3 (n + 180) (zrn (zR_7 (n + 178) (zrn (zR_9 (n + 141) (zrn (zR_9 (n + 104) (zrn (zR_4 (n + 101) (zrn (zrr (zrn (zrn (zrn (zrn (zR_10 (n + 47) (zrn (zR_10 (n + 1) R) n 0 (some (n + 1)))) n 1 (some (n + 47))) n 3 (some (n + 93))) n 4 (some (n + 94))) n 5 (some (n + 95))) (n + 96) 4) n 6 (some (n + 96)))) n 7 (some (n + 101)))) n 8 (some (n + 104)))) n 9 (some (n + 141)))) n 10 (some (n + 178)))) n 11 (some (n + 180)))) n 12 (some (n + 184)))
def zI_11 (n : Nat) (I : zI) : zI := (zI_6 (n + 184) (zI_3 (n + 180) (zI_7 (n + 178) (zI_9 (n + 141) (zI_9 (n + 104) (zI_4 (n + 101) (zup (zI_10 (n + 47) (zI_10 (n + 1) I)) n 2 0)))))))
theorem ci_11_F {R : zRf} {I : zI} {n : Nat} (hn2 : n + 186 < 100000) (hF : zFr (n + 1) R I) : zFr (n + 186) (zR_11 n R) (zI_11 n I) := by
  have hF1 := ci_10_F (R := R) (I := I) (n := n + 1) (by omega) (hF.up (m' := n + 2) (by omega))
  have hF2 := (hF1.up (m' := n + 47) (by omega)).rn (i := n) (k := 0) (j := n + 1) (by omega) (Or.inl (by omega))
  have hF3 := ci_10_F (R := (zrn (zR_10 (n + 1) R) n 0 (some (n + 1)))) (I := (zI_10 (n + 1) I)) (n := n + 47) (by omega) (hF2.up (m' := n + 48) (by omega))
  have hF4 := (hF3.up (m' := n + 93) (by omega)).rn (i := n) (k := 1) (j := n + 47) (by omega) (Or.inl (by omega))
  have hF5 := hF4.zu (i := n) (k := 2) (x := 0) (by omega)
  have hF6 := (hF5.up (m' := n + 94) (by omega)).rn (i := n) (k := 3) (j := n + 93) (by omega) (Or.inl (by omega))
  have hF7 := (hF6.up (m' := n + 95) (by omega)).rn (i := n) (k := 4) (j := n + 94) (by omega) (Or.inl (by omega))
  have hF8 := (hF7.up (m' := n + 96) (by omega)).rn (i := n) (k := 5) (j := n + 95) (by omega) (Or.inl (by omega))
  have hF9 := (hF8.up (m' := n + 101) (by omega)).rr (i := n + 96) (N := 4) (by omega)
  have hF10 := (hF9.up (m' := n + 101) (by omega)).rn (i := n) (k := 6) (j := n + 96) (by omega) (Or.inl (by omega))
  have hF11 := ci_4_F (R := (zrn (zrr (zrn (zrn (zrn (zrn (zR_10 (n + 47) (zrn (zR_10 (n + 1) R) n 0 (some (n + 1)))) n 1 (some (n + 47))) n 3 (some (n + 93))) n 4 (some (n + 94))) n 5 (some (n + 95))) (n + 96) 4) n 6 (some (n + 96)))) (I := (zup (zI_10 (n + 47) (zI_10 (n + 1) I)) n 2 0)) (n := n + 101) (by omega) (hF10.up (m' := n + 102) (by omega))
  have hF12 := (hF11.up (m' := n + 104) (by omega)).rn (i := n) (k := 7) (j := n + 101) (by omega) (Or.inl (by omega))
  have hF13 := ci_9_F (R := (zrn (zR_4 (n + 101) (zrn (zrr (zrn (zrn (zrn (zrn (zR_10 (n + 47) (zrn (zR_10 (n + 1) R) n 0 (some (n + 1)))) n 1 (some (n + 47))) n 3 (some (n + 93))) n 4 (some (n + 94))) n 5 (some (n + 95))) (n + 96) 4) n 6 (some (n + 96)))) n 7 (some (n + 101)))) (I := (zI_4 (n + 101) (zup (zI_10 (n + 47) (zI_10 (n + 1) I)) n 2 0))) (n := n + 104) (by omega) (hF12.up (m' := n + 105) (by omega))
  have hF14 := (hF13.up (m' := n + 141) (by omega)).rn (i := n) (k := 8) (j := n + 104) (by omega) (Or.inl (by omega))
  have hF15 := ci_9_F (R := (zrn (zR_9 (n + 104) (zrn (zR_4 (n + 101) (zrn (zrr (zrn (zrn (zrn (zrn (zR_10 (n + 47) (zrn (zR_10 (n + 1) R) n 0 (some (n + 1)))) n 1 (some (n + 47))) n 3 (some (n + 93))) n 4 (some (n + 94))) n 5 (some (n + 95))) (n + 96) 4) n 6 (some (n + 96)))) n 7 (some (n + 101)))) n 8 (some (n + 104)))) (I := (zI_9 (n + 104) (zI_4 (n + 101) (zup (zI_10 (n + 47) (zI_10 (n + 1) I)) n 2 0)))) (n := n + 141) (by omega) (hF14.up (m' := n + 142) (by omega))
  have hF16 := (hF15.up (m' := n + 178) (by omega)).rn (i := n) (k := 9) (j := n + 141) (by omega) (Or.inl (by omega))
  have hF17 := ci_7_F (R := (zrn (zR_9 (n + 141) (zrn (zR_9 (n + 104) (zrn (zR_4 (n + 101) (zrn (zrr (zrn (zrn (zrn (zrn (zR_10 (n + 47) (zrn (zR_10 (n + 1) R) n 0 (some (n + 1)))) n 1 (some (n + 47))) n 3 (some (n + 93))) n 4 (some (n + 94))) n 5 (some (n + 95))) (n + 96) 4) n 6 (some (n + 96)))) n 7 (some (n + 101)))) n 8 (some (n + 104)))) n 9 (some (n + 141)))) (I := (zI_9 (n + 141) (zI_9 (n + 104) (zI_4 (n + 101) (zup (zI_10 (n + 47) (zI_10 (n + 1) I)) n 2 0))))) (n := n + 178) (by omega) (hF16.up (m' := n + 179) (by omega))
  have hF18 := (hF17.up (m' := n + 180) (by omega)).rn (i := n) (k := 10) (j := n + 178) (by omega) (Or.inl (by omega))
  have hF19 := ci_3_F (R := (zrn (zR_7 (n + 178) (zrn (zR_9 (n + 141) (zrn (zR_9 (n + 104) (zrn (zR_4 (n + 101) (zrn (zrr (zrn (zrn (zrn (zrn (zR_10 (n + 47) (zrn (zR_10 (n + 1) R) n 0 (some (n + 1)))) n 1 (some (n + 47))) n 3 (some (n + 93))) n 4 (some (n + 94))) n 5 (some (n + 95))) (n + 96) 4) n 6 (some (n + 96)))) n 7 (some (n + 101)))) n 8 (some (n + 104)))) n 9 (some (n + 141)))) n 10 (some (n + 178)))) (I := (zI_7 (n + 178) (zI_9 (n + 141) (zI_9 (n + 104) (zI_4 (n + 101) (zup (zI_10 (n + 47) (zI_10 (n + 1) I)) n 2 0)))))) (n := n + 180) (by omega) (hF18.up (m' := n + 181) (by omega))
  have hF20 := (hF19.up (m' := n + 184) (by omega)).rn (i := n) (k := 11) (j := n + 180) (by omega) (Or.inl (by omega))
  have hF21 := ci_6_F (R := (zrn (zR_3 (n + 180) (zrn (zR_7 (n + 178) (zrn (zR_9 (n + 141) (zrn (zR_9 (n + 104) (zrn (zR_4 (n + 101) (zrn (zrr (zrn (zrn (zrn (zrn (zR_10 (n + 47) (zrn (zR_10 (n + 1) R) n 0 (some (n + 1)))) n 1 (some (n + 47))) n 3 (some (n + 93))) n 4 (some (n + 94))) n 5 (some (n + 95))) (n + 96) 4) n 6 (some (n + 96)))) n 7 (some (n + 101)))) n 8 (some (n + 104)))) n 9 (some (n + 141)))) n 10 (some (n + 178)))) n 11 (some (n + 180)))) (I := (zI_3 (n + 180) (zI_7 (n + 178) (zI_9 (n + 141) (zI_9 (n + 104) (zI_4 (n + 101) (zup (zI_10 (n + 47) (zI_10 (n + 1) I)) n 2 0))))))) (n := n + 184) (by omega) (hF20.up (m' := n + 185) (by omega))
  have hF22 := (hF21.up (m' := n + 186) (by omega)).rn (i := n) (k := 12) (j := n + 184) (by omega) (Or.inl (by omega))
  exact hF22
set_option maxRecDepth 20000 in
theorem ci_11 {sh : List zK} {R : zRf} {I : zI} {n : Nat} (hn : sh.length = n) (hn2 : n + 186 < 100000) (hF : zFr (n + 1) R I) : zM 4 yi_11 [.inr (.inr (some n))] (sh ++ [.inl 11], R, I) none (sh ++ zL_11, zR_11 n R, zI_11 n I) 185 2405 := by
  refine zM_of (by decide) (Nat.le_of_ble_eq_true rfl) (lv := [(0, .inr (.inr (some n)))]) rfl ?_
  refine zg_aload_n di_11_0 rfl (j := 0) rfl ?_
  refine zg_obj di_11_1 xw_27 xobj (by decide) (by decide) ?_
  refine zg_aload_n di_11_4 rfl (j := 0) rfl ?_
  refine zg_new di_11_5 zcl_10 xw_30 ⟨xw_31, zw_2⟩ (n := n + 1) (zln hn) (hF.up (by omega)) (by omega) (by simp [zok]; try omega) (by simp [zok]; try omega) ⟨by decide, by decide⟩ rfl (c2 := 1) (s2 := 11) rfl rfl ?_
  refine zg_dup di_11_8 rfl ?_
  have hM1 := ci_10 (sh := sh ++ [.inl 11]) (R := R) (I := I) (n := n + 1) (zln hn) (by omega) (hF.up (by omega))
  rw [List.append_assoc sh _ zL_10] at hM1
  refine zg_initN di_11_9 cai_10 ⟨rfl, rfl⟩ (host := "TurnedLand") (by simp [zXn, yi_11, yi_10]) xw_33 hM1 ⟨by decide, by decide⟩ (Nat.le_of_ble_eq_true rfl) ⟨by decide, by decide⟩ ?_ ?_ (c2 := 46) (s2 := 810) rfl rfl ?_
  · rw [zln2 hn]; simp [zok, zLl_2, zLl_8, zLl_1, zLl_0, zLl_5, zLl_10, zLl_4, zLl_9, zLl_7, zLl_3, zLl_6]; try omega
  · rw [zln2 hn]; simp [zok, zLl_2, zLl_8, zLl_1, zLl_0, zLl_5, zLl_10, zLl_4, zLl_9, zLl_7, zLl_3, zLl_6]; try omega
  have hF1 := ci_10_F (R := R) (I := I) (n := n + 1) (by omega) (hF.up (m' := n + 2) (by omega))
  refine zg_putR (ci := 11) (k := 0) di_11_12 ⟨_, zcl_11, by decide, zw_383, rfl, rfl⟩ rfl (zat (i := 0) hn rfl) rfl ?_
  have hF2 := (hF1.up (m' := n + 47) (by omega)).rn (i := n) (k := 0) (j := n + 1) (by omega) (Or.inl (by omega))
  refine zg_aload_n di_11_15 rfl (j := 0) rfl ?_
  refine zg_new di_11_16 zcl_10 xw_30 ⟨xw_31, zw_2⟩ (n := n + 47) (zln hn) (hF2.up (by omega)) (by omega) (by simp [zok]; try omega) (by simp [zok]; try omega) ⟨by decide, by decide⟩ rfl (c2 := 47) (s2 := 821) rfl rfl ?_
  refine zg_dup di_11_19 rfl ?_
  have hM3 := ci_10 (sh := sh ++ ([.inl 11] ++ zL_10)) (R := (zrn (zR_10 (n + 1) R) n 0 (some (n + 1)))) (I := (zI_10 (n + 1) I)) (n := n + 47) (zln hn) (by omega) (hF2.up (by omega))
  rw [List.append_assoc sh _ zL_10] at hM3
  refine zg_initN di_11_20 cai_10 ⟨rfl, rfl⟩ (host := "TurnedLand") (by simp [zXn, yi_11, yi_10]) xw_33 hM3 ⟨by decide, by decide⟩ (Nat.le_of_ble_eq_true rfl) ⟨by decide, by decide⟩ ?_ ?_ (c2 := 92) (s2 := 1620) rfl rfl ?_
  · rw [zln2 hn]; simp [zok, zLl_2, zLl_8, zLl_1, zLl_0, zLl_5, zLl_10, zLl_4, zLl_9, zLl_7, zLl_3, zLl_6]; try omega
  · rw [zln2 hn]; simp [zok, zLl_2, zLl_8, zLl_1, zLl_0, zLl_5, zLl_10, zLl_4, zLl_9, zLl_7, zLl_3, zLl_6]; try omega
  have hF3 := ci_10_F (R := (zrn (zR_10 (n + 1) R) n 0 (some (n + 1)))) (I := (zI_10 (n + 1) I)) (n := n + 47) (by omega) (hF2.up (m' := n + 48) (by omega))
  refine zg_putR (ci := 11) (k := 1) di_11_23 ⟨_, zcl_11, by decide, zw_384, rfl, rfl⟩ rfl (zat (i := 0) hn rfl) rfl ?_
  have hF4 := (hF3.up (m' := n + 93) (by omega)).rn (i := n) (k := 1) (j := n + 47) (by omega) (Or.inl (by omega))
  refine zg_aload_n di_11_26 rfl (j := 0) rfl ?_
  refine zg_iconst di_11_27 (v := 0) (by decide) ?_
  refine zg_putI (ci := 11) (k := 2) di_11_28 ⟨_, zcl_11, by decide, zw_385, rfl⟩ (zat (i := 0) hn rfl) rfl (by exact zSt_int _) ?_
  have hF5 := hF4.zu (i := n) (k := 2) (x := 0) (by omega)
  refine zg_aload_n di_11_31 rfl (j := 0) rfl ?_
  refine zg_bipush di_11_32 (v := 7) (by decide) ?_
  refine zg_newa di_11_34 xarr (by decide) (N := 7) (by decide) (by decide) (n := n + 93) (zln hn) (hF5.up (by omega)) (by omega) (by simp [zok]; try omega) (by simp [zok]; try omega) ⟨by decide, by decide⟩ (List.append_assoc _ _ _) (c2 := 93) (s2 := 1627) rfl rfl ?_
  refine zg_putR (ci := 11) (k := 3) di_11_36 ⟨_, zcl_11, by decide, zw_386, rfl, rfl⟩ rfl (zat (i := 0) hn rfl) rfl ?_
  have hF6 := (hF5.up (m' := n + 94) (by omega)).rn (i := n) (k := 3) (j := n + 93) (by omega) (Or.inl (by omega))
  refine zg_aload_n di_11_39 rfl (j := 0) rfl ?_
  refine zg_iconst di_11_40 (v := 4) (by decide) ?_
  refine zg_newa di_11_41 xarr (by decide) (N := 4) (by decide) (by decide) (n := n + 94) (zln hn) (hF6.up (by omega)) (by omega) (by simp [zok]; try omega) (by simp [zok]; try omega) ⟨by decide, by decide⟩ (List.append_assoc _ _ _) (c2 := 94) (s2 := 1631) rfl rfl ?_
  refine zg_putR (ci := 11) (k := 4) di_11_43 ⟨_, zcl_11, by decide, zw_387, rfl, rfl⟩ rfl (zat (i := 0) hn rfl) rfl ?_
  have hF7 := (hF6.up (m' := n + 95) (by omega)).rn (i := n) (k := 4) (j := n + 94) (by omega) (Or.inl (by omega))
  refine zg_aload_n di_11_46 rfl (j := 0) rfl ?_
  refine zg_iconst di_11_47 (v := 4) (by decide) ?_
  refine zg_newa di_11_48 xarr (by decide) (N := 4) (by decide) (by decide) (n := n + 95) (zln hn) (hF7.up (by omega)) (by omega) (by simp [zok]; try omega) (by simp [zok]; try omega) ⟨by decide, by decide⟩ (List.append_assoc _ _ _) (c2 := 95) (s2 := 1635) rfl rfl ?_
  refine zg_putR (ci := 11) (k := 5) di_11_50 ⟨_, zcl_11, by decide, zw_388, rfl, rfl⟩ rfl (zat (i := 0) hn rfl) rfl ?_
  have hF8 := (hF7.up (m' := n + 96) (by omega)).rn (i := n) (k := 5) (j := n + 95) (by omega) (Or.inl (by omega))
  refine zg_aload_n di_11_53 rfl (j := 0) rfl ?_
  refine zg_iconst di_11_54 (v := 4) (by decide) ?_
  refine zg_bipush di_11_55 (v := 24) (by decide) ?_
  refine zg_mna di_11_57 xw_270 xarr (N := 4) (K := 24) ⟨by decide, by decide, by decide, by decide⟩ ⟨by decide, by decide⟩ (n := n + 96) (zln hn) (hF8.up (by omega)) (by omega) (by simp [zok]; try omega) (by simp [zok]; try omega) ⟨by decide, by decide⟩ (List.append_assoc _ _ _) (c2 := 100) (s2 := 1735) rfl rfl ?_
  have hF9 := (hF8.up (m' := n + 101) (by omega)).rr (i := n + 96) (N := 4) (by omega)
  refine zg_putR (ci := 11) (k := 6) di_11_61 ⟨_, zcl_11, by decide, zw_389, rfl, rfl⟩ rfl (zat (i := 0) hn rfl) rfl ?_
  have hF10 := (hF9.up (m' := n + 101) (by omega)).rn (i := n) (k := 6) (j := n + 96) (by omega) (Or.inl (by omega))
  refine zg_aload_n di_11_64 rfl (j := 0) rfl ?_
  refine zg_new di_11_65 zcl_4 xw_271 ⟨xw_272, zw_9⟩ (n := n + 101) (zln hn) (hF10.up (by omega)) (by omega) (by simp [zok]; try omega) (by simp [zok]; try omega) ⟨by decide, by decide⟩ rfl (c2 := 101) (s2 := 1737) rfl rfl ?_
  refine zg_dup di_11_68 rfl ?_
  have hM11 := ci_4 (sh := sh ++ (((((([.inl 11] ++ zL_10) ++ zL_10) ++ [.inr (0, 7)]) ++ [.inr (0, 4)]) ++ [.inr (0, 4)]) ++ .inr (1, 4) :: List.replicate 4 (.inr (0, 24)))) (R := (zrn (zrr (zrn (zrn (zrn (zrn (zR_10 (n + 47) (zrn (zR_10 (n + 1) R) n 0 (some (n + 1)))) n 1 (some (n + 47))) n 3 (some (n + 93))) n 4 (some (n + 94))) n 5 (some (n + 95))) (n + 96) 4) n 6 (some (n + 96)))) (I := (zup (zI_10 (n + 47) (zI_10 (n + 1) I)) n 2 0)) (n := n + 101) (zln hn) (by omega) (hF10.up (by omega))
  rw [List.append_assoc sh _ zL_4] at hM11
  refine zg_initN di_11_69 cai_4 ⟨rfl, rfl⟩ (host := "TurnedLand") (by simp [zXn, yi_11, yi_4]) xw_274 hM11 ⟨by decide, by decide⟩ (Nat.le_of_ble_eq_true rfl) ⟨by decide, by decide⟩ ?_ ?_ (c2 := 103) (s2 := 1777) rfl rfl ?_
  · rw [zln2 hn]; simp [zok, zLl_2, zLl_8, zLl_1, zLl_0, zLl_5, zLl_10, zLl_4, zLl_9, zLl_7, zLl_3, zLl_6]; try omega
  · rw [zln2 hn]; simp [zok, zLl_2, zLl_8, zLl_1, zLl_0, zLl_5, zLl_10, zLl_4, zLl_9, zLl_7, zLl_3, zLl_6]; try omega
  have hF11 := ci_4_F (R := (zrn (zrr (zrn (zrn (zrn (zrn (zR_10 (n + 47) (zrn (zR_10 (n + 1) R) n 0 (some (n + 1)))) n 1 (some (n + 47))) n 3 (some (n + 93))) n 4 (some (n + 94))) n 5 (some (n + 95))) (n + 96) 4) n 6 (some (n + 96)))) (I := (zup (zI_10 (n + 47) (zI_10 (n + 1) I)) n 2 0)) (n := n + 101) (by omega) (hF10.up (m' := n + 102) (by omega))
  refine zg_putR (ci := 11) (k := 7) di_11_72 ⟨_, zcl_11, by decide, zw_390, rfl, rfl⟩ rfl (zat (i := 0) hn rfl) rfl ?_
  have hF12 := (hF11.up (m' := n + 104) (by omega)).rn (i := n) (k := 7) (j := n + 101) (by omega) (Or.inl (by omega))
  refine zg_aload_n di_11_75 rfl (j := 0) rfl ?_
  refine zg_new di_11_76 zcl_9 xw_284 ⟨xw_285, zw_10⟩ (n := n + 104) (zln hn) (hF12.up (by omega)) (by omega) (by simp [zok]; try omega) (by simp [zok]; try omega) ⟨by decide, by decide⟩ rfl (c2 := 104) (s2 := 1782) rfl rfl ?_
  refine zg_dup di_11_79 rfl ?_
  have hM13 := ci_9 (sh := sh ++ ((((((([.inl 11] ++ zL_10) ++ zL_10) ++ [.inr (0, 7)]) ++ [.inr (0, 4)]) ++ [.inr (0, 4)]) ++ .inr (1, 4) :: List.replicate 4 (.inr (0, 24))) ++ zL_4)) (R := (zrn (zR_4 (n + 101) (zrn (zrr (zrn (zrn (zrn (zrn (zR_10 (n + 47) (zrn (zR_10 (n + 1) R) n 0 (some (n + 1)))) n 1 (some (n + 47))) n 3 (some (n + 93))) n 4 (some (n + 94))) n 5 (some (n + 95))) (n + 96) 4) n 6 (some (n + 96)))) n 7 (some (n + 101)))) (I := (zI_4 (n + 101) (zup (zI_10 (n + 47) (zI_10 (n + 1) I)) n 2 0))) (n := n + 104) (zln hn) (by omega) (hF12.up (by omega))
  rw [List.append_assoc sh _ zL_9] at hM13
  refine zg_initN di_11_80 cai_9 ⟨rfl, rfl⟩ (host := "TurnedLand") (by simp [zXn, yi_11, yi_9]) xw_287 hM13 ⟨by decide, by decide⟩ (Nat.le_of_ble_eq_true rfl) ⟨by decide, by decide⟩ ?_ ?_ (c2 := 140) (s2 := 1974) rfl rfl ?_
  · rw [zln2 hn]; simp [zok, zLl_2, zLl_8, zLl_1, zLl_0, zLl_5, zLl_10, zLl_4, zLl_9, zLl_7, zLl_3, zLl_6]; try omega
  · rw [zln2 hn]; simp [zok, zLl_2, zLl_8, zLl_1, zLl_0, zLl_5, zLl_10, zLl_4, zLl_9, zLl_7, zLl_3, zLl_6]; try omega
  have hF13 := ci_9_F (R := (zrn (zR_4 (n + 101) (zrn (zrr (zrn (zrn (zrn (zrn (zR_10 (n + 47) (zrn (zR_10 (n + 1) R) n 0 (some (n + 1)))) n 1 (some (n + 47))) n 3 (some (n + 93))) n 4 (some (n + 94))) n 5 (some (n + 95))) (n + 96) 4) n 6 (some (n + 96)))) n 7 (some (n + 101)))) (I := (zI_4 (n + 101) (zup (zI_10 (n + 47) (zI_10 (n + 1) I)) n 2 0))) (n := n + 104) (by omega) (hF12.up (m' := n + 105) (by omega))
  refine zg_putR (ci := 11) (k := 8) di_11_83 ⟨_, zcl_11, by decide, zw_391, rfl, rfl⟩ rfl (zat (i := 0) hn rfl) rfl ?_
  have hF14 := (hF13.up (m' := n + 141) (by omega)).rn (i := n) (k := 8) (j := n + 104) (by omega) (Or.inl (by omega))
  refine zg_aload_n di_11_86 rfl (j := 0) rfl ?_
  refine zg_new di_11_87 zcl_9 xw_284 ⟨xw_285, zw_10⟩ (n := n + 141) (zln hn) (hF14.up (by omega)) (by omega) (by simp [zok]; try omega) (by simp [zok]; try omega) ⟨by decide, by decide⟩ rfl (c2 := 141) (s2 := 1979) rfl rfl ?_
  refine zg_dup di_11_90 rfl ?_
  have hM15 := ci_9 (sh := sh ++ (((((((([.inl 11] ++ zL_10) ++ zL_10) ++ [.inr (0, 7)]) ++ [.inr (0, 4)]) ++ [.inr (0, 4)]) ++ .inr (1, 4) :: List.replicate 4 (.inr (0, 24))) ++ zL_4) ++ zL_9)) (R := (zrn (zR_9 (n + 104) (zrn (zR_4 (n + 101) (zrn (zrr (zrn (zrn (zrn (zrn (zR_10 (n + 47) (zrn (zR_10 (n + 1) R) n 0 (some (n + 1)))) n 1 (some (n + 47))) n 3 (some (n + 93))) n 4 (some (n + 94))) n 5 (some (n + 95))) (n + 96) 4) n 6 (some (n + 96)))) n 7 (some (n + 101)))) n 8 (some (n + 104)))) (I := (zI_9 (n + 104) (zI_4 (n + 101) (zup (zI_10 (n + 47) (zI_10 (n + 1) I)) n 2 0)))) (n := n + 141) (zln hn) (by omega) (hF14.up (by omega))
  rw [List.append_assoc sh _ zL_9] at hM15
  refine zg_initN di_11_91 cai_9 ⟨rfl, rfl⟩ (host := "TurnedLand") (by simp [zXn, yi_11, yi_9]) xw_287 hM15 ⟨by decide, by decide⟩ (Nat.le_of_ble_eq_true rfl) ⟨by decide, by decide⟩ ?_ ?_ (c2 := 177) (s2 := 2171) rfl rfl ?_
  · rw [zln2 hn]; simp [zok, zLl_2, zLl_8, zLl_1, zLl_0, zLl_5, zLl_10, zLl_4, zLl_9, zLl_7, zLl_3, zLl_6]; try omega
  · rw [zln2 hn]; simp [zok, zLl_2, zLl_8, zLl_1, zLl_0, zLl_5, zLl_10, zLl_4, zLl_9, zLl_7, zLl_3, zLl_6]; try omega
  have hF15 := ci_9_F (R := (zrn (zR_9 (n + 104) (zrn (zR_4 (n + 101) (zrn (zrr (zrn (zrn (zrn (zrn (zR_10 (n + 47) (zrn (zR_10 (n + 1) R) n 0 (some (n + 1)))) n 1 (some (n + 47))) n 3 (some (n + 93))) n 4 (some (n + 94))) n 5 (some (n + 95))) (n + 96) 4) n 6 (some (n + 96)))) n 7 (some (n + 101)))) n 8 (some (n + 104)))) (I := (zI_9 (n + 104) (zI_4 (n + 101) (zup (zI_10 (n + 47) (zI_10 (n + 1) I)) n 2 0)))) (n := n + 141) (by omega) (hF14.up (m' := n + 142) (by omega))
  refine zg_putR (ci := 11) (k := 9) di_11_94 ⟨_, zcl_11, by decide, zw_392, rfl, rfl⟩ rfl (zat (i := 0) hn rfl) rfl ?_
  have hF16 := (hF15.up (m' := n + 178) (by omega)).rn (i := n) (k := 9) (j := n + 141) (by omega) (Or.inl (by omega))
  refine zg_aload_n di_11_97 rfl (j := 0) rfl ?_
  refine zg_new di_11_98 zcl_7 xw_309 ⟨xw_310, zw_11⟩ (n := n + 178) (zln hn) (hF16.up (by omega)) (by omega) (by simp [zok]; try omega) (by simp [zok]; try omega) ⟨by decide, by decide⟩ rfl (c2 := 178) (s2 := 2173) rfl rfl ?_
  refine zg_dup di_11_101 rfl ?_
  have hM17 := ci_7 (sh := sh ++ ((((((((([.inl 11] ++ zL_10) ++ zL_10) ++ [.inr (0, 7)]) ++ [.inr (0, 4)]) ++ [.inr (0, 4)]) ++ .inr (1, 4) :: List.replicate 4 (.inr (0, 24))) ++ zL_4) ++ zL_9) ++ zL_9)) (R := (zrn (zR_9 (n + 141) (zrn (zR_9 (n + 104) (zrn (zR_4 (n + 101) (zrn (zrr (zrn (zrn (zrn (zrn (zR_10 (n + 47) (zrn (zR_10 (n + 1) R) n 0 (some (n + 1)))) n 1 (some (n + 47))) n 3 (some (n + 93))) n 4 (some (n + 94))) n 5 (some (n + 95))) (n + 96) 4) n 6 (some (n + 96)))) n 7 (some (n + 101)))) n 8 (some (n + 104)))) n 9 (some (n + 141)))) (I := (zI_9 (n + 141) (zI_9 (n + 104) (zI_4 (n + 101) (zup (zI_10 (n + 47) (zI_10 (n + 1) I)) n 2 0))))) (n := n + 178) (zln hn) (by omega) (hF16.up (by omega))
  rw [List.append_assoc sh _ zL_7] at hM17
  refine zg_initN di_11_102 cai_7 ⟨rfl, rfl⟩ (host := "TurnedLand") (by simp [zXn, yi_11, yi_7]) xw_312 hM17 ⟨by decide, by decide⟩ (Nat.le_of_ble_eq_true rfl) ⟨by decide, by decide⟩ ?_ ?_ (c2 := 179) (s2 := 2182) rfl rfl ?_
  · rw [zln2 hn]; simp [zok, zLl_2, zLl_8, zLl_1, zLl_0, zLl_5, zLl_10, zLl_4, zLl_9, zLl_7, zLl_3, zLl_6]; try omega
  · rw [zln2 hn]; simp [zok, zLl_2, zLl_8, zLl_1, zLl_0, zLl_5, zLl_10, zLl_4, zLl_9, zLl_7, zLl_3, zLl_6]; try omega
  have hF17 := ci_7_F (R := (zrn (zR_9 (n + 141) (zrn (zR_9 (n + 104) (zrn (zR_4 (n + 101) (zrn (zrr (zrn (zrn (zrn (zrn (zR_10 (n + 47) (zrn (zR_10 (n + 1) R) n 0 (some (n + 1)))) n 1 (some (n + 47))) n 3 (some (n + 93))) n 4 (some (n + 94))) n 5 (some (n + 95))) (n + 96) 4) n 6 (some (n + 96)))) n 7 (some (n + 101)))) n 8 (some (n + 104)))) n 9 (some (n + 141)))) (I := (zI_9 (n + 141) (zI_9 (n + 104) (zI_4 (n + 101) (zup (zI_10 (n + 47) (zI_10 (n + 1) I)) n 2 0))))) (n := n + 178) (by omega) (hF16.up (m' := n + 179) (by omega))
  refine zg_putR (ci := 11) (k := 10) di_11_105 ⟨_, zcl_11, by decide, zw_393, rfl, rfl⟩ rfl (zat (i := 0) hn rfl) rfl ?_
  have hF18 := (hF17.up (m' := n + 180) (by omega)).rn (i := n) (k := 10) (j := n + 178) (by omega) (Or.inl (by omega))
  refine zg_aload_n di_11_108 rfl (j := 0) rfl ?_
  refine zg_new di_11_109 zcl_3 xw_323 ⟨xw_324, zw_12⟩ (n := n + 180) (zln hn) (hF18.up (by omega)) (by omega) (by simp [zok]; try omega) (by simp [zok]; try omega) ⟨by decide, by decide⟩ rfl (c2 := 180) (s2 := 2189) rfl rfl ?_
  refine zg_dup di_11_112 rfl ?_
  have hM19 := ci_3 (sh := sh ++ (((((((((([.inl 11] ++ zL_10) ++ zL_10) ++ [.inr (0, 7)]) ++ [.inr (0, 4)]) ++ [.inr (0, 4)]) ++ .inr (1, 4) :: List.replicate 4 (.inr (0, 24))) ++ zL_4) ++ zL_9) ++ zL_9) ++ zL_7)) (R := (zrn (zR_7 (n + 178) (zrn (zR_9 (n + 141) (zrn (zR_9 (n + 104) (zrn (zR_4 (n + 101) (zrn (zrr (zrn (zrn (zrn (zrn (zR_10 (n + 47) (zrn (zR_10 (n + 1) R) n 0 (some (n + 1)))) n 1 (some (n + 47))) n 3 (some (n + 93))) n 4 (some (n + 94))) n 5 (some (n + 95))) (n + 96) 4) n 6 (some (n + 96)))) n 7 (some (n + 101)))) n 8 (some (n + 104)))) n 9 (some (n + 141)))) n 10 (some (n + 178)))) (I := (zI_7 (n + 178) (zI_9 (n + 141) (zI_9 (n + 104) (zI_4 (n + 101) (zup (zI_10 (n + 47) (zI_10 (n + 1) I)) n 2 0)))))) (n := n + 180) (zln hn) (by omega) (hF18.up (by omega))
  rw [List.append_assoc sh _ zL_3] at hM19
  refine zg_initN di_11_113 cai_3 ⟨rfl, rfl⟩ (host := "TurnedLand") (by simp [zXn, yi_11, yi_3]) xw_326 hM19 ⟨by decide, by decide⟩ (Nat.le_of_ble_eq_true rfl) ⟨by decide, by decide⟩ ?_ ?_ (c2 := 183) (s2 := 2369) rfl rfl ?_
  · rw [zln2 hn]; simp [zok, zLl_2, zLl_8, zLl_1, zLl_0, zLl_5, zLl_10, zLl_4, zLl_9, zLl_7, zLl_3, zLl_6]; try omega
  · rw [zln2 hn]; simp [zok, zLl_2, zLl_8, zLl_1, zLl_0, zLl_5, zLl_10, zLl_4, zLl_9, zLl_7, zLl_3, zLl_6]; try omega
  have hF19 := ci_3_F (R := (zrn (zR_7 (n + 178) (zrn (zR_9 (n + 141) (zrn (zR_9 (n + 104) (zrn (zR_4 (n + 101) (zrn (zrr (zrn (zrn (zrn (zrn (zR_10 (n + 47) (zrn (zR_10 (n + 1) R) n 0 (some (n + 1)))) n 1 (some (n + 47))) n 3 (some (n + 93))) n 4 (some (n + 94))) n 5 (some (n + 95))) (n + 96) 4) n 6 (some (n + 96)))) n 7 (some (n + 101)))) n 8 (some (n + 104)))) n 9 (some (n + 141)))) n 10 (some (n + 178)))) (I := (zI_7 (n + 178) (zI_9 (n + 141) (zI_9 (n + 104) (zI_4 (n + 101) (zup (zI_10 (n + 47) (zI_10 (n + 1) I)) n 2 0)))))) (n := n + 180) (by omega) (hF18.up (m' := n + 181) (by omega))
  refine zg_putR (ci := 11) (k := 11) di_11_116 ⟨_, zcl_11, by decide, zw_394, rfl, rfl⟩ rfl (zat (i := 0) hn rfl) rfl ?_
  have hF20 := (hF19.up (m' := n + 184) (by omega)).rn (i := n) (k := 11) (j := n + 180) (by omega) (Or.inl (by omega))
  refine zg_aload_n di_11_119 rfl (j := 0) rfl ?_
  refine zg_new di_11_120 zcl_6 xw_355 ⟨xw_356, zw_13⟩ (n := n + 184) (zln hn) (hF20.up (by omega)) (by omega) (by simp [zok]; try omega) (by simp [zok]; try omega) ⟨by decide, by decide⟩ rfl (c2 := 184) (s2 := 2375) rfl rfl ?_
  refine zg_dup di_11_123 rfl ?_
  have hM21 := ci_6 (sh := sh ++ ((((((((((([.inl 11] ++ zL_10) ++ zL_10) ++ [.inr (0, 7)]) ++ [.inr (0, 4)]) ++ [.inr (0, 4)]) ++ .inr (1, 4) :: List.replicate 4 (.inr (0, 24))) ++ zL_4) ++ zL_9) ++ zL_9) ++ zL_7) ++ zL_3)) (R := (zrn (zR_3 (n + 180) (zrn (zR_7 (n + 178) (zrn (zR_9 (n + 141) (zrn (zR_9 (n + 104) (zrn (zR_4 (n + 101) (zrn (zrr (zrn (zrn (zrn (zrn (zR_10 (n + 47) (zrn (zR_10 (n + 1) R) n 0 (some (n + 1)))) n 1 (some (n + 47))) n 3 (some (n + 93))) n 4 (some (n + 94))) n 5 (some (n + 95))) (n + 96) 4) n 6 (some (n + 96)))) n 7 (some (n + 101)))) n 8 (some (n + 104)))) n 9 (some (n + 141)))) n 10 (some (n + 178)))) n 11 (some (n + 180)))) (I := (zI_3 (n + 180) (zI_7 (n + 178) (zI_9 (n + 141) (zI_9 (n + 104) (zI_4 (n + 101) (zup (zI_10 (n + 47) (zI_10 (n + 1) I)) n 2 0))))))) (n := n + 184) (zln hn) (by omega) (hF20.up (by omega))
  rw [List.append_assoc sh _ zL_6] at hM21
  refine zg_initN di_11_124 cai_6 ⟨rfl, rfl⟩ (host := "TurnedLand") (by simp [zXn, yi_11, yi_6]) xw_358 hM21 ⟨by decide, by decide⟩ (Nat.le_of_ble_eq_true rfl) ⟨by decide, by decide⟩ ?_ ?_ (c2 := 185) (s2 := 2405) rfl rfl ?_
  · rw [zln2 hn]; simp [zok, zLl_2, zLl_8, zLl_1, zLl_0, zLl_5, zLl_10, zLl_4, zLl_9, zLl_7, zLl_3, zLl_6]; try omega
  · rw [zln2 hn]; simp [zok, zLl_2, zLl_8, zLl_1, zLl_0, zLl_5, zLl_10, zLl_4, zLl_9, zLl_7, zLl_3, zLl_6]; try omega
  have hF21 := ci_6_F (R := (zrn (zR_3 (n + 180) (zrn (zR_7 (n + 178) (zrn (zR_9 (n + 141) (zrn (zR_9 (n + 104) (zrn (zR_4 (n + 101) (zrn (zrr (zrn (zrn (zrn (zrn (zR_10 (n + 47) (zrn (zR_10 (n + 1) R) n 0 (some (n + 1)))) n 1 (some (n + 47))) n 3 (some (n + 93))) n 4 (some (n + 94))) n 5 (some (n + 95))) (n + 96) 4) n 6 (some (n + 96)))) n 7 (some (n + 101)))) n 8 (some (n + 104)))) n 9 (some (n + 141)))) n 10 (some (n + 178)))) n 11 (some (n + 180)))) (I := (zI_3 (n + 180) (zI_7 (n + 178) (zI_9 (n + 141) (zI_9 (n + 104) (zI_4 (n + 101) (zup (zI_10 (n + 47) (zI_10 (n + 1) I)) n 2 0))))))) (n := n + 184) (by omega) (hF20.up (m' := n + 185) (by omega))
  refine zg_putR (ci := 11) (k := 12) di_11_127 ⟨_, zcl_11, by decide, zw_395, rfl, rfl⟩ rfl (zat (i := 0) hn rfl) rfl ?_
  have hF22 := (hF21.up (m' := n + 186) (by omega)).rn (i := n) (k := 12) (j := n + 184) (by omega) (Or.inl (by omega))
  exact zg_vret di_11_130 rfl
def yi_12 : zMt := (⟨"TurnedLandModel", "<init>", "()V"⟩, prog_14_method_1_code, 1, none)
theorem cai_12 : zCallee yi_12 0 := ⟨xw_1028, zw_14, by decide +kernel, by decide +kernel, by decide +kernel⟩
theorem di_12_0 : zD prog_14_method_1_code 0 (.aload_n 0) 1 1 := ⟨by decide +kernel, rfl⟩
theorem di_12_1 : zD prog_14_method_1_code 1 (.invokespecial 3) 3 4 := ⟨by decide +kernel, rfl⟩
theorem di_12_4 : zD prog_14_method_1_code 4 (.aload_n 0) 1 5 := ⟨by decide +kernel, rfl⟩
theorem di_12_5 : zD prog_14_method_1_code 5 (.sipush 448) 3 8 := ⟨by decide +kernel, rfl⟩
theorem di_12_8 : zD prog_14_method_1_code 8 (.newarray .int) 2 10 := ⟨by decide +kernel, rfl⟩
theorem di_12_10 : zD prog_14_method_1_code 10 (.putfield 9) 3 13 := ⟨by decide +kernel, rfl⟩
theorem di_12_13 : zD prog_14_method_1_code 13 (.aload_n 0) 1 14 := ⟨by decide +kernel, rfl⟩
theorem di_12_14 : zD prog_14_method_1_code 14 (.sipush 448) 3 17 := ⟨by decide +kernel, rfl⟩
theorem di_12_17 : zD prog_14_method_1_code 17 (.newarray .int) 2 19 := ⟨by decide +kernel, rfl⟩
theorem di_12_19 : zD prog_14_method_1_code 19 (.putfield 13) 3 22 := ⟨by decide +kernel, rfl⟩
theorem di_12_22 : zD prog_14_method_1_code 22 (.aload_n 0) 1 23 := ⟨by decide +kernel, rfl⟩
theorem di_12_23 : zD prog_14_method_1_code 23 (.bipush 7) 2 25 := ⟨by decide +kernel, rfl⟩
theorem di_12_25 : zD prog_14_method_1_code 25 (.newarray .int) 2 27 := ⟨by decide +kernel, rfl⟩
theorem di_12_27 : zD prog_14_method_1_code 27 (.putfield 16) 3 30 := ⟨by decide +kernel, rfl⟩
theorem di_12_30 : zD prog_14_method_1_code 30 (.aload_n 0) 1 31 := ⟨by decide +kernel, rfl⟩
theorem di_12_31 : zD prog_14_method_1_code 31 (.bipush 32) 2 33 := ⟨by decide +kernel, rfl⟩
theorem di_12_33 : zD prog_14_method_1_code 33 (.newarray .int) 2 35 := ⟨by decide +kernel, rfl⟩
theorem di_12_35 : zD prog_14_method_1_code 35 (.putfield 19) 3 38 := ⟨by decide +kernel, rfl⟩
theorem di_12_38 : zD prog_14_method_1_code 38 (.aload_n 0) 1 39 := ⟨by decide +kernel, rfl⟩
theorem di_12_39 : zD prog_14_method_1_code 39 (.iconst 2) 1 40 := ⟨by decide +kernel, rfl⟩
theorem di_12_40 : zD prog_14_method_1_code 40 (.anewarray 22) 3 43 := ⟨by decide +kernel, rfl⟩
theorem di_12_43 : zD prog_14_method_1_code 43 (.dup) 1 44 := ⟨by decide +kernel, rfl⟩
theorem di_12_44 : zD prog_14_method_1_code 44 (.iconst 0) 1 45 := ⟨by decide +kernel, rfl⟩
theorem di_12_45 : zD prog_14_method_1_code 45 (.ldc 24) 2 47 := ⟨by decide +kernel, rfl⟩
theorem di_12_47 : zD prog_14_method_1_code 47 (.aastore) 1 48 := ⟨by decide +kernel, rfl⟩
theorem di_12_48 : zD prog_14_method_1_code 48 (.dup) 1 49 := ⟨by decide +kernel, rfl⟩
theorem di_12_49 : zD prog_14_method_1_code 49 (.iconst 1) 1 50 := ⟨by decide +kernel, rfl⟩
theorem di_12_50 : zD prog_14_method_1_code 50 (.ldc 26) 2 52 := ⟨by decide +kernel, rfl⟩
theorem di_12_52 : zD prog_14_method_1_code 52 (.aastore) 1 53 := ⟨by decide +kernel, rfl⟩
theorem di_12_53 : zD prog_14_method_1_code 53 (.putfield 28) 3 56 := ⟨by decide +kernel, rfl⟩
theorem di_12_56 : zD prog_14_method_1_code 56 (.aload_n 0) 1 57 := ⟨by decide +kernel, rfl⟩
theorem di_12_57 : zD prog_14_method_1_code 57 (.bipush 60) 2 59 := ⟨by decide +kernel, rfl⟩
theorem di_12_59 : zD prog_14_method_1_code 59 (.newarray .int) 2 61 := ⟨by decide +kernel, rfl⟩
theorem di_12_61 : zD prog_14_method_1_code 61 (.putfield 32) 3 64 := ⟨by decide +kernel, rfl⟩
theorem di_12_64 : zD prog_14_method_1_code 64 (.aload_n 0) 1 65 := ⟨by decide +kernel, rfl⟩
theorem di_12_65 : zD prog_14_method_1_code 65 (.iconst 4) 1 66 := ⟨by decide +kernel, rfl⟩
theorem di_12_66 : zD prog_14_method_1_code 66 (.newarray .int) 2 68 := ⟨by decide +kernel, rfl⟩
theorem di_12_68 : zD prog_14_method_1_code 68 (.putfield 35) 3 71 := ⟨by decide +kernel, rfl⟩
theorem di_12_71 : zD prog_14_method_1_code 71 (.aload_n 0) 1 72 := ⟨by decide +kernel, rfl⟩
theorem di_12_72 : zD prog_14_method_1_code 72 (.bipush 60) 2 74 := ⟨by decide +kernel, rfl⟩
theorem di_12_74 : zD prog_14_method_1_code 74 (.newarray .int) 2 76 := ⟨by decide +kernel, rfl⟩
theorem di_12_76 : zD prog_14_method_1_code 76 (.putfield 38) 3 79 := ⟨by decide +kernel, rfl⟩
theorem di_12_79 : zD prog_14_method_1_code 79 (.aload_n 0) 1 80 := ⟨by decide +kernel, rfl⟩
theorem di_12_80 : zD prog_14_method_1_code 80 (.bipush 16) 2 82 := ⟨by decide +kernel, rfl⟩
theorem di_12_82 : zD prog_14_method_1_code 82 (.newarray .int) 2 84 := ⟨by decide +kernel, rfl⟩
theorem di_12_84 : zD prog_14_method_1_code 84 (.putfield 41) 3 87 := ⟨by decide +kernel, rfl⟩
theorem di_12_87 : zD prog_14_method_1_code 87 (.aload_n 0) 1 88 := ⟨by decide +kernel, rfl⟩
theorem di_12_88 : zD prog_14_method_1_code 88 (.bipush 64) 2 90 := ⟨by decide +kernel, rfl⟩
theorem di_12_90 : zD prog_14_method_1_code 90 (.newarray .int) 2 92 := ⟨by decide +kernel, rfl⟩
theorem di_12_92 : zD prog_14_method_1_code 92 (.putfield 44) 3 95 := ⟨by decide +kernel, rfl⟩
theorem di_12_95 : zD prog_14_method_1_code 95 (.aload_n 0) 1 96 := ⟨by decide +kernel, rfl⟩
theorem di_12_96 : zD prog_14_method_1_code 96 (.bipush 30) 2 98 := ⟨by decide +kernel, rfl⟩
theorem di_12_98 : zD prog_14_method_1_code 98 (.newarray .int) 2 100 := ⟨by decide +kernel, rfl⟩
theorem di_12_100 : zD prog_14_method_1_code 100 (.putfield 47) 3 103 := ⟨by decide +kernel, rfl⟩
theorem di_12_103 : zD prog_14_method_1_code 103 (.aload_n 0) 1 104 := ⟨by decide +kernel, rfl⟩
theorem di_12_104 : zD prog_14_method_1_code 104 (.iconst 4) 1 105 := ⟨by decide +kernel, rfl⟩
theorem di_12_105 : zD prog_14_method_1_code 105 (.newarray .int) 2 107 := ⟨by decide +kernel, rfl⟩
theorem di_12_107 : zD prog_14_method_1_code 107 (.putfield 50) 3 110 := ⟨by decide +kernel, rfl⟩
theorem di_12_110 : zD prog_14_method_1_code 110 (.aload_n 0) 1 111 := ⟨by decide +kernel, rfl⟩
theorem di_12_111 : zD prog_14_method_1_code 111 (.iconst 4) 1 112 := ⟨by decide +kernel, rfl⟩
theorem di_12_112 : zD prog_14_method_1_code 112 (.newarray .int) 2 114 := ⟨by decide +kernel, rfl⟩
theorem di_12_114 : zD prog_14_method_1_code 114 (.putfield 53) 3 117 := ⟨by decide +kernel, rfl⟩
theorem di_12_117 : zD prog_14_method_1_code 117 (.aload_n 0) 1 118 := ⟨by decide +kernel, rfl⟩
theorem di_12_118 : zD prog_14_method_1_code 118 (.bipush 96) 2 120 := ⟨by decide +kernel, rfl⟩
theorem di_12_120 : zD prog_14_method_1_code 120 (.newarray .int) 2 122 := ⟨by decide +kernel, rfl⟩
theorem di_12_122 : zD prog_14_method_1_code 122 (.putfield 56) 3 125 := ⟨by decide +kernel, rfl⟩
theorem di_12_125 : zD prog_14_method_1_code 125 (.aload_n 0) 1 126 := ⟨by decide +kernel, rfl⟩
theorem di_12_126 : zD prog_14_method_1_code 126 (.bipush 24) 2 128 := ⟨by decide +kernel, rfl⟩
theorem di_12_128 : zD prog_14_method_1_code 128 (.newarray .int) 2 130 := ⟨by decide +kernel, rfl⟩
theorem di_12_130 : zD prog_14_method_1_code 130 (.putfield 59) 3 133 := ⟨by decide +kernel, rfl⟩
theorem di_12_133 : zD prog_14_method_1_code 133 (.aload_n 0) 1 134 := ⟨by decide +kernel, rfl⟩
theorem di_12_134 : zD prog_14_method_1_code 134 (.getfield 9) 3 137 := ⟨by decide +kernel, rfl⟩
theorem di_12_137 : zD prog_14_method_1_code 137 (.bipush 8) 2 139 := ⟨by decide +kernel, rfl⟩
theorem di_12_139 : zD prog_14_method_1_code 139 (.iconst 1) 1 140 := ⟨by decide +kernel, rfl⟩
theorem di_12_140 : zD prog_14_method_1_code 140 (.iastore) 1 141 := ⟨by decide +kernel, rfl⟩
theorem di_12_141 : zD prog_14_method_1_code 141 (.return_) 1 142 := ⟨by decide +kernel, rfl⟩
def zL_12 : List zK := ((((((((((((((([.inl 12] ++ [.inr (0, 448)]) ++ [.inr (0, 448)]) ++ [.inr (0, 7)]) ++ [.inr (0, 32)]) ++ [.inr (2, 2)]) ++ [.inr (0, 60)]) ++ [.inr (0, 4)]) ++ [.inr (0, 60)]) ++ [.inr (0, 16)]) ++ [.inr (0, 64)]) ++ [.inr (0, 30)]) ++ [.inr (0, 4)]) ++ [.inr (0, 4)]) ++ [.inr (0, 96)]) ++ [.inr (0, 24)])
set_option maxRecDepth 20000 in
theorem zLl_12 : zL_12.length = 16 := by decide
def zR_12 (n : Nat) (R : zRf) : zRf := (zrn (zrn (zrn (zrn (zrn (zrn (zrn (zrn (zrn (zrn (zrn (zrn (zrn (zrn (zrn (zrn (zrn R n 0 (some (n + 1))) n 1 (some (n + 2))) n 3 (some (n + 3))) n 4 (some (n + 4))) (n + 5) 0 (some 100010)) (n + 5) 1 (some 100011)) n 5 (some (n + 5))) n 10 (some (n + 6))) n 12 (some (n + 7))) n 13 (some (n + 8))) n 16 (some (n + 9))) n 22 (some (n + 10))) n 24 (some (n + 11))) n 28 (some (n + 12))) n 29 (some (n + 13))) n 30 (some (n + 14))) n 31 (some (n + 15)))
def zI_12 (n : Nat) (I : zI) : zI := (zup I (n + 1) 8 1)
theorem ci_12_F {R : zRf} {I : zI} {n : Nat} (hn2 : n + 16 < 100000) (hF : zFr (n + 1) R I) : zFr (n + 16) (zR_12 n R) (zI_12 n I) := by
  have hF1 := (hF.up (m' := n + 2) (by omega)).rn (i := n) (k := 0) (j := n + 1) (by omega) (Or.inl (by omega))
  have hF2 := (hF1.up (m' := n + 3) (by omega)).rn (i := n) (k := 1) (j := n + 2) (by omega) (Or.inl (by omega))
  have hF3 := (hF2.up (m' := n + 4) (by omega)).rn (i := n) (k := 3) (j := n + 3) (by omega) (Or.inl (by omega))
  have hF4 := (hF3.up (m' := n + 5) (by omega)).rn (i := n) (k := 4) (j := n + 4) (by omega) (Or.inl (by omega))
  have hF5 := (hF4.up (m' := n + 6) (by omega)).rn (i := n + 5) (k := 0) (j := 100010) (by omega) (Or.inr (by omega))
  have hF6 := (hF5.up (m' := n + 6) (by omega)).rn (i := n + 5) (k := 1) (j := 100011) (by omega) (Or.inr (by omega))
  have hF7 := (hF6.up (m' := n + 6) (by omega)).rn (i := n) (k := 5) (j := n + 5) (by omega) (Or.inl (by omega))
  have hF8 := (hF7.up (m' := n + 7) (by omega)).rn (i := n) (k := 10) (j := n + 6) (by omega) (Or.inl (by omega))
  have hF9 := (hF8.up (m' := n + 8) (by omega)).rn (i := n) (k := 12) (j := n + 7) (by omega) (Or.inl (by omega))
  have hF10 := (hF9.up (m' := n + 9) (by omega)).rn (i := n) (k := 13) (j := n + 8) (by omega) (Or.inl (by omega))
  have hF11 := (hF10.up (m' := n + 10) (by omega)).rn (i := n) (k := 16) (j := n + 9) (by omega) (Or.inl (by omega))
  have hF12 := (hF11.up (m' := n + 11) (by omega)).rn (i := n) (k := 22) (j := n + 10) (by omega) (Or.inl (by omega))
  have hF13 := (hF12.up (m' := n + 12) (by omega)).rn (i := n) (k := 24) (j := n + 11) (by omega) (Or.inl (by omega))
  have hF14 := (hF13.up (m' := n + 13) (by omega)).rn (i := n) (k := 28) (j := n + 12) (by omega) (Or.inl (by omega))
  have hF15 := (hF14.up (m' := n + 14) (by omega)).rn (i := n) (k := 29) (j := n + 13) (by omega) (Or.inl (by omega))
  have hF16 := (hF15.up (m' := n + 15) (by omega)).rn (i := n) (k := 30) (j := n + 14) (by omega) (Or.inl (by omega))
  have hF17 := (hF16.up (m' := n + 16) (by omega)).rn (i := n) (k := 31) (j := n + 15) (by omega) (Or.inl (by omega))
  have hF18 := (hF17.up (m' := n + 16) (by omega)).zu (i := n + 1) (k := 8) (x := 1) (by omega)
  exact hF18
set_option maxRecDepth 20000 in
theorem ci_12 {sh : List zK} {R : zRf} {I : zI} {n : Nat} (hn : sh.length = n) (hn2 : n + 16 < 100000) (hF : zFr (n + 1) R I) : zM 1 yi_12 [.inr (.inr (some n))] (sh ++ [.inl 12], R, I) none (sh ++ zL_12, zR_12 n R, zI_12 n I) 15 1299 := by
  refine zM_of (by decide) (Nat.le_of_ble_eq_true rfl) (lv := [(0, .inr (.inr (some n)))]) rfl ?_
  refine zg_aload_n di_12_0 rfl (j := 0) rfl ?_
  refine zg_obj di_12_1 xw_1029 xobj (by decide) (by decide) ?_
  refine zg_aload_n di_12_4 rfl (j := 0) rfl ?_
  refine zg_sipush di_12_5 (v := 448) (by decide) ?_
  refine zg_newa di_12_8 xarr (by decide) (N := 448) (by decide) (by decide) (n := n + 1) (zln hn) (hF.up (by omega)) (by omega) (by simp [zok]; try omega) (by simp [zok]; try omega) ⟨by decide, by decide⟩ (List.append_assoc _ _ _) (c2 := 1) (s2 := 448) rfl rfl ?_
  refine zg_putR (ci := 12) (k := 0) di_12_10 ⟨_, zcl_12, by decide, zw_1034, rfl, rfl⟩ rfl (zat (i := 0) hn rfl) rfl ?_
  have hF1 := (hF.up (m' := n + 2) (by omega)).rn (i := n) (k := 0) (j := n + 1) (by omega) (Or.inl (by omega))
  refine zg_aload_n di_12_13 rfl (j := 0) rfl ?_
  refine zg_sipush di_12_14 (v := 448) (by decide) ?_
  refine zg_newa di_12_17 xarr (by decide) (N := 448) (by decide) (by decide) (n := n + 2) (zln hn) (hF1.up (by omega)) (by omega) (by simp [zok]; try omega) (by simp [zok]; try omega) ⟨by decide, by decide⟩ (List.append_assoc _ _ _) (c2 := 2) (s2 := 896) rfl rfl ?_
  refine zg_putR (ci := 12) (k := 1) di_12_19 ⟨_, zcl_12, by decide, zw_1035, rfl, rfl⟩ rfl (zat (i := 0) hn rfl) rfl ?_
  have hF2 := (hF1.up (m' := n + 3) (by omega)).rn (i := n) (k := 1) (j := n + 2) (by omega) (Or.inl (by omega))
  refine zg_aload_n di_12_22 rfl (j := 0) rfl ?_
  refine zg_bipush di_12_23 (v := 7) (by decide) ?_
  refine zg_newa di_12_25 xarr (by decide) (N := 7) (by decide) (by decide) (n := n + 3) (zln hn) (hF2.up (by omega)) (by omega) (by simp [zok]; try omega) (by simp [zok]; try omega) ⟨by decide, by decide⟩ (List.append_assoc _ _ _) (c2 := 3) (s2 := 903) rfl rfl ?_
  refine zg_putR (ci := 12) (k := 3) di_12_27 ⟨_, zcl_12, by decide, zw_1037, rfl, rfl⟩ rfl (zat (i := 0) hn rfl) rfl ?_
  have hF3 := (hF2.up (m' := n + 4) (by omega)).rn (i := n) (k := 3) (j := n + 3) (by omega) (Or.inl (by omega))
  refine zg_aload_n di_12_30 rfl (j := 0) rfl ?_
  refine zg_bipush di_12_31 (v := 32) (by decide) ?_
  refine zg_newa di_12_33 xarr (by decide) (N := 32) (by decide) (by decide) (n := n + 4) (zln hn) (hF3.up (by omega)) (by omega) (by simp [zok]; try omega) (by simp [zok]; try omega) ⟨by decide, by decide⟩ (List.append_assoc _ _ _) (c2 := 4) (s2 := 935) rfl rfl ?_
  refine zg_putR (ci := 12) (k := 4) di_12_35 ⟨_, zcl_12, by decide, zw_1038, rfl, rfl⟩ rfl (zat (i := 0) hn rfl) rfl ?_
  have hF4 := (hF3.up (m' := n + 5) (by omega)).rn (i := n) (k := 4) (j := n + 4) (by omega) (Or.inl (by omega))
  refine zg_aload_n di_12_38 rfl (j := 0) rfl ?_
  refine zg_iconst di_12_39 (v := 2) (by decide) ?_
  refine zg_anewS di_12_40 xw_1030 (by decide) (N := 2) (by decide) (by decide) (n := n + 5) (zln hn) (hF4.up (by omega)) (by omega) (by simp [zok]; try omega) (by simp [zok]; try omega) ⟨by decide, by decide⟩ (List.append_assoc _ _ _) (c2 := 5) (s2 := 937) rfl rfl ?_
  refine zg_dup di_12_43 rfl ?_
  refine zg_iconst di_12_44 (v := 0) (by decide) ?_
  refine zg_ldcS di_12_45 rfl (a := 100010) (by decide) ?_
  refine zg_aastX di_12_47 (zat (i := 5) hn rfl) (n := 2) (by decide) (by simp [zXo]) ?_
  rw [show Int32.toNatClampNeg 0 = 0 from by decide]
  have hF5 := (hF4.up (m' := n + 6) (by omega)).rn (i := n + 5) (k := 0) (j := 100010) (by omega) (Or.inr (by omega))
  refine zg_dup di_12_48 rfl ?_
  refine zg_iconst di_12_49 (v := 1) (by decide) ?_
  refine zg_ldcS di_12_50 rfl (a := 100011) (by decide) ?_
  refine zg_aastX di_12_52 (zat (i := 5) hn rfl) (n := 2) (by decide) (by simp [zXo]) ?_
  rw [show Int32.toNatClampNeg 1 = 1 from by decide]
  have hF6 := (hF5.up (m' := n + 6) (by omega)).rn (i := n + 5) (k := 1) (j := 100011) (by omega) (Or.inr (by omega))
  refine zg_putR (ci := 12) (k := 5) di_12_53 ⟨_, zcl_12, by decide, zw_1039, rfl, rfl⟩ rfl (zat (i := 0) hn rfl) rfl ?_
  have hF7 := (hF6.up (m' := n + 6) (by omega)).rn (i := n) (k := 5) (j := n + 5) (by omega) (Or.inl (by omega))
  refine zg_aload_n di_12_56 rfl (j := 0) rfl ?_
  refine zg_bipush di_12_57 (v := 60) (by decide) ?_
  refine zg_newa di_12_59 xarr (by decide) (N := 60) (by decide) (by decide) (n := n + 6) (zln hn) (hF7.up (by omega)) (by omega) (by simp [zok]; try omega) (by simp [zok]; try omega) ⟨by decide, by decide⟩ (List.append_assoc _ _ _) (c2 := 6) (s2 := 997) rfl rfl ?_
  refine zg_putR (ci := 12) (k := 10) di_12_61 ⟨_, zcl_12, by decide, zw_1044, rfl, rfl⟩ rfl (zat (i := 0) hn rfl) rfl ?_
  have hF8 := (hF7.up (m' := n + 7) (by omega)).rn (i := n) (k := 10) (j := n + 6) (by omega) (Or.inl (by omega))
  refine zg_aload_n di_12_64 rfl (j := 0) rfl ?_
  refine zg_iconst di_12_65 (v := 4) (by decide) ?_
  refine zg_newa di_12_66 xarr (by decide) (N := 4) (by decide) (by decide) (n := n + 7) (zln hn) (hF8.up (by omega)) (by omega) (by simp [zok]; try omega) (by simp [zok]; try omega) ⟨by decide, by decide⟩ (List.append_assoc _ _ _) (c2 := 7) (s2 := 1001) rfl rfl ?_
  refine zg_putR (ci := 12) (k := 12) di_12_68 ⟨_, zcl_12, by decide, zw_1046, rfl, rfl⟩ rfl (zat (i := 0) hn rfl) rfl ?_
  have hF9 := (hF8.up (m' := n + 8) (by omega)).rn (i := n) (k := 12) (j := n + 7) (by omega) (Or.inl (by omega))
  refine zg_aload_n di_12_71 rfl (j := 0) rfl ?_
  refine zg_bipush di_12_72 (v := 60) (by decide) ?_
  refine zg_newa di_12_74 xarr (by decide) (N := 60) (by decide) (by decide) (n := n + 8) (zln hn) (hF9.up (by omega)) (by omega) (by simp [zok]; try omega) (by simp [zok]; try omega) ⟨by decide, by decide⟩ (List.append_assoc _ _ _) (c2 := 8) (s2 := 1061) rfl rfl ?_
  refine zg_putR (ci := 12) (k := 13) di_12_76 ⟨_, zcl_12, by decide, zw_1047, rfl, rfl⟩ rfl (zat (i := 0) hn rfl) rfl ?_
  have hF10 := (hF9.up (m' := n + 9) (by omega)).rn (i := n) (k := 13) (j := n + 8) (by omega) (Or.inl (by omega))
  refine zg_aload_n di_12_79 rfl (j := 0) rfl ?_
  refine zg_bipush di_12_80 (v := 16) (by decide) ?_
  refine zg_newa di_12_82 xarr (by decide) (N := 16) (by decide) (by decide) (n := n + 9) (zln hn) (hF10.up (by omega)) (by omega) (by simp [zok]; try omega) (by simp [zok]; try omega) ⟨by decide, by decide⟩ (List.append_assoc _ _ _) (c2 := 9) (s2 := 1077) rfl rfl ?_
  refine zg_putR (ci := 12) (k := 16) di_12_84 ⟨_, zcl_12, by decide, zw_1050, rfl, rfl⟩ rfl (zat (i := 0) hn rfl) rfl ?_
  have hF11 := (hF10.up (m' := n + 10) (by omega)).rn (i := n) (k := 16) (j := n + 9) (by omega) (Or.inl (by omega))
  refine zg_aload_n di_12_87 rfl (j := 0) rfl ?_
  refine zg_bipush di_12_88 (v := 64) (by decide) ?_
  refine zg_newa di_12_90 xarr (by decide) (N := 64) (by decide) (by decide) (n := n + 10) (zln hn) (hF11.up (by omega)) (by omega) (by simp [zok]; try omega) (by simp [zok]; try omega) ⟨by decide, by decide⟩ (List.append_assoc _ _ _) (c2 := 10) (s2 := 1141) rfl rfl ?_
  refine zg_putR (ci := 12) (k := 22) di_12_92 ⟨_, zcl_12, by decide, zw_1056, rfl, rfl⟩ rfl (zat (i := 0) hn rfl) rfl ?_
  have hF12 := (hF11.up (m' := n + 11) (by omega)).rn (i := n) (k := 22) (j := n + 10) (by omega) (Or.inl (by omega))
  refine zg_aload_n di_12_95 rfl (j := 0) rfl ?_
  refine zg_bipush di_12_96 (v := 30) (by decide) ?_
  refine zg_newa di_12_98 xarr (by decide) (N := 30) (by decide) (by decide) (n := n + 11) (zln hn) (hF12.up (by omega)) (by omega) (by simp [zok]; try omega) (by simp [zok]; try omega) ⟨by decide, by decide⟩ (List.append_assoc _ _ _) (c2 := 11) (s2 := 1171) rfl rfl ?_
  refine zg_putR (ci := 12) (k := 24) di_12_100 ⟨_, zcl_12, by decide, zw_1058, rfl, rfl⟩ rfl (zat (i := 0) hn rfl) rfl ?_
  have hF13 := (hF12.up (m' := n + 12) (by omega)).rn (i := n) (k := 24) (j := n + 11) (by omega) (Or.inl (by omega))
  refine zg_aload_n di_12_103 rfl (j := 0) rfl ?_
  refine zg_iconst di_12_104 (v := 4) (by decide) ?_
  refine zg_newa di_12_105 xarr (by decide) (N := 4) (by decide) (by decide) (n := n + 12) (zln hn) (hF13.up (by omega)) (by omega) (by simp [zok]; try omega) (by simp [zok]; try omega) ⟨by decide, by decide⟩ (List.append_assoc _ _ _) (c2 := 12) (s2 := 1175) rfl rfl ?_
  refine zg_putR (ci := 12) (k := 28) di_12_107 ⟨_, zcl_12, by decide, zw_1062, rfl, rfl⟩ rfl (zat (i := 0) hn rfl) rfl ?_
  have hF14 := (hF13.up (m' := n + 13) (by omega)).rn (i := n) (k := 28) (j := n + 12) (by omega) (Or.inl (by omega))
  refine zg_aload_n di_12_110 rfl (j := 0) rfl ?_
  refine zg_iconst di_12_111 (v := 4) (by decide) ?_
  refine zg_newa di_12_112 xarr (by decide) (N := 4) (by decide) (by decide) (n := n + 13) (zln hn) (hF14.up (by omega)) (by omega) (by simp [zok]; try omega) (by simp [zok]; try omega) ⟨by decide, by decide⟩ (List.append_assoc _ _ _) (c2 := 13) (s2 := 1179) rfl rfl ?_
  refine zg_putR (ci := 12) (k := 29) di_12_114 ⟨_, zcl_12, by decide, zw_1063, rfl, rfl⟩ rfl (zat (i := 0) hn rfl) rfl ?_
  have hF15 := (hF14.up (m' := n + 14) (by omega)).rn (i := n) (k := 29) (j := n + 13) (by omega) (Or.inl (by omega))
  refine zg_aload_n di_12_117 rfl (j := 0) rfl ?_
  refine zg_bipush di_12_118 (v := 96) (by decide) ?_
  refine zg_newa di_12_120 xarr (by decide) (N := 96) (by decide) (by decide) (n := n + 14) (zln hn) (hF15.up (by omega)) (by omega) (by simp [zok]; try omega) (by simp [zok]; try omega) ⟨by decide, by decide⟩ (List.append_assoc _ _ _) (c2 := 14) (s2 := 1275) rfl rfl ?_
  refine zg_putR (ci := 12) (k := 30) di_12_122 ⟨_, zcl_12, by decide, zw_1064, rfl, rfl⟩ rfl (zat (i := 0) hn rfl) rfl ?_
  have hF16 := (hF15.up (m' := n + 15) (by omega)).rn (i := n) (k := 30) (j := n + 14) (by omega) (Or.inl (by omega))
  refine zg_aload_n di_12_125 rfl (j := 0) rfl ?_
  refine zg_bipush di_12_126 (v := 24) (by decide) ?_
  refine zg_newa di_12_128 xarr (by decide) (N := 24) (by decide) (by decide) (n := n + 15) (zln hn) (hF16.up (by omega)) (by omega) (by simp [zok]; try omega) (by simp [zok]; try omega) ⟨by decide, by decide⟩ (List.append_assoc _ _ _) (c2 := 15) (s2 := 1299) rfl rfl ?_
  refine zg_putR (ci := 12) (k := 31) di_12_130 ⟨_, zcl_12, by decide, zw_1065, rfl, rfl⟩ rfl (zat (i := 0) hn rfl) rfl ?_
  have hF17 := (hF16.up (m' := n + 16) (by omega)).rn (i := n) (k := 31) (j := n + 15) (by omega) (Or.inl (by omega))
  refine zg_aload_n di_12_133 rfl (j := 0) rfl ?_
  refine zg_getR (ci := 12) (k := 0) di_12_134 ⟨_, zcl_12, by decide, zw_1034⟩ (zat (i := 0) hn rfl) rfl (j := n + 1) (by simp [zrn]) ?_
  refine zg_bipush di_12_137 (v := 8) (by decide) ?_
  refine zg_iconst di_12_139 (v := 1) (by decide) ?_
  refine zg_iast di_12_140 (zat (i := 1) hn rfl) (n := 448) (by decide) ?_
  rw [show Int32.toNatClampNeg 8 = 8 from by decide]
  have hF18 := (hF17.up (m' := n + 16) (by omega)).zu (i := n + 1) (k := 8) (x := 1) (by omega)
  exact zg_vret di_12_141 rfl
