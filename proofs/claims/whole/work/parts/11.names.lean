/-- the good words of the tables: every method's words -/
def lw_good : List Cond := lw_tbl.filter goodWord
theorem am_in1 {w : Cond} (j : Nat) (h : tables_1_1[j]? = some w) (g : goodWord w = true) : w ∈ lw_good := List.mem_filter.mpr ⟨List.mem_append_right _ (List.mem_append_left _ (List.mem_of_getElem? h)), g⟩
theorem am_in2 {w : Cond} (j : Nat) (h : tables_1_2[j]? = some w) (g : goodWord w = true) : w ∈ lw_good := List.mem_filter.mpr ⟨List.mem_append_right _ (List.mem_append_right _ (List.mem_append_left _ (List.mem_of_getElem? h))), g⟩
theorem am_in3 {w : Cond} (j : Nat) (h : tables_1_3[j]? = some w) (g : goodWord w = true) : w ∈ lw_good := List.mem_filter.mpr ⟨List.mem_append_right _ (List.mem_append_right _ (List.mem_append_right _ (List.mem_of_getElem? h))), g⟩
theorem am_inS {q : MethodName × Nat} (h : q ∈ lw_privs) : Cond.selects q.1.cls q.1 q.1 ∈ lw_good := List.mem_filter.mpr ⟨List.mem_append_left _ (List.mem_map.mpr ⟨q, h, rfl⟩), rfl⟩
theorem am_gd {c0 c1 : Cond} (h : c1 ∈ lw_good) : GoodIn (c0 :: lw_good) (c1 :: lw_good) := by
  intro w hw
  have h9 : w ∈ lw_good := by
    rcases List.mem_cons.mp hw with rfl | h1
    · exact h
    · exact h1
  exact ⟨List.mem_cons_of_mem _ h9, good_of_word (List.mem_filter.mp h9).2⟩
theorem am_tl {c0 w : Cond} (h : w ∈ lw_good) : w ∈ c0 :: lw_good := List.mem_cons_of_mem _ h
set_option maxRecDepth 20000 in
theorem w_1_0 : (Jvm.Cond.initialized "PagingKernelLaw") ∈ lw_good := am_in1 0 rfl rfl
set_option maxRecDepth 20000 in
theorem w_1_1 : (Jvm.Cond.initialized "PagingKernel") ∈ lw_good := am_in1 1 rfl rfl
set_option maxRecDepth 20000 in
theorem w_1_2 : (Jvm.Cond.initialized "PagingKernel$Memory") ∈ lw_good := am_in1 2 rfl rfl
set_option maxRecDepth 20000 in
theorem w_1_3 : (Jvm.Cond.initialized "java/lang/Math") ∈ lw_good := am_in1 3 rfl rfl
set_option maxRecDepth 20000 in
theorem w_1_4 : (Jvm.Cond.initialized "java/util/Arrays") ∈ lw_good := am_in1 4 rfl rfl
set_option maxRecDepth 20000 in
theorem w_1_5 : (Jvm.Cond.initialized "PagingKernelModel") ∈ lw_good := am_in1 5 rfl rfl
set_option maxRecDepth 20000 in
theorem w_1_6 : (Jvm.Cond.initialized "java/lang/Throwable") ∈ lw_good := am_in1 6 rfl rfl
set_option maxRecDepth 20000 in
theorem w_1_9 : (Jvm.Cond.initialized "java/lang/IllegalArgumentException") ∈ lw_good := am_in1 9 rfl rfl
set_option maxRecDepth 20000 in
theorem w_1_10 : (Jvm.Cond.initialized "java/util/NoSuchElementException") ∈ lw_good := am_in1 10 rfl rfl
set_option maxRecDepth 20000 in
theorem w_1_11 : (Jvm.Cond.initialized "java/lang/UnsupportedOperationException") ∈ lw_good := am_in1 11 rfl rfl
set_option maxRecDepth 20000 in
theorem w_1_12 : (Jvm.Cond.initialized "java/lang/IllegalStateException") ∈ lw_good := am_in1 12 rfl rfl
set_option maxRecDepth 20000 in
theorem w_1_13 : (Jvm.Cond.initialized "java/lang/IndexOutOfBoundsException") ∈ lw_good := am_in1 13 rfl rfl
set_option maxRecDepth 20000 in
theorem w_1_14 : (Jvm.Cond.initialized "java/lang/System") ∈ lw_good := am_in1 14 rfl rfl
set_option maxRecDepth 20000 in
theorem w_1_15 : (Jvm.Cond.classLink "PagingKernelLaw" (8 : Nat) "PagingKernel") ∈ lw_good := am_in1 15 rfl rfl
set_option maxRecDepth 20000 in
theorem w_1_16 : (Jvm.Cond.instantiable "PagingKernel" (8 : Nat)) ∈ lw_good := am_in1 16 rfl rfl
set_option maxRecDepth 20000 in
theorem w_1_17 : (Jvm.Cond.methodLink "PagingKernelLaw" (67 : Nat) ({ cls := "PagingKernel", name := "<init>", desc := "(II)V" } : Jvm.MethodName)) ∈ lw_good := am_in1 17 rfl rfl
set_option maxRecDepth 20000 in
theorem w_1_18 : (Jvm.Cond.instanceMethod ({ cls := "PagingKernel", name := "<init>", desc := "(II)V" } : Jvm.MethodName)) ∈ lw_good := am_in1 18 rfl rfl
set_option maxRecDepth 20000 in
theorem w_1_19 : (Jvm.Cond.code ({ cls := "PagingKernel", name := "<init>", desc := "(II)V" } : Jvm.MethodName) prog_1_method_1_code (4 : Nat) (Option.none : Option Jvm.ClassFile.FieldType)) ∈ lw_good := am_in1 19 rfl rfl
set_option maxRecDepth 20000 in
theorem w_1_20 : (Jvm.Cond.methodLink "PagingKernel" (3 : Nat) ({ cls := "java/lang/Object", name := "<init>", desc := "()V" } : Jvm.MethodName)) ∈ lw_good := am_in1 20 rfl rfl
set_option maxRecDepth 20000 in
theorem w_1_21 : (Jvm.Cond.instanceMethod ({ cls := "java/lang/Object", name := "<init>", desc := "()V" } : Jvm.MethodName)) ∈ lw_good := am_in1 21 rfl rfl
set_option maxRecDepth 20000 in
theorem w_1_22 : (Jvm.Cond.code ({ cls := "java/lang/Object", name := "<init>", desc := "()V" } : Jvm.MethodName) object_method_1_code (1 : Nat) (Option.none : Option Jvm.ClassFile.FieldType)) ∈ lw_good := am_in1 22 rfl rfl
set_option maxRecDepth 20000 in
theorem w_1_23 : (Jvm.Cond.classLink "PagingKernel" (28 : Nat) "[[I") ∈ lw_good := am_in1 23 rfl rfl
set_option maxRecDepth 20000 in
theorem w_1_25 : (Jvm.Cond.classLink "PagingKernel" (33 : Nat) "PagingKernel$Memory") ∈ lw_good := am_in1 25 rfl rfl
set_option maxRecDepth 20000 in
theorem w_1_26 : (Jvm.Cond.instantiable "PagingKernel$Memory" (10 : Nat)) ∈ lw_good := am_in1 26 rfl rfl
set_option maxRecDepth 20000 in
theorem w_1_27 : (Jvm.Cond.methodLink "PagingKernel" (35 : Nat) ({ cls := "PagingKernel", name := "clamp", desc := "(III)I" } : Jvm.MethodName)) ∈ lw_good := am_in1 27 rfl rfl
set_option maxRecDepth 20000 in
theorem w_1_28 : (Jvm.Cond.static ({ cls := "PagingKernel", name := "clamp", desc := "(III)I" } : Jvm.MethodName)) ∈ lw_good := am_in1 28 rfl rfl
set_option maxRecDepth 20000 in
theorem w_1_29 : (Jvm.Cond.code ({ cls := "PagingKernel", name := "clamp", desc := "(III)I" } : Jvm.MethodName) prog_1_method_15_code (3 : Nat) (Option.some Jvm.ClassFile.FieldType.int)) ∈ lw_good := am_in1 29 rfl rfl
set_option maxRecDepth 20000 in
theorem w_1_30 : (Jvm.Cond.methodLink "PagingKernel" (153 : Nat) ({ cls := "java/lang/Math", name := "min", desc := "(II)I" } : Jvm.MethodName)) ∈ lw_good := am_in1 30 rfl rfl
set_option maxRecDepth 20000 in
theorem w_1_31 : (Jvm.Cond.static ({ cls := "java/lang/Math", name := "min", desc := "(II)I" } : Jvm.MethodName)) ∈ lw_good := am_in1 31 rfl rfl
set_option maxRecDepth 20000 in
theorem w_1_32 : (Jvm.Cond.code ({ cls := "java/lang/Math", name := "min", desc := "(II)I" } : Jvm.MethodName) prog_9_method_69_code (2 : Nat) (Option.some Jvm.ClassFile.FieldType.int)) ∈ lw_good := am_in1 32 rfl rfl
set_option maxRecDepth 20000 in
theorem w_1_33 : (Jvm.Cond.methodLink "PagingKernel" (158 : Nat) ({ cls := "java/lang/Math", name := "max", desc := "(II)I" } : Jvm.MethodName)) ∈ lw_good := am_in1 33 rfl rfl
set_option maxRecDepth 20000 in
theorem w_1_34 : (Jvm.Cond.static ({ cls := "java/lang/Math", name := "max", desc := "(II)I" } : Jvm.MethodName)) ∈ lw_good := am_in1 34 rfl rfl
set_option maxRecDepth 20000 in
theorem w_1_35 : (Jvm.Cond.code ({ cls := "java/lang/Math", name := "max", desc := "(II)I" } : Jvm.MethodName) prog_9_method_65_code (2 : Nat) (Option.some Jvm.ClassFile.FieldType.int)) ∈ lw_good := am_in1 35 rfl rfl
set_option maxRecDepth 20000 in
theorem w_1_36 : (Jvm.Cond.methodLink "PagingKernel" (39 : Nat) ({ cls := "PagingKernel$Memory", name := "<init>", desc := "(II)V" } : Jvm.MethodName)) ∈ lw_good := am_in1 36 rfl rfl
set_option maxRecDepth 20000 in
theorem w_1_37 : (Jvm.Cond.instanceMethod ({ cls := "PagingKernel$Memory", name := "<init>", desc := "(II)V" } : Jvm.MethodName)) ∈ lw_good := am_in1 37 rfl rfl
set_option maxRecDepth 20000 in
theorem w_1_38 : (Jvm.Cond.code ({ cls := "PagingKernel$Memory", name := "<init>", desc := "(II)V" } : Jvm.MethodName) prog_2_method_1_code (5 : Nat) (Option.none : Option Jvm.ClassFile.FieldType)) ∈ lw_good := am_in1 38 rfl rfl
set_option maxRecDepth 20000 in
theorem w_1_39 : (Jvm.Cond.methodLink "PagingKernel$Memory" (5 : Nat) ({ cls := "java/lang/Object", name := "<init>", desc := "()V" } : Jvm.MethodName)) ∈ lw_good := am_in1 39 rfl rfl
set_option maxRecDepth 20000 in
theorem w_1_40 : (Jvm.Cond.methodLink "PagingKernel$Memory" (44 : Nat) ({ cls := "java/util/Arrays", name := "fill", desc := "([II)V" } : Jvm.MethodName)) ∈ lw_good := am_in1 40 rfl rfl
set_option maxRecDepth 20000 in
theorem w_1_41 : (Jvm.Cond.static ({ cls := "java/util/Arrays", name := "fill", desc := "([II)V" } : Jvm.MethodName)) ∈ lw_good := am_in1 41 rfl rfl
set_option maxRecDepth 20000 in
theorem w_1_42 : (Jvm.Cond.code ({ cls := "java/util/Arrays", name := "fill", desc := "([II)V" } : Jvm.MethodName) prog_14_method_103_code (4 : Nat) (Option.none : Option Jvm.ClassFile.FieldType)) ∈ lw_good := am_in1 42 rfl rfl
set_option maxRecDepth 20000 in
theorem w_1_43 : (Jvm.Cond.fieldLink "PagingKernel$Memory" (11 : Nat) "PagingKernel$Memory" "words" "[I") ∈ lw_good := am_in1 43 rfl rfl
set_option maxRecDepth 20000 in
theorem w_1_44 : (Jvm.Cond.fieldLink "PagingKernel$Memory" (15 : Nat) "PagingKernel$Memory" "users" "[I") ∈ lw_good := am_in1 44 rfl rfl
set_option maxRecDepth 20000 in
theorem w_1_45 : (Jvm.Cond.fieldLink "PagingKernel$Memory" (18 : Nat) "PagingKernel$Memory" "home" "[I") ∈ lw_good := am_in1 45 rfl rfl
set_option maxRecDepth 20000 in
theorem w_1_46 : (Jvm.Cond.fieldLink "PagingKernel$Memory" (34 : Nat) "PagingKernel$Memory" "pageInFrame" "[I") ∈ lw_good := am_in1 46 rfl rfl
set_option maxRecDepth 20000 in
theorem w_1_47 : (Jvm.Cond.fieldLink "PagingKernel$Memory" (37 : Nat) "PagingKernel$Memory" "marked" "[Z") ∈ lw_good := am_in1 47 rfl rfl
set_option maxRecDepth 20000 in
theorem w_1_48 : (Jvm.Cond.fieldLink "PagingKernel$Memory" (41 : Nat) "PagingKernel$Memory" "pageInSlot" "[I") ∈ lw_good := am_in1 48 rfl rfl
set_option maxRecDepth 20000 in
theorem w_1_49 : (Jvm.Cond.fieldLink "PagingKernel$Memory" (21 : Nat) "PagingKernel$Memory" "hand" "I") ∈ lw_good := am_in1 49 rfl rfl
set_option maxRecDepth 20000 in
theorem w_1_51 : (Jvm.Cond.fieldLink "PagingKernel$Memory" (25 : Nat) "PagingKernel$Memory" "fills" "I") ∈ lw_good := am_in1 51 rfl rfl
set_option maxRecDepth 20000 in
theorem w_1_53 : (Jvm.Cond.fieldLink "PagingKernel$Memory" (28 : Nat) "PagingKernel$Memory" "copies" "I") ∈ lw_good := am_in1 53 rfl rfl
set_option maxRecDepth 20000 in
theorem w_1_55 : (Jvm.Cond.fieldLink "PagingKernel$Memory" (31 : Nat) "PagingKernel$Memory" "sentOut" "I") ∈ lw_good := am_in1 55 rfl rfl
set_option maxRecDepth 20000 in
theorem w_1_57 : (Jvm.Cond.laysFinal "PagingKernel$Memory" "PagingKernel$Memory" "words" "[I") ∈ lw_good := am_in1 57 rfl rfl
set_option maxRecDepth 20000 in
theorem w_1_59 : (Jvm.Cond.laysFinal "PagingKernel$Memory" "PagingKernel$Memory" "users" "[I") ∈ lw_good := am_in1 59 rfl rfl
set_option maxRecDepth 20000 in
theorem w_1_61 : (Jvm.Cond.laysFinal "PagingKernel$Memory" "PagingKernel$Memory" "home" "[I") ∈ lw_good := am_in1 61 rfl rfl
set_option maxRecDepth 20000 in
theorem w_1_63 : (Jvm.Cond.laysFinal "PagingKernel$Memory" "PagingKernel$Memory" "pageInFrame" "[I") ∈ lw_good := am_in1 63 rfl rfl
set_option maxRecDepth 20000 in
theorem w_1_65 : (Jvm.Cond.laysFinal "PagingKernel$Memory" "PagingKernel$Memory" "marked" "[Z") ∈ lw_good := am_in1 65 rfl rfl
set_option maxRecDepth 20000 in
theorem w_1_67 : (Jvm.Cond.laysFinal "PagingKernel$Memory" "PagingKernel$Memory" "pageInSlot" "[I") ∈ lw_good := am_in1 67 rfl rfl
set_option maxRecDepth 20000 in
theorem w_1_69 : (Jvm.Cond.lays "PagingKernel$Memory" "PagingKernel$Memory" "hand" "I") ∈ lw_good := am_in1 69 rfl rfl
set_option maxRecDepth 20000 in
theorem w_1_71 : (Jvm.Cond.lays "PagingKernel$Memory" "PagingKernel$Memory" "fills" "I") ∈ lw_good := am_in1 71 rfl rfl
set_option maxRecDepth 20000 in
theorem w_1_73 : (Jvm.Cond.lays "PagingKernel$Memory" "PagingKernel$Memory" "copies" "I") ∈ lw_good := am_in1 73 rfl rfl
set_option maxRecDepth 20000 in
theorem w_1_75 : (Jvm.Cond.lays "PagingKernel$Memory" "PagingKernel$Memory" "sentOut" "I") ∈ lw_good := am_in1 75 rfl rfl
set_option maxRecDepth 20000 in
theorem w_1_78 : (Jvm.Cond.arrayClass Jvm.ClassFile.FieldType.int) ∈ lw_good := am_in1 78 rfl rfl
set_option maxRecDepth 20000 in
theorem w_1_79 : (Jvm.Cond.arrayClass Jvm.ClassFile.FieldType.boolean) ∈ lw_good := am_in1 79 rfl rfl
set_option maxRecDepth 20000 in
theorem w_1_80 : (Jvm.Cond.methodLink "PagingKernel" (46 : Nat) ({ cls := "java/util/Arrays", name := "fill", desc := "([II)V" } : Jvm.MethodName)) ∈ lw_good := am_in1 80 rfl rfl
set_option maxRecDepth 20000 in
theorem w_1_81 : (Jvm.Cond.methodLink "PagingKernel" (52 : Nat) ({ cls := "PagingKernel", name := "startProgram", desc := "(II)V" } : Jvm.MethodName)) ∈ lw_good := am_in1 81 rfl rfl
set_option maxRecDepth 20000 in
theorem w_1_83 : (Jvm.Cond.instanceMethod ({ cls := "PagingKernel", name := "startProgram", desc := "(II)V" } : Jvm.MethodName)) ∈ lw_good := am_in1 83 rfl rfl
set_option maxRecDepth 20000 in
theorem w_1_84 : (Jvm.Cond.code ({ cls := "PagingKernel", name := "startProgram", desc := "(II)V" } : Jvm.MethodName) prog_1_method_21_code (4 : Nat) (Option.none : Option Jvm.ClassFile.FieldType)) ∈ lw_good := am_in1 84 rfl rfl
set_option maxRecDepth 20000 in
theorem w_1_85 : (Jvm.Cond.methodLink "PagingKernel" (170 : Nat) ({ cls := "PagingKernel$Memory", name := "textPage", desc := "(II)I" } : Jvm.MethodName)) ∈ lw_good := am_in1 85 rfl rfl
set_option maxRecDepth 20000 in
theorem w_1_86 : (Jvm.Cond.static ({ cls := "PagingKernel$Memory", name := "textPage", desc := "(II)I" } : Jvm.MethodName)) ∈ lw_good := am_in1 86 rfl rfl
set_option maxRecDepth 20000 in
theorem w_1_87 : (Jvm.Cond.code ({ cls := "PagingKernel$Memory", name := "textPage", desc := "(II)I" } : Jvm.MethodName) prog_2_method_2_code (2 : Nat) (Option.some Jvm.ClassFile.FieldType.int)) ∈ lw_good := am_in1 87 rfl rfl
set_option maxRecDepth 20000 in
theorem w_1_88 : (Jvm.Cond.methodLink "PagingKernel" (173 : Nat) ({ cls := "PagingKernel$Memory", name := "join", desc := "(I)V" } : Jvm.MethodName)) ∈ lw_good := am_in1 88 rfl rfl
set_option maxRecDepth 20000 in
theorem w_1_89 : (Jvm.Cond.instanceMethod ({ cls := "PagingKernel$Memory", name := "join", desc := "(I)V" } : Jvm.MethodName)) ∈ lw_good := am_in1 89 rfl rfl
set_option maxRecDepth 20000 in
theorem w_1_90 : (Jvm.Cond.selects "PagingKernel$Memory" ({ cls := "PagingKernel$Memory", name := "join", desc := "(I)V" } : Jvm.MethodName) ({ cls := "PagingKernel$Memory", name := "join", desc := "(I)V" } : Jvm.MethodName)) ∈ lw_good := am_in1 90 rfl rfl
set_option maxRecDepth 20000 in
theorem w_1_91 : (Jvm.Cond.code ({ cls := "PagingKernel$Memory", name := "join", desc := "(I)V" } : Jvm.MethodName) prog_2_method_11_code (2 : Nat) (Option.none : Option Jvm.ClassFile.FieldType)) ∈ lw_good := am_in1 91 rfl rfl
set_option maxRecDepth 20000 in
theorem w_1_92 : (Jvm.Cond.methodLink "PagingKernel" (76 : Nat) ({ cls := "PagingKernel", name := "leavePages", desc := "(III)V" } : Jvm.MethodName)) ∈ lw_good := am_in1 92 rfl rfl
set_option maxRecDepth 20000 in
theorem w_1_94 : (Jvm.Cond.instanceMethod ({ cls := "PagingKernel", name := "leavePages", desc := "(III)V" } : Jvm.MethodName)) ∈ lw_good := am_in1 94 rfl rfl
set_option maxRecDepth 20000 in
theorem w_1_95 : (Jvm.Cond.code ({ cls := "PagingKernel", name := "leavePages", desc := "(III)V" } : Jvm.MethodName) prog_1_method_23_code (6 : Nat) (Option.none : Option Jvm.ClassFile.FieldType)) ∈ lw_good := am_in1 95 rfl rfl
set_option maxRecDepth 20000 in
theorem w_1_96 : (Jvm.Cond.methodLink "PagingKernel" (182 : Nat) ({ cls := "PagingKernel$Memory", name := "leave", desc := "(I)V" } : Jvm.MethodName)) ∈ lw_good := am_in1 96 rfl rfl
set_option maxRecDepth 20000 in
theorem w_1_97 : (Jvm.Cond.instanceMethod ({ cls := "PagingKernel$Memory", name := "leave", desc := "(I)V" } : Jvm.MethodName)) ∈ lw_good := am_in1 97 rfl rfl
set_option maxRecDepth 20000 in
theorem w_1_98 : (Jvm.Cond.selects "PagingKernel$Memory" ({ cls := "PagingKernel$Memory", name := "leave", desc := "(I)V" } : Jvm.MethodName) ({ cls := "PagingKernel$Memory", name := "leave", desc := "(I)V" } : Jvm.MethodName)) ∈ lw_good := am_in1 98 rfl rfl
set_option maxRecDepth 20000 in
theorem w_1_99 : (Jvm.Cond.code ({ cls := "PagingKernel$Memory", name := "leave", desc := "(I)V" } : Jvm.MethodName) prog_2_method_12_code (2 : Nat) (Option.none : Option Jvm.ClassFile.FieldType)) ∈ lw_good := am_in1 99 rfl rfl
set_option maxRecDepth 20000 in
theorem w_1_100 : (Jvm.Cond.methodLink "PagingKernel$Memory" (54 : Nat) ({ cls := "PagingKernel$Memory", name := "vacate", desc := "(I)V" } : Jvm.MethodName)) ∈ lw_good := am_in1 100 rfl rfl
set_option maxRecDepth 20000 in
theorem w_1_102 : (Jvm.Cond.instanceMethod ({ cls := "PagingKernel$Memory", name := "vacate", desc := "(I)V" } : Jvm.MethodName)) ∈ lw_good := am_in1 102 rfl rfl
set_option maxRecDepth 20000 in
theorem w_1_103 : (Jvm.Cond.code ({ cls := "PagingKernel$Memory", name := "vacate", desc := "(I)V" } : Jvm.MethodName) prog_2_method_23_code (3 : Nat) (Option.none : Option Jvm.ClassFile.FieldType)) ∈ lw_good := am_in1 103 rfl rfl
set_option maxRecDepth 20000 in
theorem w_1_104 : (Jvm.Cond.fieldLink "PagingKernel" (176 : Nat) "PagingKernel" "DATA_AT_START" "[I") ∈ lw_good := am_in1 104 rfl rfl
set_option maxRecDepth 20000 in
theorem w_1_106 : (Jvm.Cond.methodLink "PagingKernel" (93 : Nat) ({ cls := "PagingKernel", name := "addPages", desc := "(III)V" } : Jvm.MethodName)) ∈ lw_good := am_in1 106 rfl rfl
set_option maxRecDepth 20000 in
theorem w_1_108 : (Jvm.Cond.instanceMethod ({ cls := "PagingKernel", name := "addPages", desc := "(III)V" } : Jvm.MethodName)) ∈ lw_good := am_in1 108 rfl rfl
set_option maxRecDepth 20000 in
theorem w_1_109 : (Jvm.Cond.code ({ cls := "PagingKernel", name := "addPages", desc := "(III)V" } : Jvm.MethodName) prog_1_method_22_code (5 : Nat) (Option.none : Option Jvm.ClassFile.FieldType)) ∈ lw_good := am_in1 109 rfl rfl
set_option maxRecDepth 20000 in
theorem w_1_110 : (Jvm.Cond.methodLink "PagingKernel" (179 : Nat) ({ cls := "PagingKernel$Memory", name := "newPage", desc := "()I" } : Jvm.MethodName)) ∈ lw_good := am_in1 110 rfl rfl
set_option maxRecDepth 20000 in
theorem w_1_111 : (Jvm.Cond.instanceMethod ({ cls := "PagingKernel$Memory", name := "newPage", desc := "()I" } : Jvm.MethodName)) ∈ lw_good := am_in1 111 rfl rfl
set_option maxRecDepth 20000 in
theorem w_1_112 : (Jvm.Cond.selects "PagingKernel$Memory" ({ cls := "PagingKernel$Memory", name := "newPage", desc := "()I" } : Jvm.MethodName) ({ cls := "PagingKernel$Memory", name := "newPage", desc := "()I" } : Jvm.MethodName)) ∈ lw_good := am_in1 112 rfl rfl
set_option maxRecDepth 20000 in
theorem w_1_113 : (Jvm.Cond.code ({ cls := "PagingKernel$Memory", name := "newPage", desc := "()I" } : Jvm.MethodName) prog_2_method_10_code (3 : Nat) (Option.some Jvm.ClassFile.FieldType.int)) ∈ lw_good := am_in1 113 rfl rfl
set_option maxRecDepth 20000 in
theorem w_1_114 : (Jvm.Cond.fieldLink "PagingKernel" (42 : Nat) "PagingKernel" "memory" "LPagingKernel$Memory;") ∈ lw_good := am_in1 114 rfl rfl
set_option maxRecDepth 20000 in
theorem w_1_115 : (Jvm.Cond.fieldLink "PagingKernel" (9 : Nat) "PagingKernel" "state" "[I") ∈ lw_good := am_in1 115 rfl rfl
set_option maxRecDepth 20000 in
theorem w_1_116 : (Jvm.Cond.fieldLink "PagingKernel" (13 : Nat) "PagingKernel" "program" "[I") ∈ lw_good := am_in1 116 rfl rfl
set_option maxRecDepth 20000 in
theorem w_1_117 : (Jvm.Cond.fieldLink "PagingKernel" (16 : Nat) "PagingKernel" "parent" "[I") ∈ lw_good := am_in1 117 rfl rfl
set_option maxRecDepth 20000 in
theorem w_1_118 : (Jvm.Cond.fieldLink "PagingKernel" (19 : Nat) "PagingKernel" "exitCode" "[I") ∈ lw_good := am_in1 118 rfl rfl
set_option maxRecDepth 20000 in
theorem w_1_119 : (Jvm.Cond.fieldLink "PagingKernel" (22 : Nat) "PagingKernel" "dataPages" "[I") ∈ lw_good := am_in1 119 rfl rfl
set_option maxRecDepth 20000 in
theorem w_1_120 : (Jvm.Cond.fieldLink "PagingKernel" (25 : Nat) "PagingKernel" "stackPages" "[I") ∈ lw_good := am_in1 120 rfl rfl
set_option maxRecDepth 20000 in
theorem w_1_121 : (Jvm.Cond.fieldLink "PagingKernel" (30 : Nat) "PagingKernel" "pageAt" "[[I") ∈ lw_good := am_in1 121 rfl rfl
set_option maxRecDepth 20000 in
theorem w_1_122 : (Jvm.Cond.laysFinal "PagingKernel" "PagingKernel" "memory" "LPagingKernel$Memory;") ∈ lw_good := am_in1 122 rfl rfl
set_option maxRecDepth 20000 in
theorem w_1_124 : (Jvm.Cond.laysFinal "PagingKernel" "PagingKernel" "state" "[I") ∈ lw_good := am_in1 124 rfl rfl
set_option maxRecDepth 20000 in
theorem w_1_126 : (Jvm.Cond.laysFinal "PagingKernel" "PagingKernel" "program" "[I") ∈ lw_good := am_in1 126 rfl rfl
set_option maxRecDepth 20000 in
theorem w_1_128 : (Jvm.Cond.laysFinal "PagingKernel" "PagingKernel" "parent" "[I") ∈ lw_good := am_in1 128 rfl rfl
set_option maxRecDepth 20000 in
theorem w_1_130 : (Jvm.Cond.laysFinal "PagingKernel" "PagingKernel" "exitCode" "[I") ∈ lw_good := am_in1 130 rfl rfl
set_option maxRecDepth 20000 in
theorem w_1_132 : (Jvm.Cond.laysFinal "PagingKernel" "PagingKernel" "dataPages" "[I") ∈ lw_good := am_in1 132 rfl rfl
set_option maxRecDepth 20000 in
theorem w_1_134 : (Jvm.Cond.laysFinal "PagingKernel" "PagingKernel" "stackPages" "[I") ∈ lw_good := am_in1 134 rfl rfl
set_option maxRecDepth 20000 in
theorem w_1_136 : (Jvm.Cond.laysFinal "PagingKernel" "PagingKernel" "pageAt" "[[I") ∈ lw_good := am_in1 136 rfl rfl
set_option maxRecDepth 20000 in
theorem w_1_139 : (Jvm.Cond.methodLink "PagingKernelLaw" (61 : Nat) ({ cls := "PagingKernelLaw", name := "cell", desc := "([II)I" } : Jvm.MethodName)) ∈ lw_good := am_in1 139 rfl rfl
set_option maxRecDepth 20000 in
theorem w_1_140 : (Jvm.Cond.static ({ cls := "PagingKernelLaw", name := "cell", desc := "([II)I" } : Jvm.MethodName)) ∈ lw_good := am_in1 140 rfl rfl
set_option maxRecDepth 20000 in
theorem w_1_141 : (Jvm.Cond.code ({ cls := "PagingKernelLaw", name := "cell", desc := "([II)I" } : Jvm.MethodName) method_2_code (2 : Nat) (Option.some Jvm.ClassFile.FieldType.int)) ∈ lw_good := am_in1 141 rfl rfl
set_option maxRecDepth 20000 in
theorem w_1_142 : (Jvm.Cond.methodLink "PagingKernelLaw" (73 : Nat) ({ cls := "PagingKernelLaw", name := "fork", desc := "(LPagingKernel;I[J)I" } : Jvm.MethodName)) ∈ lw_good := am_in1 142 rfl rfl
set_option maxRecDepth 20000 in
theorem w_1_143 : (Jvm.Cond.static ({ cls := "PagingKernelLaw", name := "fork", desc := "(LPagingKernel;I[J)I" } : Jvm.MethodName)) ∈ lw_good := am_in1 143 rfl rfl
set_option maxRecDepth 20000 in
theorem w_1_144 : (Jvm.Cond.codeWith ({ cls := "PagingKernelLaw", name := "fork", desc := "(LPagingKernel;I[J)I" } : Jvm.MethodName) method_3_code (4 : Nat) (Option.some Jvm.ClassFile.FieldType.int) [((0 : Nat), (9 : Nat), (12 : Nat), (13 : Nat)), ((0 : Nat), (9 : Nat), (15 : Nat), (15 : Nat)), ((0 : Nat), (9 : Nat), (18 : Nat), (17 : Nat))]) ∈ lw_good := am_in1 144 rfl rfl
set_option maxRecDepth 20000 in
theorem w_1_145 : (Jvm.Cond.classLink "PagingKernelLaw" (13 : Nat) "java/lang/IllegalArgumentException") ∈ lw_good := am_in1 145 rfl rfl
set_option maxRecDepth 20000 in
theorem w_1_146 : (Jvm.Cond.classLink "PagingKernelLaw" (15 : Nat) "java/util/NoSuchElementException") ∈ lw_good := am_in1 146 rfl rfl
set_option maxRecDepth 20000 in
theorem w_1_147 : (Jvm.Cond.classLink "PagingKernelLaw" (17 : Nat) "java/lang/UnsupportedOperationException") ∈ lw_good := am_in1 147 rfl rfl
set_option maxRecDepth 20000 in
theorem w_1_148 : (Jvm.Cond.methodLink "PagingKernelLaw" (7 : Nat) ({ cls := "PagingKernel", name := "fork", desc := "(I)I" } : Jvm.MethodName)) ∈ lw_good := am_in1 148 rfl rfl
set_option maxRecDepth 20000 in
theorem w_1_149 : (Jvm.Cond.instanceMethod ({ cls := "PagingKernel", name := "fork", desc := "(I)I" } : Jvm.MethodName)) ∈ lw_good := am_in1 149 rfl rfl
set_option maxRecDepth 20000 in
theorem w_1_150 : (Jvm.Cond.selects "PagingKernel" ({ cls := "PagingKernel", name := "fork", desc := "(I)I" } : Jvm.MethodName) ({ cls := "PagingKernel", name := "fork", desc := "(I)I" } : Jvm.MethodName)) ∈ lw_good := am_in1 150 rfl rfl
set_option maxRecDepth 20000 in
theorem w_1_151 : (Jvm.Cond.code ({ cls := "PagingKernel", name := "fork", desc := "(I)I" } : Jvm.MethodName) prog_1_method_2_code (3 : Nat) (Option.some Jvm.ClassFile.FieldType.int)) ∈ lw_good := am_in1 151 rfl rfl
set_option maxRecDepth 20000 in
theorem w_1_152 : (Jvm.Cond.methodLink "PagingKernel" (55 : Nat) ({ cls := "PagingKernel", name := "checkProcess", desc := "(I)V" } : Jvm.MethodName)) ∈ lw_good := am_in1 152 rfl rfl
set_option maxRecDepth 20000 in
theorem w_1_153 : (Jvm.Cond.static ({ cls := "PagingKernel", name := "checkProcess", desc := "(I)V" } : Jvm.MethodName)) ∈ lw_good := am_in1 153 rfl rfl
set_option maxRecDepth 20000 in
theorem w_1_154 : (Jvm.Cond.code ({ cls := "PagingKernel", name := "checkProcess", desc := "(I)V" } : Jvm.MethodName) prog_1_method_17_code (1 : Nat) (Option.none : Option Jvm.ClassFile.FieldType)) ∈ lw_good := am_in1 154 rfl rfl
set_option maxRecDepth 20000 in
theorem w_1_155 : (Jvm.Cond.methodLink "PagingKernel" (72 : Nat) ({ cls := "PagingKernel", name := "checkRange", desc := "(III)V" } : Jvm.MethodName)) ∈ lw_good := am_in1 155 rfl rfl
set_option maxRecDepth 20000 in
theorem w_1_156 : (Jvm.Cond.static ({ cls := "PagingKernel", name := "checkRange", desc := "(III)V" } : Jvm.MethodName)) ∈ lw_good := am_in1 156 rfl rfl
set_option maxRecDepth 20000 in
theorem w_1_157 : (Jvm.Cond.code ({ cls := "PagingKernel", name := "checkRange", desc := "(III)V" } : Jvm.MethodName) prog_1_method_16_code (3 : Nat) (Option.none : Option Jvm.ClassFile.FieldType)) ∈ lw_good := am_in1 157 rfl rfl
set_option maxRecDepth 20000 in
theorem w_1_158 : (Jvm.Cond.classLink "PagingKernel" (161 : Nat) "java/lang/IllegalArgumentException") ∈ lw_good := am_in1 158 rfl rfl
set_option maxRecDepth 20000 in
theorem w_1_159 : (Jvm.Cond.instantiable "java/lang/IllegalArgumentException" (6 : Nat)) ∈ lw_good := am_in1 159 rfl rfl
set_option maxRecDepth 20000 in
theorem w_1_167 : (Jvm.Cond.selects "java/lang/IllegalArgumentException" ({ cls := "java/lang/Throwable", name := "fillInStackTrace", desc := "(I)Ljava/lang/Throwable;" } : Jvm.MethodName) ({ cls := "java/lang/Throwable", name := "fillInStackTrace", desc := "(I)Ljava/lang/Throwable;" } : Jvm.MethodName)) ∈ lw_good := am_in1 167 rfl rfl
set_option maxRecDepth 20000 in
theorem w_1_168 : (Jvm.Cond.selects "java/lang/IllegalArgumentException" ({ cls := "java/lang/Throwable", name := "fillInStackTrace", desc := "()Ljava/lang/Throwable;" } : Jvm.MethodName) ({ cls := "java/lang/Throwable", name := "fillInStackTrace", desc := "()Ljava/lang/Throwable;" } : Jvm.MethodName)) ∈ lw_good := am_in1 168 rfl rfl
set_option maxRecDepth 20000 in
theorem w_1_169 : (Jvm.Cond.lays "java/lang/IllegalArgumentException" "java/lang/Throwable" "cause" "Ljava/lang/Throwable;") ∈ lw_good := am_in1 169 rfl rfl
set_option maxRecDepth 20000 in
theorem w_1_170 : (Jvm.Cond.lays "java/lang/Throwable" "java/lang/Throwable" "cause" "Ljava/lang/Throwable;") ∈ lw_good := am_in1 170 rfl rfl
set_option maxRecDepth 20000 in
theorem w_1_171 : (Jvm.Cond.lays "java/lang/IllegalArgumentException" "java/lang/Throwable" "stackTrace" "[Ljava/lang/StackTraceElement;") ∈ lw_good := am_in1 171 rfl rfl
set_option maxRecDepth 20000 in
theorem w_1_172 : (Jvm.Cond.lays "java/lang/Throwable" "java/lang/Throwable" "stackTrace" "[Ljava/lang/StackTraceElement;") ∈ lw_good := am_in1 172 rfl rfl
set_option maxRecDepth 20000 in
theorem w_1_173 : (Jvm.Cond.lays "java/lang/IllegalArgumentException" "java/lang/Throwable" "suppressedExceptions" "Ljava/util/List;") ∈ lw_good := am_in1 173 rfl rfl
set_option maxRecDepth 20000 in
theorem w_1_174 : (Jvm.Cond.lays "java/lang/Throwable" "java/lang/Throwable" "suppressedExceptions" "Ljava/util/List;") ∈ lw_good := am_in1 174 rfl rfl
set_option maxRecDepth 20000 in
theorem w_1_175 : (Jvm.Cond.lays "java/lang/IllegalArgumentException" "java/lang/Throwable" "detailMessage" "Ljava/lang/String;") ∈ lw_good := am_in1 175 rfl rfl
set_option maxRecDepth 20000 in
theorem w_1_176 : (Jvm.Cond.lays "java/lang/Throwable" "java/lang/Throwable" "detailMessage" "Ljava/lang/String;") ∈ lw_good := am_in1 176 rfl rfl
set_option maxRecDepth 20000 in
theorem w_1_177 : (Jvm.Cond.lays "java/lang/IllegalArgumentException" "java/lang/Throwable" "backtrace" "Ljava/lang/Object;") ∈ lw_good := am_in1 177 rfl rfl
set_option maxRecDepth 20000 in
theorem w_1_178 : (Jvm.Cond.lays "java/lang/Throwable" "java/lang/Throwable" "backtrace" "Ljava/lang/Object;") ∈ lw_good := am_in1 178 rfl rfl
set_option maxRecDepth 20000 in
theorem w_1_179 : (Jvm.Cond.fieldLink "java/lang/Throwable" (198 : Nat) "java/lang/Throwable" "backtrace" "Ljava/lang/Object;") ∈ lw_good := am_in1 179 rfl rfl
set_option maxRecDepth 20000 in
theorem w_1_180 : (Jvm.Cond.superclass "java/lang/Throwable" "java/lang/Object") ∈ lw_good := am_in1 180 rfl rfl
set_option maxRecDepth 20000 in
theorem w_1_181 : (Jvm.Cond.instanceMethod ({ cls := "java/lang/Throwable", name := "<init>", desc := "()V" } : Jvm.MethodName)) ∈ lw_good := am_in1 181 rfl rfl
set_option maxRecDepth 20000 in
theorem w_1_182 : (Jvm.Cond.code ({ cls := "java/lang/Throwable", name := "<init>", desc := "()V" } : Jvm.MethodName) prog_12_method_1_code (1 : Nat) (Option.none : Option Jvm.ClassFile.FieldType)) ∈ lw_good := am_in1 182 rfl rfl
set_option maxRecDepth 20000 in
theorem w_1_183 : (Jvm.Cond.methodLink "java/lang/Throwable" (1 : Nat) ({ cls := "java/lang/Object", name := "<init>", desc := "()V" } : Jvm.MethodName)) ∈ lw_good := am_in1 183 rfl rfl
set_option maxRecDepth 20000 in
theorem w_1_184 : (Jvm.Cond.fieldLink "java/lang/Throwable" (13 : Nat) "java/lang/Throwable" "UNASSIGNED_STACK" "[Ljava/lang/StackTraceElement;") ∈ lw_good := am_in1 184 rfl rfl
set_option maxRecDepth 20000 in
theorem w_1_186 : (Jvm.Cond.fieldLink "java/lang/Throwable" (20 : Nat) "java/lang/Throwable" "SUPPRESSED_SENTINEL" "Ljava/util/List;") ∈ lw_good := am_in1 186 rfl rfl
set_option maxRecDepth 20000 in
theorem w_1_188 : (Jvm.Cond.methodLink "java/lang/Throwable" (27 : Nat) ({ cls := "java/lang/Throwable", name := "fillInStackTrace", desc := "()Ljava/lang/Throwable;" } : Jvm.MethodName)) ∈ lw_good := am_in1 188 rfl rfl
set_option maxRecDepth 20000 in
theorem w_1_189 : (Jvm.Cond.instanceMethod ({ cls := "java/lang/Throwable", name := "fillInStackTrace", desc := "()Ljava/lang/Throwable;" } : Jvm.MethodName)) ∈ lw_good := am_in1 189 rfl rfl
set_option maxRecDepth 20000 in
theorem w_1_191 : (Jvm.Cond.selects "java/lang/IllegalStateException" ({ cls := "java/lang/Throwable", name := "fillInStackTrace", desc := "()Ljava/lang/Throwable;" } : Jvm.MethodName) ({ cls := "java/lang/Throwable", name := "fillInStackTrace", desc := "()Ljava/lang/Throwable;" } : Jvm.MethodName)) ∈ lw_good := am_in1 191 rfl rfl
set_option maxRecDepth 20000 in
theorem w_1_192 : (Jvm.Cond.selects "java/lang/IndexOutOfBoundsException" ({ cls := "java/lang/Throwable", name := "fillInStackTrace", desc := "()Ljava/lang/Throwable;" } : Jvm.MethodName) ({ cls := "java/lang/Throwable", name := "fillInStackTrace", desc := "()Ljava/lang/Throwable;" } : Jvm.MethodName)) ∈ lw_good := am_in1 192 rfl rfl
set_option maxRecDepth 20000 in
theorem w_1_193 : (Jvm.Cond.selects "java/lang/UnsupportedOperationException" ({ cls := "java/lang/Throwable", name := "fillInStackTrace", desc := "()Ljava/lang/Throwable;" } : Jvm.MethodName) ({ cls := "java/lang/Throwable", name := "fillInStackTrace", desc := "()Ljava/lang/Throwable;" } : Jvm.MethodName)) ∈ lw_good := am_in1 193 rfl rfl
set_option maxRecDepth 20000 in
theorem w_1_194 : (Jvm.Cond.selects "java/util/NoSuchElementException" ({ cls := "java/lang/Throwable", name := "fillInStackTrace", desc := "()Ljava/lang/Throwable;" } : Jvm.MethodName) ({ cls := "java/lang/Throwable", name := "fillInStackTrace", desc := "()Ljava/lang/Throwable;" } : Jvm.MethodName)) ∈ lw_good := am_in1 194 rfl rfl
set_option maxRecDepth 20000 in
theorem w_1_195 : (Jvm.Cond.codeSync ({ cls := "java/lang/Throwable", name := "fillInStackTrace", desc := "()Ljava/lang/Throwable;" } : Jvm.MethodName) prog_12_method_18_code (1 : Nat) (Option.some (Jvm.ClassFile.FieldType.object "java/lang/Throwable"))) ∈ lw_good := am_in1 195 rfl rfl
set_option maxRecDepth 20000 in
theorem w_1_196 : (Jvm.Cond.methodLink "java/lang/Throwable" (202 : Nat) ({ cls := "java/lang/Throwable", name := "fillInStackTrace", desc := "(I)Ljava/lang/Throwable;" } : Jvm.MethodName)) ∈ lw_good := am_in1 196 rfl rfl
set_option maxRecDepth 20000 in
theorem w_1_198 : (Jvm.Cond.instanceMethod ({ cls := "java/lang/Throwable", name := "fillInStackTrace", desc := "(I)Ljava/lang/Throwable;" } : Jvm.MethodName)) ∈ lw_good := am_in1 198 rfl rfl
set_option maxRecDepth 20000 in
theorem w_1_200 : (Jvm.Cond.native ({ cls := "java/lang/Throwable", name := "fillInStackTrace", desc := "(I)Ljava/lang/Throwable;" } : Jvm.MethodName)) ∈ lw_good := am_in1 200 rfl rfl
set_option maxRecDepth 20000 in
theorem w_1_201 : (Jvm.Cond.methodLink "PagingKernel" (163 : Nat) ({ cls := "java/lang/IllegalArgumentException", name := "<init>", desc := "()V" } : Jvm.MethodName)) ∈ lw_good := am_in1 201 rfl rfl
set_option maxRecDepth 20000 in
theorem w_1_202 : (Jvm.Cond.instanceMethod ({ cls := "java/lang/IllegalArgumentException", name := "<init>", desc := "()V" } : Jvm.MethodName)) ∈ lw_good := am_in1 202 rfl rfl
set_option maxRecDepth 20000 in
theorem w_1_203 : (Jvm.Cond.code ({ cls := "java/lang/IllegalArgumentException", name := "<init>", desc := "()V" } : Jvm.MethodName) prog_6_method_1_code (1 : Nat) (Option.none : Option Jvm.ClassFile.FieldType)) ∈ lw_good := am_in1 203 rfl rfl
set_option maxRecDepth 20000 in
theorem w_1_204 : (Jvm.Cond.methodLink "java/lang/IllegalArgumentException" (1 : Nat) ({ cls := "java/lang/RuntimeException", name := "<init>", desc := "()V" } : Jvm.MethodName)) ∈ lw_good := am_in1 204 rfl rfl
set_option maxRecDepth 20000 in
theorem w_1_205 : (Jvm.Cond.instanceMethod ({ cls := "java/lang/RuntimeException", name := "<init>", desc := "()V" } : Jvm.MethodName)) ∈ lw_good := am_in1 205 rfl rfl
set_option maxRecDepth 20000 in
theorem w_1_206 : (Jvm.Cond.code ({ cls := "java/lang/RuntimeException", name := "<init>", desc := "()V" } : Jvm.MethodName) prog_10_method_1_code (1 : Nat) (Option.none : Option Jvm.ClassFile.FieldType)) ∈ lw_good := am_in1 206 rfl rfl
set_option maxRecDepth 20000 in
theorem w_1_207 : (Jvm.Cond.methodLink "java/lang/RuntimeException" (1 : Nat) ({ cls := "java/lang/Exception", name := "<init>", desc := "()V" } : Jvm.MethodName)) ∈ lw_good := am_in1 207 rfl rfl
set_option maxRecDepth 20000 in
theorem w_1_208 : (Jvm.Cond.instanceMethod ({ cls := "java/lang/Exception", name := "<init>", desc := "()V" } : Jvm.MethodName)) ∈ lw_good := am_in1 208 rfl rfl
set_option maxRecDepth 20000 in
theorem w_1_209 : (Jvm.Cond.code ({ cls := "java/lang/Exception", name := "<init>", desc := "()V" } : Jvm.MethodName) prog_5_method_1_code (1 : Nat) (Option.none : Option Jvm.ClassFile.FieldType)) ∈ lw_good := am_in1 209 rfl rfl
set_option maxRecDepth 20000 in
theorem w_1_210 : (Jvm.Cond.methodLink "java/lang/Exception" (1 : Nat) ({ cls := "java/lang/Throwable", name := "<init>", desc := "()V" } : Jvm.MethodName)) ∈ lw_good := am_in1 210 rfl rfl
set_option maxRecDepth 20000 in
theorem w_1_212 : (Jvm.Cond.fieldLink "java/lang/Throwable" (7 : Nat) "java/lang/Throwable" "cause" "Ljava/lang/Throwable;") ∈ lw_good := am_in1 212 rfl rfl
set_option maxRecDepth 20000 in
theorem w_1_213 : (Jvm.Cond.fieldLink "java/lang/Throwable" (17 : Nat) "java/lang/Throwable" "stackTrace" "[Ljava/lang/StackTraceElement;") ∈ lw_good := am_in1 213 rfl rfl
set_option maxRecDepth 20000 in
theorem w_1_214 : (Jvm.Cond.fieldLink "java/lang/Throwable" (24 : Nat) "java/lang/Throwable" "suppressedExceptions" "Ljava/util/List;") ∈ lw_good := am_in1 214 rfl rfl
set_option maxRecDepth 20000 in
theorem w_1_223 : (Jvm.Cond.methodLink "PagingKernel" (59 : Nat) ({ cls := "PagingKernel", name := "checkRunning", desc := "(I)V" } : Jvm.MethodName)) ∈ lw_good := am_in1 223 rfl rfl
set_option maxRecDepth 20000 in
theorem w_1_225 : (Jvm.Cond.instanceMethod ({ cls := "PagingKernel", name := "checkRunning", desc := "(I)V" } : Jvm.MethodName)) ∈ lw_good := am_in1 225 rfl rfl
set_option maxRecDepth 20000 in
theorem w_1_226 : (Jvm.Cond.code ({ cls := "PagingKernel", name := "checkRunning", desc := "(I)V" } : Jvm.MethodName) prog_1_method_18_code (2 : Nat) (Option.none : Option Jvm.ClassFile.FieldType)) ∈ lw_good := am_in1 226 rfl rfl
set_option maxRecDepth 20000 in
theorem w_1_227 : (Jvm.Cond.classLink "PagingKernel" (164 : Nat) "java/util/NoSuchElementException") ∈ lw_good := am_in1 227 rfl rfl
set_option maxRecDepth 20000 in
theorem w_1_228 : (Jvm.Cond.instantiable "java/util/NoSuchElementException" (6 : Nat)) ∈ lw_good := am_in1 228 rfl rfl
set_option maxRecDepth 20000 in
theorem w_1_230 : (Jvm.Cond.selects "java/util/NoSuchElementException" ({ cls := "java/lang/Throwable", name := "fillInStackTrace", desc := "(I)Ljava/lang/Throwable;" } : Jvm.MethodName) ({ cls := "java/lang/Throwable", name := "fillInStackTrace", desc := "(I)Ljava/lang/Throwable;" } : Jvm.MethodName)) ∈ lw_good := am_in1 230 rfl rfl
set_option maxRecDepth 20000 in
theorem w_1_231 : (Jvm.Cond.lays "java/util/NoSuchElementException" "java/lang/Throwable" "cause" "Ljava/lang/Throwable;") ∈ lw_good := am_in1 231 rfl rfl
set_option maxRecDepth 20000 in
theorem w_1_232 : (Jvm.Cond.lays "java/util/NoSuchElementException" "java/lang/Throwable" "stackTrace" "[Ljava/lang/StackTraceElement;") ∈ lw_good := am_in1 232 rfl rfl
set_option maxRecDepth 20000 in
theorem w_1_233 : (Jvm.Cond.lays "java/util/NoSuchElementException" "java/lang/Throwable" "suppressedExceptions" "Ljava/util/List;") ∈ lw_good := am_in1 233 rfl rfl
set_option maxRecDepth 20000 in
theorem w_1_234 : (Jvm.Cond.lays "java/util/NoSuchElementException" "java/lang/Throwable" "detailMessage" "Ljava/lang/String;") ∈ lw_good := am_in1 234 rfl rfl
set_option maxRecDepth 20000 in
theorem w_1_235 : (Jvm.Cond.lays "java/util/NoSuchElementException" "java/lang/Throwable" "backtrace" "Ljava/lang/Object;") ∈ lw_good := am_in1 235 rfl rfl
set_option maxRecDepth 20000 in
theorem w_1_236 : (Jvm.Cond.methodLink "PagingKernel" (166 : Nat) ({ cls := "java/util/NoSuchElementException", name := "<init>", desc := "()V" } : Jvm.MethodName)) ∈ lw_good := am_in1 236 rfl rfl
set_option maxRecDepth 20000 in
theorem w_1_237 : (Jvm.Cond.instanceMethod ({ cls := "java/util/NoSuchElementException", name := "<init>", desc := "()V" } : Jvm.MethodName)) ∈ lw_good := am_in1 237 rfl rfl
set_option maxRecDepth 20000 in
theorem w_1_238 : (Jvm.Cond.code ({ cls := "java/util/NoSuchElementException", name := "<init>", desc := "()V" } : Jvm.MethodName) prog_15_method_1_code (1 : Nat) (Option.none : Option Jvm.ClassFile.FieldType)) ∈ lw_good := am_in1 238 rfl rfl
set_option maxRecDepth 20000 in
theorem w_1_239 : (Jvm.Cond.methodLink "java/util/NoSuchElementException" (1 : Nat) ({ cls := "java/lang/RuntimeException", name := "<init>", desc := "()V" } : Jvm.MethodName)) ∈ lw_good := am_in1 239 rfl rfl
set_option maxRecDepth 20000 in
theorem w_2_2 : (Jvm.Cond.methodLink "PagingKernel" (62 : Nat) ({ cls := "PagingKernel", name := "leastFreeProcess", desc := "()I" } : Jvm.MethodName)) ∈ lw_good := am_in2 2 rfl rfl
set_option maxRecDepth 20000 in
theorem w_2_4 : (Jvm.Cond.instanceMethod ({ cls := "PagingKernel", name := "leastFreeProcess", desc := "()I" } : Jvm.MethodName)) ∈ lw_good := am_in2 4 rfl rfl
set_option maxRecDepth 20000 in
theorem w_2_5 : (Jvm.Cond.code ({ cls := "PagingKernel", name := "leastFreeProcess", desc := "()I" } : Jvm.MethodName) prog_1_method_26_code (2 : Nat) (Option.some Jvm.ClassFile.FieldType.int)) ∈ lw_good := am_in2 5 rfl rfl
set_option maxRecDepth 20000 in
theorem w_2_6 : (Jvm.Cond.classLink "PagingKernel" (66 : Nat) "java/lang/UnsupportedOperationException") ∈ lw_good := am_in2 6 rfl rfl
set_option maxRecDepth 20000 in
theorem w_2_7 : (Jvm.Cond.instantiable "java/lang/UnsupportedOperationException" (6 : Nat)) ∈ lw_good := am_in2 7 rfl rfl
set_option maxRecDepth 20000 in
theorem w_2_9 : (Jvm.Cond.selects "java/lang/UnsupportedOperationException" ({ cls := "java/lang/Throwable", name := "fillInStackTrace", desc := "(I)Ljava/lang/Throwable;" } : Jvm.MethodName) ({ cls := "java/lang/Throwable", name := "fillInStackTrace", desc := "(I)Ljava/lang/Throwable;" } : Jvm.MethodName)) ∈ lw_good := am_in2 9 rfl rfl
set_option maxRecDepth 20000 in
theorem w_2_10 : (Jvm.Cond.lays "java/lang/UnsupportedOperationException" "java/lang/Throwable" "cause" "Ljava/lang/Throwable;") ∈ lw_good := am_in2 10 rfl rfl
set_option maxRecDepth 20000 in
theorem w_2_11 : (Jvm.Cond.lays "java/lang/UnsupportedOperationException" "java/lang/Throwable" "stackTrace" "[Ljava/lang/StackTraceElement;") ∈ lw_good := am_in2 11 rfl rfl
set_option maxRecDepth 20000 in
theorem w_2_12 : (Jvm.Cond.lays "java/lang/UnsupportedOperationException" "java/lang/Throwable" "suppressedExceptions" "Ljava/util/List;") ∈ lw_good := am_in2 12 rfl rfl
set_option maxRecDepth 20000 in
theorem w_2_13 : (Jvm.Cond.lays "java/lang/UnsupportedOperationException" "java/lang/Throwable" "detailMessage" "Ljava/lang/String;") ∈ lw_good := am_in2 13 rfl rfl
set_option maxRecDepth 20000 in
theorem w_2_14 : (Jvm.Cond.lays "java/lang/UnsupportedOperationException" "java/lang/Throwable" "backtrace" "Ljava/lang/Object;") ∈ lw_good := am_in2 14 rfl rfl
set_option maxRecDepth 20000 in
theorem w_2_15 : (Jvm.Cond.methodLink "PagingKernel" (68 : Nat) ({ cls := "java/lang/UnsupportedOperationException", name := "<init>", desc := "()V" } : Jvm.MethodName)) ∈ lw_good := am_in2 15 rfl rfl
set_option maxRecDepth 20000 in
theorem w_2_16 : (Jvm.Cond.instanceMethod ({ cls := "java/lang/UnsupportedOperationException", name := "<init>", desc := "()V" } : Jvm.MethodName)) ∈ lw_good := am_in2 16 rfl rfl
set_option maxRecDepth 20000 in
theorem w_2_17 : (Jvm.Cond.code ({ cls := "java/lang/UnsupportedOperationException", name := "<init>", desc := "()V" } : Jvm.MethodName) prog_13_method_1_code (1 : Nat) (Option.none : Option Jvm.ClassFile.FieldType)) ∈ lw_good := am_in2 17 rfl rfl
set_option maxRecDepth 20000 in
theorem w_2_18 : (Jvm.Cond.methodLink "java/lang/UnsupportedOperationException" (1 : Nat) ({ cls := "java/lang/RuntimeException", name := "<init>", desc := "()V" } : Jvm.MethodName)) ∈ lw_good := am_in2 18 rfl rfl
set_option maxRecDepth 20000 in
theorem w_2_21 : (Jvm.Cond.methodLink "PagingKernel" (69 : Nat) ({ cls := "PagingKernel", name := "sharePages", desc := "(II)V" } : Jvm.MethodName)) ∈ lw_good := am_in2 21 rfl rfl
set_option maxRecDepth 20000 in
theorem w_2_23 : (Jvm.Cond.instanceMethod ({ cls := "PagingKernel", name := "sharePages", desc := "(II)V" } : Jvm.MethodName)) ∈ lw_good := am_in2 23 rfl rfl
set_option maxRecDepth 20000 in
theorem w_2_24 : (Jvm.Cond.code ({ cls := "PagingKernel", name := "sharePages", desc := "(II)V" } : Jvm.MethodName) prog_1_method_24_code (5 : Nat) (Option.none : Option Jvm.ClassFile.FieldType)) ∈ lw_good := am_in2 24 rfl rfl
set_option maxRecDepth 20000 in
theorem w_2_25 : (Jvm.Cond.methodLink "PagingKernelLaw" (81 : Nat) ({ cls := "PagingKernelLaw", name := "exec", desc := "(LPagingKernel;II[J)I" } : Jvm.MethodName)) ∈ lw_good := am_in2 25 rfl rfl
set_option maxRecDepth 20000 in
theorem w_2_26 : (Jvm.Cond.static ({ cls := "PagingKernelLaw", name := "exec", desc := "(LPagingKernel;II[J)I" } : Jvm.MethodName)) ∈ lw_good := am_in2 26 rfl rfl
set_option maxRecDepth 20000 in
theorem w_2_27 : (Jvm.Cond.codeWith ({ cls := "PagingKernelLaw", name := "exec", desc := "(LPagingKernel;II[J)I" } : Jvm.MethodName) method_4_code (5 : Nat) (Option.some Jvm.ClassFile.FieldType.int) [((0 : Nat), (10 : Nat), (13 : Nat), (13 : Nat)), ((0 : Nat), (10 : Nat), (17 : Nat), (15 : Nat))]) ∈ lw_good := am_in2 27 rfl rfl
set_option maxRecDepth 20000 in
theorem w_2_28 : (Jvm.Cond.methodLink "PagingKernelLaw" (19 : Nat) ({ cls := "PagingKernel", name := "exec", desc := "(II)I" } : Jvm.MethodName)) ∈ lw_good := am_in2 28 rfl rfl
set_option maxRecDepth 20000 in
theorem w_2_29 : (Jvm.Cond.instanceMethod ({ cls := "PagingKernel", name := "exec", desc := "(II)I" } : Jvm.MethodName)) ∈ lw_good := am_in2 29 rfl rfl
set_option maxRecDepth 20000 in
theorem w_2_30 : (Jvm.Cond.selects "PagingKernel" ({ cls := "PagingKernel", name := "exec", desc := "(II)I" } : Jvm.MethodName) ({ cls := "PagingKernel", name := "exec", desc := "(II)I" } : Jvm.MethodName)) ∈ lw_good := am_in2 30 rfl rfl
set_option maxRecDepth 20000 in
theorem w_2_31 : (Jvm.Cond.code ({ cls := "PagingKernel", name := "exec", desc := "(II)I" } : Jvm.MethodName) prog_1_method_3_code (3 : Nat) (Option.some Jvm.ClassFile.FieldType.int)) ∈ lw_good := am_in2 31 rfl rfl
set_option maxRecDepth 20000 in
theorem w_2_32 : (Jvm.Cond.methodLink "PagingKernelLaw" (85 : Nat) ({ cls := "PagingKernelLaw", name := "exit", desc := "(LPagingKernel;II[J)I" } : Jvm.MethodName)) ∈ lw_good := am_in2 32 rfl rfl
set_option maxRecDepth 20000 in
theorem w_2_33 : (Jvm.Cond.static ({ cls := "PagingKernelLaw", name := "exit", desc := "(LPagingKernel;II[J)I" } : Jvm.MethodName)) ∈ lw_good := am_in2 33 rfl rfl
set_option maxRecDepth 20000 in
theorem w_2_34 : (Jvm.Cond.codeWith ({ cls := "PagingKernelLaw", name := "exit", desc := "(LPagingKernel;II[J)I" } : Jvm.MethodName) method_5_code (5 : Nat) (Option.some Jvm.ClassFile.FieldType.int) [((0 : Nat), (10 : Nat), (13 : Nat), (13 : Nat)), ((0 : Nat), (10 : Nat), (17 : Nat), (15 : Nat))]) ∈ lw_good := am_in2 34 rfl rfl
set_option maxRecDepth 20000 in
theorem w_2_35 : (Jvm.Cond.methodLink "PagingKernelLaw" (23 : Nat) ({ cls := "PagingKernel", name := "exit", desc := "(II)I" } : Jvm.MethodName)) ∈ lw_good := am_in2 35 rfl rfl
set_option maxRecDepth 20000 in
theorem w_2_36 : (Jvm.Cond.instanceMethod ({ cls := "PagingKernel", name := "exit", desc := "(II)I" } : Jvm.MethodName)) ∈ lw_good := am_in2 36 rfl rfl
set_option maxRecDepth 20000 in
theorem w_2_37 : (Jvm.Cond.selects "PagingKernel" ({ cls := "PagingKernel", name := "exit", desc := "(II)I" } : Jvm.MethodName) ({ cls := "PagingKernel", name := "exit", desc := "(II)I" } : Jvm.MethodName)) ∈ lw_good := am_in2 37 rfl rfl
set_option maxRecDepth 20000 in
theorem w_2_38 : (Jvm.Cond.code ({ cls := "PagingKernel", name := "exit", desc := "(II)I" } : Jvm.MethodName) prog_1_method_4_code (3 : Nat) (Option.some Jvm.ClassFile.FieldType.int)) ∈ lw_good := am_in2 38 rfl rfl
set_option maxRecDepth 20000 in
theorem w_2_39 : (Jvm.Cond.methodLink "PagingKernel" (79 : Nat) ({ cls := "PagingKernel", name := "orphansToFirst", desc := "(I)I" } : Jvm.MethodName)) ∈ lw_good := am_in2 39 rfl rfl
set_option maxRecDepth 20000 in
theorem w_2_41 : (Jvm.Cond.instanceMethod ({ cls := "PagingKernel", name := "orphansToFirst", desc := "(I)I" } : Jvm.MethodName)) ∈ lw_good := am_in2 41 rfl rfl
set_option maxRecDepth 20000 in
theorem w_2_42 : (Jvm.Cond.code ({ cls := "PagingKernel", name := "orphansToFirst", desc := "(I)I" } : Jvm.MethodName) prog_1_method_29_code (4 : Nat) (Option.some Jvm.ClassFile.FieldType.int)) ∈ lw_good := am_in2 42 rfl rfl
set_option maxRecDepth 20000 in
theorem w_2_43 : (Jvm.Cond.methodLink "PagingKernelLaw" (88 : Nat) ({ cls := "PagingKernelLaw", name := "await", desc := "(LPagingKernel;I[J)I" } : Jvm.MethodName)) ∈ lw_good := am_in2 43 rfl rfl
set_option maxRecDepth 20000 in
theorem w_2_44 : (Jvm.Cond.static ({ cls := "PagingKernelLaw", name := "await", desc := "(LPagingKernel;I[J)I" } : Jvm.MethodName)) ∈ lw_good := am_in2 44 rfl rfl
set_option maxRecDepth 20000 in
theorem w_2_45 : (Jvm.Cond.codeWith ({ cls := "PagingKernelLaw", name := "await", desc := "(LPagingKernel;I[J)I" } : Jvm.MethodName) method_6_code (4 : Nat) (Option.some Jvm.ClassFile.FieldType.int) [((0 : Nat), (9 : Nat), (12 : Nat), (13 : Nat)), ((0 : Nat), (9 : Nat), (15 : Nat), (15 : Nat)), ((0 : Nat), (9 : Nat), (18 : Nat), (17 : Nat)), ((0 : Nat), (9 : Nat), (21 : Nat), (29 : Nat))]) ∈ lw_good := am_in2 45 rfl rfl
set_option maxRecDepth 20000 in
theorem w_2_46 : (Jvm.Cond.classLink "PagingKernelLaw" (29 : Nat) "java/lang/IllegalStateException") ∈ lw_good := am_in2 46 rfl rfl
set_option maxRecDepth 20000 in
theorem w_2_47 : (Jvm.Cond.methodLink "PagingKernelLaw" (26 : Nat) ({ cls := "PagingKernel", name := "await", desc := "(I)I" } : Jvm.MethodName)) ∈ lw_good := am_in2 47 rfl rfl
set_option maxRecDepth 20000 in
theorem w_2_48 : (Jvm.Cond.instanceMethod ({ cls := "PagingKernel", name := "await", desc := "(I)I" } : Jvm.MethodName)) ∈ lw_good := am_in2 48 rfl rfl
set_option maxRecDepth 20000 in
theorem w_2_49 : (Jvm.Cond.selects "PagingKernel" ({ cls := "PagingKernel", name := "await", desc := "(I)I" } : Jvm.MethodName) ({ cls := "PagingKernel", name := "await", desc := "(I)I" } : Jvm.MethodName)) ∈ lw_good := am_in2 49 rfl rfl
set_option maxRecDepth 20000 in
theorem w_2_50 : (Jvm.Cond.code ({ cls := "PagingKernel", name := "await", desc := "(I)I" } : Jvm.MethodName) prog_1_method_5_code (3 : Nat) (Option.some Jvm.ClassFile.FieldType.int)) ∈ lw_good := am_in2 50 rfl rfl
set_option maxRecDepth 20000 in
theorem w_2_51 : (Jvm.Cond.methodLink "PagingKernel" (83 : Nat) ({ cls := "PagingKernel", name := "isParent", desc := "(I)Z" } : Jvm.MethodName)) ∈ lw_good := am_in2 51 rfl rfl
set_option maxRecDepth 20000 in
theorem w_2_53 : (Jvm.Cond.instanceMethod ({ cls := "PagingKernel", name := "isParent", desc := "(I)Z" } : Jvm.MethodName)) ∈ lw_good := am_in2 53 rfl rfl
set_option maxRecDepth 20000 in
theorem w_2_54 : (Jvm.Cond.code ({ cls := "PagingKernel", name := "isParent", desc := "(I)Z" } : Jvm.MethodName) prog_1_method_27_code (3 : Nat) (Option.some Jvm.ClassFile.FieldType.boolean)) ∈ lw_good := am_in2 54 rfl rfl
set_option maxRecDepth 20000 in
theorem w_2_55 : (Jvm.Cond.methodLink "PagingKernel" (87 : Nat) ({ cls := "PagingKernel", name := "leastDeadChild", desc := "(I)I" } : Jvm.MethodName)) ∈ lw_good := am_in2 55 rfl rfl
set_option maxRecDepth 20000 in
theorem w_2_57 : (Jvm.Cond.instanceMethod ({ cls := "PagingKernel", name := "leastDeadChild", desc := "(I)I" } : Jvm.MethodName)) ∈ lw_good := am_in2 57 rfl rfl
set_option maxRecDepth 20000 in
theorem w_2_58 : (Jvm.Cond.code ({ cls := "PagingKernel", name := "leastDeadChild", desc := "(I)I" } : Jvm.MethodName) prog_1_method_28_code (3 : Nat) (Option.some Jvm.ClassFile.FieldType.int)) ∈ lw_good := am_in2 58 rfl rfl
set_option maxRecDepth 20000 in
theorem w_2_59 : (Jvm.Cond.classLink "PagingKernel" (90 : Nat) "java/lang/IllegalStateException") ∈ lw_good := am_in2 59 rfl rfl
set_option maxRecDepth 20000 in
theorem w_2_60 : (Jvm.Cond.instantiable "java/lang/IllegalStateException" (6 : Nat)) ∈ lw_good := am_in2 60 rfl rfl
set_option maxRecDepth 20000 in
theorem w_2_62 : (Jvm.Cond.selects "java/lang/IllegalStateException" ({ cls := "java/lang/Throwable", name := "fillInStackTrace", desc := "(I)Ljava/lang/Throwable;" } : Jvm.MethodName) ({ cls := "java/lang/Throwable", name := "fillInStackTrace", desc := "(I)Ljava/lang/Throwable;" } : Jvm.MethodName)) ∈ lw_good := am_in2 62 rfl rfl
set_option maxRecDepth 20000 in
theorem w_2_63 : (Jvm.Cond.lays "java/lang/IllegalStateException" "java/lang/Throwable" "cause" "Ljava/lang/Throwable;") ∈ lw_good := am_in2 63 rfl rfl
set_option maxRecDepth 20000 in
theorem w_2_64 : (Jvm.Cond.lays "java/lang/IllegalStateException" "java/lang/Throwable" "stackTrace" "[Ljava/lang/StackTraceElement;") ∈ lw_good := am_in2 64 rfl rfl
set_option maxRecDepth 20000 in
theorem w_2_65 : (Jvm.Cond.lays "java/lang/IllegalStateException" "java/lang/Throwable" "suppressedExceptions" "Ljava/util/List;") ∈ lw_good := am_in2 65 rfl rfl
set_option maxRecDepth 20000 in
theorem w_2_66 : (Jvm.Cond.lays "java/lang/IllegalStateException" "java/lang/Throwable" "detailMessage" "Ljava/lang/String;") ∈ lw_good := am_in2 66 rfl rfl
set_option maxRecDepth 20000 in
theorem w_2_67 : (Jvm.Cond.lays "java/lang/IllegalStateException" "java/lang/Throwable" "backtrace" "Ljava/lang/Object;") ∈ lw_good := am_in2 67 rfl rfl
set_option maxRecDepth 20000 in
theorem w_2_68 : (Jvm.Cond.methodLink "PagingKernel" (92 : Nat) ({ cls := "java/lang/IllegalStateException", name := "<init>", desc := "()V" } : Jvm.MethodName)) ∈ lw_good := am_in2 68 rfl rfl
set_option maxRecDepth 20000 in
theorem w_2_69 : (Jvm.Cond.instanceMethod ({ cls := "java/lang/IllegalStateException", name := "<init>", desc := "()V" } : Jvm.MethodName)) ∈ lw_good := am_in2 69 rfl rfl
set_option maxRecDepth 20000 in
theorem w_2_70 : (Jvm.Cond.code ({ cls := "java/lang/IllegalStateException", name := "<init>", desc := "()V" } : Jvm.MethodName) prog_7_method_1_code (1 : Nat) (Option.none : Option Jvm.ClassFile.FieldType)) ∈ lw_good := am_in2 70 rfl rfl
set_option maxRecDepth 20000 in
theorem w_2_71 : (Jvm.Cond.methodLink "java/lang/IllegalStateException" (1 : Nat) ({ cls := "java/lang/RuntimeException", name := "<init>", desc := "()V" } : Jvm.MethodName)) ∈ lw_good := am_in2 71 rfl rfl
set_option maxRecDepth 20000 in
theorem w_2_74 : (Jvm.Cond.methodLink "PagingKernelLaw" (91 : Nat) ({ cls := "PagingKernelLaw", name := "grow", desc := "(LPagingKernel;II[J)I" } : Jvm.MethodName)) ∈ lw_good := am_in2 74 rfl rfl
set_option maxRecDepth 20000 in
theorem w_2_75 : (Jvm.Cond.static ({ cls := "PagingKernelLaw", name := "grow", desc := "(LPagingKernel;II[J)I" } : Jvm.MethodName)) ∈ lw_good := am_in2 75 rfl rfl
set_option maxRecDepth 20000 in
theorem w_2_76 : (Jvm.Cond.codeWith ({ cls := "PagingKernelLaw", name := "grow", desc := "(LPagingKernel;II[J)I" } : Jvm.MethodName) method_7_code (5 : Nat) (Option.some Jvm.ClassFile.FieldType.int) [((0 : Nat), (10 : Nat), (13 : Nat), (13 : Nat)), ((0 : Nat), (10 : Nat), (17 : Nat), (15 : Nat)), ((0 : Nat), (10 : Nat), (21 : Nat), (17 : Nat))]) ∈ lw_good := am_in2 76 rfl rfl
set_option maxRecDepth 20000 in
theorem w_2_77 : (Jvm.Cond.methodLink "PagingKernelLaw" (31 : Nat) ({ cls := "PagingKernel", name := "grow", desc := "(II)I" } : Jvm.MethodName)) ∈ lw_good := am_in2 77 rfl rfl
set_option maxRecDepth 20000 in
theorem w_2_78 : (Jvm.Cond.instanceMethod ({ cls := "PagingKernel", name := "grow", desc := "(II)I" } : Jvm.MethodName)) ∈ lw_good := am_in2 78 rfl rfl
set_option maxRecDepth 20000 in
theorem w_2_79 : (Jvm.Cond.selects "PagingKernel" ({ cls := "PagingKernel", name := "grow", desc := "(II)I" } : Jvm.MethodName) ({ cls := "PagingKernel", name := "grow", desc := "(II)I" } : Jvm.MethodName)) ∈ lw_good := am_in2 79 rfl rfl
set_option maxRecDepth 20000 in
theorem w_2_80 : (Jvm.Cond.code ({ cls := "PagingKernel", name := "grow", desc := "(II)I" } : Jvm.MethodName) prog_1_method_6_code (5 : Nat) (Option.some Jvm.ClassFile.FieldType.int)) ∈ lw_good := am_in2 80 rfl rfl
set_option maxRecDepth 20000 in
theorem w_2_81 : (Jvm.Cond.methodLink "PagingKernelLaw" (94 : Nat) ({ cls := "PagingKernelLaw", name := "read", desc := "(LPagingKernel;II[J)I" } : Jvm.MethodName)) ∈ lw_good := am_in2 81 rfl rfl
set_option maxRecDepth 20000 in
theorem w_2_82 : (Jvm.Cond.static ({ cls := "PagingKernelLaw", name := "read", desc := "(LPagingKernel;II[J)I" } : Jvm.MethodName)) ∈ lw_good := am_in2 82 rfl rfl
set_option maxRecDepth 20000 in
theorem w_2_83 : (Jvm.Cond.codeWith ({ cls := "PagingKernelLaw", name := "read", desc := "(LPagingKernel;II[J)I" } : Jvm.MethodName) method_8_code (5 : Nat) (Option.some Jvm.ClassFile.FieldType.int) [((0 : Nat), (10 : Nat), (13 : Nat), (13 : Nat)), ((0 : Nat), (10 : Nat), (17 : Nat), (15 : Nat)), ((0 : Nat), (10 : Nat), (21 : Nat), (37 : Nat)), ((0 : Nat), (10 : Nat), (25 : Nat), (29 : Nat))]) ∈ lw_good := am_in2 83 rfl rfl
set_option maxRecDepth 20000 in
theorem w_2_84 : (Jvm.Cond.classLink "PagingKernelLaw" (37 : Nat) "java/lang/IndexOutOfBoundsException") ∈ lw_good := am_in2 84 rfl rfl
set_option maxRecDepth 20000 in
theorem w_2_85 : (Jvm.Cond.methodLink "PagingKernelLaw" (34 : Nat) ({ cls := "PagingKernel", name := "read", desc := "(II)I" } : Jvm.MethodName)) ∈ lw_good := am_in2 85 rfl rfl
set_option maxRecDepth 20000 in
theorem w_2_86 : (Jvm.Cond.instanceMethod ({ cls := "PagingKernel", name := "read", desc := "(II)I" } : Jvm.MethodName)) ∈ lw_good := am_in2 86 rfl rfl
set_option maxRecDepth 20000 in
theorem w_2_87 : (Jvm.Cond.selects "PagingKernel" ({ cls := "PagingKernel", name := "read", desc := "(II)I" } : Jvm.MethodName) ({ cls := "PagingKernel", name := "read", desc := "(II)I" } : Jvm.MethodName)) ∈ lw_good := am_in2 87 rfl rfl
set_option maxRecDepth 20000 in
theorem w_2_88 : (Jvm.Cond.code ({ cls := "PagingKernel", name := "read", desc := "(II)I" } : Jvm.MethodName) prog_1_method_7_code (4 : Nat) (Option.some Jvm.ClassFile.FieldType.int)) ∈ lw_good := am_in2 88 rfl rfl
set_option maxRecDepth 20000 in
theorem w_2_89 : (Jvm.Cond.methodLink "PagingKernel" (96 : Nat) ({ cls := "PagingKernel", name := "checkAddress", desc := "(II)V" } : Jvm.MethodName)) ∈ lw_good := am_in2 89 rfl rfl
set_option maxRecDepth 20000 in
theorem w_2_91 : (Jvm.Cond.instanceMethod ({ cls := "PagingKernel", name := "checkAddress", desc := "(II)V" } : Jvm.MethodName)) ∈ lw_good := am_in2 91 rfl rfl
set_option maxRecDepth 20000 in
theorem w_2_92 : (Jvm.Cond.code ({ cls := "PagingKernel", name := "checkAddress", desc := "(II)V" } : Jvm.MethodName) prog_1_method_19_code (3 : Nat) (Option.none : Option Jvm.ClassFile.FieldType)) ∈ lw_good := am_in2 92 rfl rfl
set_option maxRecDepth 20000 in
theorem w_2_93 : (Jvm.Cond.methodLink "PagingKernel" (99 : Nat) ({ cls := "PagingKernel", name := "growStackTo", desc := "(II)V" } : Jvm.MethodName)) ∈ lw_good := am_in2 93 rfl rfl
set_option maxRecDepth 20000 in
theorem w_2_95 : (Jvm.Cond.instanceMethod ({ cls := "PagingKernel", name := "growStackTo", desc := "(II)V" } : Jvm.MethodName)) ∈ lw_good := am_in2 95 rfl rfl
set_option maxRecDepth 20000 in
theorem w_2_96 : (Jvm.Cond.code ({ cls := "PagingKernel", name := "growStackTo", desc := "(II)V" } : Jvm.MethodName) prog_1_method_25_code (4 : Nat) (Option.none : Option Jvm.ClassFile.FieldType)) ∈ lw_good := am_in2 96 rfl rfl
set_option maxRecDepth 20000 in
theorem w_2_97 : (Jvm.Cond.methodLink "PagingKernel" (102 : Nat) ({ cls := "PagingKernel", name := "pageThere", desc := "(II)I" } : Jvm.MethodName)) ∈ lw_good := am_in2 97 rfl rfl
set_option maxRecDepth 20000 in
theorem w_2_99 : (Jvm.Cond.instanceMethod ({ cls := "PagingKernel", name := "pageThere", desc := "(II)I" } : Jvm.MethodName)) ∈ lw_good := am_in2 99 rfl rfl
set_option maxRecDepth 20000 in
theorem w_2_100 : (Jvm.Cond.code ({ cls := "PagingKernel", name := "pageThere", desc := "(II)I" } : Jvm.MethodName) prog_1_method_20_code (4 : Nat) (Option.some Jvm.ClassFile.FieldType.int)) ∈ lw_good := am_in2 100 rfl rfl
set_option maxRecDepth 20000 in
theorem w_2_101 : (Jvm.Cond.classLink "PagingKernel" (167 : Nat) "java/lang/IndexOutOfBoundsException") ∈ lw_good := am_in2 101 rfl rfl
set_option maxRecDepth 20000 in
theorem w_2_102 : (Jvm.Cond.instantiable "java/lang/IndexOutOfBoundsException" (6 : Nat)) ∈ lw_good := am_in2 102 rfl rfl
set_option maxRecDepth 20000 in
theorem w_2_104 : (Jvm.Cond.selects "java/lang/IndexOutOfBoundsException" ({ cls := "java/lang/Throwable", name := "fillInStackTrace", desc := "(I)Ljava/lang/Throwable;" } : Jvm.MethodName) ({ cls := "java/lang/Throwable", name := "fillInStackTrace", desc := "(I)Ljava/lang/Throwable;" } : Jvm.MethodName)) ∈ lw_good := am_in2 104 rfl rfl
set_option maxRecDepth 20000 in
theorem w_2_105 : (Jvm.Cond.lays "java/lang/IndexOutOfBoundsException" "java/lang/Throwable" "cause" "Ljava/lang/Throwable;") ∈ lw_good := am_in2 105 rfl rfl
set_option maxRecDepth 20000 in
theorem w_2_106 : (Jvm.Cond.lays "java/lang/IndexOutOfBoundsException" "java/lang/Throwable" "stackTrace" "[Ljava/lang/StackTraceElement;") ∈ lw_good := am_in2 106 rfl rfl
set_option maxRecDepth 20000 in
theorem w_2_107 : (Jvm.Cond.lays "java/lang/IndexOutOfBoundsException" "java/lang/Throwable" "suppressedExceptions" "Ljava/util/List;") ∈ lw_good := am_in2 107 rfl rfl
set_option maxRecDepth 20000 in
theorem w_2_108 : (Jvm.Cond.lays "java/lang/IndexOutOfBoundsException" "java/lang/Throwable" "detailMessage" "Ljava/lang/String;") ∈ lw_good := am_in2 108 rfl rfl
set_option maxRecDepth 20000 in
theorem w_2_109 : (Jvm.Cond.lays "java/lang/IndexOutOfBoundsException" "java/lang/Throwable" "backtrace" "Ljava/lang/Object;") ∈ lw_good := am_in2 109 rfl rfl
set_option maxRecDepth 20000 in
theorem w_2_110 : (Jvm.Cond.methodLink "PagingKernel" (169 : Nat) ({ cls := "java/lang/IndexOutOfBoundsException", name := "<init>", desc := "()V" } : Jvm.MethodName)) ∈ lw_good := am_in2 110 rfl rfl
set_option maxRecDepth 20000 in
theorem w_2_111 : (Jvm.Cond.instanceMethod ({ cls := "java/lang/IndexOutOfBoundsException", name := "<init>", desc := "()V" } : Jvm.MethodName)) ∈ lw_good := am_in2 111 rfl rfl
set_option maxRecDepth 20000 in
theorem w_2_112 : (Jvm.Cond.code ({ cls := "java/lang/IndexOutOfBoundsException", name := "<init>", desc := "()V" } : Jvm.MethodName) prog_8_method_1_code (1 : Nat) (Option.none : Option Jvm.ClassFile.FieldType)) ∈ lw_good := am_in2 112 rfl rfl
set_option maxRecDepth 20000 in
theorem w_2_113 : (Jvm.Cond.methodLink "java/lang/IndexOutOfBoundsException" (1 : Nat) ({ cls := "java/lang/RuntimeException", name := "<init>", desc := "()V" } : Jvm.MethodName)) ∈ lw_good := am_in2 113 rfl rfl
set_option maxRecDepth 20000 in
theorem w_2_116 : (Jvm.Cond.methodLink "PagingKernel" (106 : Nat) ({ cls := "PagingKernel$Memory", name := "touch", desc := "(I)Z" } : Jvm.MethodName)) ∈ lw_good := am_in2 116 rfl rfl
set_option maxRecDepth 20000 in
theorem w_2_117 : (Jvm.Cond.instanceMethod ({ cls := "PagingKernel$Memory", name := "touch", desc := "(I)Z" } : Jvm.MethodName)) ∈ lw_good := am_in2 117 rfl rfl
set_option maxRecDepth 20000 in
theorem w_2_118 : (Jvm.Cond.selects "PagingKernel$Memory" ({ cls := "PagingKernel$Memory", name := "touch", desc := "(I)Z" } : Jvm.MethodName) ({ cls := "PagingKernel$Memory", name := "touch", desc := "(I)Z" } : Jvm.MethodName)) ∈ lw_good := am_in2 118 rfl rfl
set_option maxRecDepth 20000 in
theorem w_2_119 : (Jvm.Cond.code ({ cls := "PagingKernel$Memory", name := "touch", desc := "(I)Z" } : Jvm.MethodName) prog_2_method_13_code (3 : Nat) (Option.some Jvm.ClassFile.FieldType.boolean)) ∈ lw_good := am_in2 119 rfl rfl
set_option maxRecDepth 20000 in
theorem w_2_120 : (Jvm.Cond.methodLink "PagingKernel$Memory" (58 : Nat) ({ cls := "PagingKernel$Memory", name := "isIn", desc := "(I)Z" } : Jvm.MethodName)) ∈ lw_good := am_in2 120 rfl rfl
set_option maxRecDepth 20000 in
theorem w_2_122 : (Jvm.Cond.instanceMethod ({ cls := "PagingKernel$Memory", name := "isIn", desc := "(I)Z" } : Jvm.MethodName)) ∈ lw_good := am_in2 122 rfl rfl
set_option maxRecDepth 20000 in
theorem w_2_123 : (Jvm.Cond.code ({ cls := "PagingKernel$Memory", name := "isIn", desc := "(I)Z" } : Jvm.MethodName) prog_2_method_18_code (2 : Nat) (Option.some Jvm.ClassFile.FieldType.boolean)) ∈ lw_good := am_in2 123 rfl rfl
set_option maxRecDepth 20000 in
theorem w_2_124 : (Jvm.Cond.methodLink "PagingKernel$Memory" (62 : Nat) ({ cls := "PagingKernel$Memory", name := "getFrame", desc := "()I" } : Jvm.MethodName)) ∈ lw_good := am_in2 124 rfl rfl
set_option maxRecDepth 20000 in
theorem w_2_126 : (Jvm.Cond.instanceMethod ({ cls := "PagingKernel$Memory", name := "getFrame", desc := "()I" } : Jvm.MethodName)) ∈ lw_good := am_in2 126 rfl rfl
set_option maxRecDepth 20000 in
theorem w_2_127 : (Jvm.Cond.code ({ cls := "PagingKernel$Memory", name := "getFrame", desc := "()I" } : Jvm.MethodName) prog_2_method_17_code (4 : Nat) (Option.some Jvm.ClassFile.FieldType.int)) ∈ lw_good := am_in2 127 rfl rfl
set_option maxRecDepth 20000 in
theorem w_2_128 : (Jvm.Cond.methodLink "PagingKernel$Memory" (91 : Nat) ({ cls := "PagingKernel$Memory", name := "leastFree", desc := "([I)I" } : Jvm.MethodName)) ∈ lw_good := am_in2 128 rfl rfl
set_option maxRecDepth 20000 in
theorem w_2_129 : (Jvm.Cond.static ({ cls := "PagingKernel$Memory", name := "leastFree", desc := "([I)I" } : Jvm.MethodName)) ∈ lw_good := am_in2 129 rfl rfl
set_option maxRecDepth 20000 in
theorem w_2_130 : (Jvm.Cond.code ({ cls := "PagingKernel$Memory", name := "leastFree", desc := "([I)I" } : Jvm.MethodName) prog_2_method_24_code (2 : Nat) (Option.some Jvm.ClassFile.FieldType.int)) ∈ lw_good := am_in2 130 rfl rfl
set_option maxRecDepth 20000 in
theorem w_2_131 : (Jvm.Cond.methodLink "PagingKernel$Memory" (94 : Nat) ({ cls := "PagingKernel$Memory", name := "lookAndMoveOn", desc := "()Z" } : Jvm.MethodName)) ∈ lw_good := am_in2 131 rfl rfl
set_option maxRecDepth 20000 in
theorem w_2_132 : (Jvm.Cond.instanceMethod ({ cls := "PagingKernel$Memory", name := "lookAndMoveOn", desc := "()Z" } : Jvm.MethodName)) ∈ lw_good := am_in2 132 rfl rfl
set_option maxRecDepth 20000 in
theorem w_2_133 : (Jvm.Cond.selects "PagingKernel$Memory" ({ cls := "PagingKernel$Memory", name := "lookAndMoveOn", desc := "()Z" } : Jvm.MethodName) ({ cls := "PagingKernel$Memory", name := "lookAndMoveOn", desc := "()Z" } : Jvm.MethodName)) ∈ lw_good := am_in2 133 rfl rfl
set_option maxRecDepth 20000 in
theorem w_2_134 : (Jvm.Cond.code ({ cls := "PagingKernel$Memory", name := "lookAndMoveOn", desc := "()Z" } : Jvm.MethodName) prog_2_method_15_code (3 : Nat) (Option.some Jvm.ClassFile.FieldType.boolean)) ∈ lw_good := am_in2 134 rfl rfl
set_option maxRecDepth 20000 in
theorem w_2_135 : (Jvm.Cond.methodLink "PagingKernel$Memory" (85 : Nat) ({ cls := "PagingKernel$Memory", name := "canGo", desc := "(I)Z" } : Jvm.MethodName)) ∈ lw_good := am_in2 135 rfl rfl
set_option maxRecDepth 20000 in
theorem w_2_137 : (Jvm.Cond.instanceMethod ({ cls := "PagingKernel$Memory", name := "canGo", desc := "(I)Z" } : Jvm.MethodName)) ∈ lw_good := am_in2 137 rfl rfl
set_option maxRecDepth 20000 in
theorem w_2_138 : (Jvm.Cond.code ({ cls := "PagingKernel$Memory", name := "canGo", desc := "(I)Z" } : Jvm.MethodName) prog_2_method_20_code (2 : Nat) (Option.some Jvm.ClassFile.FieldType.boolean)) ∈ lw_good := am_in2 138 rfl rfl
set_option maxRecDepth 20000 in
theorem w_2_139 : (Jvm.Cond.methodLink "PagingKernel$Memory" (98 : Nat) ({ cls := "PagingKernel$Memory", name := "isText", desc := "(I)Z" } : Jvm.MethodName)) ∈ lw_good := am_in2 139 rfl rfl
set_option maxRecDepth 20000 in
theorem w_2_140 : (Jvm.Cond.static ({ cls := "PagingKernel$Memory", name := "isText", desc := "(I)Z" } : Jvm.MethodName)) ∈ lw_good := am_in2 140 rfl rfl
set_option maxRecDepth 20000 in
theorem w_2_141 : (Jvm.Cond.code ({ cls := "PagingKernel$Memory", name := "isText", desc := "(I)Z" } : Jvm.MethodName) prog_2_method_19_code (1 : Nat) (Option.some Jvm.ClassFile.FieldType.boolean)) ∈ lw_good := am_in2 141 rfl rfl
set_option maxRecDepth 20000 in
theorem w_2_142 : (Jvm.Cond.methodLink "PagingKernel$Memory" (88 : Nat) ({ cls := "PagingKernel$Memory", name := "sendOut", desc := "(I)V" } : Jvm.MethodName)) ∈ lw_good := am_in2 142 rfl rfl
set_option maxRecDepth 20000 in
theorem w_2_144 : (Jvm.Cond.instanceMethod ({ cls := "PagingKernel$Memory", name := "sendOut", desc := "(I)V" } : Jvm.MethodName)) ∈ lw_good := am_in2 144 rfl rfl
set_option maxRecDepth 20000 in
theorem w_2_145 : (Jvm.Cond.code ({ cls := "PagingKernel$Memory", name := "sendOut", desc := "(I)V" } : Jvm.MethodName) prog_2_method_21_code (3 : Nat) (Option.none : Option Jvm.ClassFile.FieldType)) ∈ lw_good := am_in2 145 rfl rfl
set_option maxRecDepth 20000 in
theorem w_2_146 : (Jvm.Cond.methodLink "PagingKernel$Memory" (66 : Nat) ({ cls := "PagingKernel$Memory", name := "settle", desc := "(II)V" } : Jvm.MethodName)) ∈ lw_good := am_in2 146 rfl rfl
set_option maxRecDepth 20000 in
theorem w_2_148 : (Jvm.Cond.instanceMethod ({ cls := "PagingKernel$Memory", name := "settle", desc := "(II)V" } : Jvm.MethodName)) ∈ lw_good := am_in2 148 rfl rfl
set_option maxRecDepth 20000 in
theorem w_2_149 : (Jvm.Cond.code ({ cls := "PagingKernel$Memory", name := "settle", desc := "(II)V" } : Jvm.MethodName) prog_2_method_22_code (3 : Nat) (Option.none : Option Jvm.ClassFile.FieldType)) ∈ lw_good := am_in2 149 rfl rfl
set_option maxRecDepth 20000 in
theorem w_2_150 : (Jvm.Cond.methodLink "PagingKernel" (109 : Nat) ({ cls := "PagingKernel$Memory", name := "wordOf", desc := "(II)I" } : Jvm.MethodName)) ∈ lw_good := am_in2 150 rfl rfl
set_option maxRecDepth 20000 in
theorem w_2_151 : (Jvm.Cond.instanceMethod ({ cls := "PagingKernel$Memory", name := "wordOf", desc := "(II)I" } : Jvm.MethodName)) ∈ lw_good := am_in2 151 rfl rfl
set_option maxRecDepth 20000 in
theorem w_2_152 : (Jvm.Cond.selects "PagingKernel$Memory" ({ cls := "PagingKernel$Memory", name := "wordOf", desc := "(II)I" } : Jvm.MethodName) ({ cls := "PagingKernel$Memory", name := "wordOf", desc := "(II)I" } : Jvm.MethodName)) ∈ lw_good := am_in2 152 rfl rfl
set_option maxRecDepth 20000 in
theorem w_2_153 : (Jvm.Cond.code ({ cls := "PagingKernel$Memory", name := "wordOf", desc := "(II)I" } : Jvm.MethodName) prog_2_method_3_code (3 : Nat) (Option.some Jvm.ClassFile.FieldType.int)) ∈ lw_good := am_in2 153 rfl rfl
set_option maxRecDepth 20000 in
theorem w_2_154 : (Jvm.Cond.methodLink "PagingKernelLaw" (97 : Nat) ({ cls := "PagingKernelLaw", name := "write", desc := "(LPagingKernel;III[J)I" } : Jvm.MethodName)) ∈ lw_good := am_in2 154 rfl rfl
set_option maxRecDepth 20000 in
theorem w_2_155 : (Jvm.Cond.static ({ cls := "PagingKernelLaw", name := "write", desc := "(LPagingKernel;III[J)I" } : Jvm.MethodName)) ∈ lw_good := am_in2 155 rfl rfl
set_option maxRecDepth 20000 in
theorem w_2_156 : (Jvm.Cond.codeWith ({ cls := "PagingKernelLaw", name := "write", desc := "(LPagingKernel;III[J)I" } : Jvm.MethodName) method_9_code (6 : Nat) (Option.some Jvm.ClassFile.FieldType.int) [((0 : Nat), (12 : Nat), (15 : Nat), (13 : Nat)), ((0 : Nat), (12 : Nat), (19 : Nat), (15 : Nat)), ((0 : Nat), (12 : Nat), (23 : Nat), (37 : Nat)), ((0 : Nat), (12 : Nat), (27 : Nat), (17 : Nat)), ((0 : Nat), (12 : Nat), (31 : Nat), (29 : Nat))]) ∈ lw_good := am_in2 156 rfl rfl
set_option maxRecDepth 20000 in
theorem w_2_157 : (Jvm.Cond.methodLink "PagingKernelLaw" (39 : Nat) ({ cls := "PagingKernel", name := "write", desc := "(III)I" } : Jvm.MethodName)) ∈ lw_good := am_in2 157 rfl rfl
set_option maxRecDepth 20000 in
theorem w_2_158 : (Jvm.Cond.instanceMethod ({ cls := "PagingKernel", name := "write", desc := "(III)I" } : Jvm.MethodName)) ∈ lw_good := am_in2 158 rfl rfl
set_option maxRecDepth 20000 in
theorem w_2_159 : (Jvm.Cond.selects "PagingKernel" ({ cls := "PagingKernel", name := "write", desc := "(III)I" } : Jvm.MethodName) ({ cls := "PagingKernel", name := "write", desc := "(III)I" } : Jvm.MethodName)) ∈ lw_good := am_in2 159 rfl rfl
set_option maxRecDepth 20000 in
theorem w_2_160 : (Jvm.Cond.code ({ cls := "PagingKernel", name := "write", desc := "(III)I" } : Jvm.MethodName) prog_1_method_8_code (7 : Nat) (Option.some Jvm.ClassFile.FieldType.int)) ∈ lw_good := am_in2 160 rfl rfl
set_option maxRecDepth 20000 in
theorem w_2_161 : (Jvm.Cond.methodLink "PagingKernel" (112 : Nat) ({ cls := "PagingKernel$Memory", name := "touchOwn", desc := "(I)I" } : Jvm.MethodName)) ∈ lw_good := am_in2 161 rfl rfl
set_option maxRecDepth 20000 in
theorem w_2_162 : (Jvm.Cond.instanceMethod ({ cls := "PagingKernel$Memory", name := "touchOwn", desc := "(I)I" } : Jvm.MethodName)) ∈ lw_good := am_in2 162 rfl rfl
set_option maxRecDepth 20000 in
theorem w_2_163 : (Jvm.Cond.selects "PagingKernel$Memory" ({ cls := "PagingKernel$Memory", name := "touchOwn", desc := "(I)I" } : Jvm.MethodName) ({ cls := "PagingKernel$Memory", name := "touchOwn", desc := "(I)I" } : Jvm.MethodName)) ∈ lw_good := am_in2 163 rfl rfl
set_option maxRecDepth 20000 in
theorem w_2_164 : (Jvm.Cond.code ({ cls := "PagingKernel$Memory", name := "touchOwn", desc := "(I)I" } : Jvm.MethodName) prog_2_method_14_code (4 : Nat) (Option.some Jvm.ClassFile.FieldType.int)) ∈ lw_good := am_in2 164 rfl rfl
set_option maxRecDepth 20000 in
theorem w_2_165 : (Jvm.Cond.methodLink "PagingKernel$Memory" (70 : Nat) ({ cls := "PagingKernel$Memory", name := "touch", desc := "(I)Z" } : Jvm.MethodName)) ∈ lw_good := am_in2 165 rfl rfl
set_option maxRecDepth 20000 in
theorem w_2_166 : (Jvm.Cond.methodLink "PagingKernel$Memory" (73 : Nat) ({ cls := "PagingKernel$Memory", name := "newPage", desc := "()I" } : Jvm.MethodName)) ∈ lw_good := am_in2 166 rfl rfl
set_option maxRecDepth 20000 in
theorem w_2_167 : (Jvm.Cond.methodLink "PagingKernel$Memory" (76 : Nat) ({ cls := "java/lang/System", name := "arraycopy", desc := "(Ljava/lang/Object;ILjava/lang/Object;II)V" } : Jvm.MethodName)) ∈ lw_good := am_in2 167 rfl rfl
set_option maxRecDepth 20000 in
theorem w_2_168 : (Jvm.Cond.static ({ cls := "java/lang/System", name := "arraycopy", desc := "(Ljava/lang/Object;ILjava/lang/Object;II)V" } : Jvm.MethodName)) ∈ lw_good := am_in2 168 rfl rfl
set_option maxRecDepth 20000 in
theorem w_2_169 : (Jvm.Cond.native ({ cls := "java/lang/System", name := "arraycopy", desc := "(Ljava/lang/Object;ILjava/lang/Object;II)V" } : Jvm.MethodName)) ∈ lw_good := am_in2 169 rfl rfl
set_option maxRecDepth 20000 in
theorem w_2_170 : (Jvm.Cond.methodLink "PagingKernel$Memory" (82 : Nat) ({ cls := "PagingKernel$Memory", name := "leave", desc := "(I)V" } : Jvm.MethodName)) ∈ lw_good := am_in2 170 rfl rfl
set_option maxRecDepth 20000 in
theorem w_2_171 : (Jvm.Cond.methodLink "PagingKernel" (115 : Nat) ({ cls := "PagingKernel$Memory", name := "replaceWord", desc := "(III)I" } : Jvm.MethodName)) ∈ lw_good := am_in2 171 rfl rfl
set_option maxRecDepth 20000 in
theorem w_2_172 : (Jvm.Cond.instanceMethod ({ cls := "PagingKernel$Memory", name := "replaceWord", desc := "(III)I" } : Jvm.MethodName)) ∈ lw_good := am_in2 172 rfl rfl
set_option maxRecDepth 20000 in
theorem w_2_173 : (Jvm.Cond.selects "PagingKernel$Memory" ({ cls := "PagingKernel$Memory", name := "replaceWord", desc := "(III)I" } : Jvm.MethodName) ({ cls := "PagingKernel$Memory", name := "replaceWord", desc := "(III)I" } : Jvm.MethodName)) ∈ lw_good := am_in2 173 rfl rfl
set_option maxRecDepth 20000 in
theorem w_2_174 : (Jvm.Cond.code ({ cls := "PagingKernel$Memory", name := "replaceWord", desc := "(III)I" } : Jvm.MethodName) prog_2_method_4_code (5 : Nat) (Option.some Jvm.ClassFile.FieldType.int)) ∈ lw_good := am_in2 174 rfl rfl
set_option maxRecDepth 20000 in
theorem w_2_175 : (Jvm.Cond.methodLink "PagingKernelLaw" (101 : Nat) ({ cls := "PagingKernelLaw", name := "sweep", desc := "(LPagingKernel;I[J)I" } : Jvm.MethodName)) ∈ lw_good := am_in2 175 rfl rfl
set_option maxRecDepth 20000 in
theorem w_2_176 : (Jvm.Cond.static ({ cls := "PagingKernelLaw", name := "sweep", desc := "(LPagingKernel;I[J)I" } : Jvm.MethodName)) ∈ lw_good := am_in2 176 rfl rfl
set_option maxRecDepth 20000 in
theorem w_2_177 : (Jvm.Cond.codeWith ({ cls := "PagingKernelLaw", name := "sweep", desc := "(LPagingKernel;I[J)I" } : Jvm.MethodName) method_10_code (4 : Nat) (Option.some Jvm.ClassFile.FieldType.int) [((0 : Nat), (9 : Nat), (12 : Nat), (13 : Nat))]) ∈ lw_good := am_in2 177 rfl rfl
set_option maxRecDepth 20000 in
theorem w_2_178 : (Jvm.Cond.methodLink "PagingKernelLaw" (43 : Nat) ({ cls := "PagingKernel", name := "sweep", desc := "(I)I" } : Jvm.MethodName)) ∈ lw_good := am_in2 178 rfl rfl
set_option maxRecDepth 20000 in
theorem w_2_179 : (Jvm.Cond.instanceMethod ({ cls := "PagingKernel", name := "sweep", desc := "(I)I" } : Jvm.MethodName)) ∈ lw_good := am_in2 179 rfl rfl
set_option maxRecDepth 20000 in
theorem w_2_180 : (Jvm.Cond.selects "PagingKernel" ({ cls := "PagingKernel", name := "sweep", desc := "(I)I" } : Jvm.MethodName) ({ cls := "PagingKernel", name := "sweep", desc := "(I)I" } : Jvm.MethodName)) ∈ lw_good := am_in2 180 rfl rfl
set_option maxRecDepth 20000 in
theorem w_2_181 : (Jvm.Cond.code ({ cls := "PagingKernel", name := "sweep", desc := "(I)I" } : Jvm.MethodName) prog_1_method_9_code (4 : Nat) (Option.some Jvm.ClassFile.FieldType.int)) ∈ lw_good := am_in2 181 rfl rfl
set_option maxRecDepth 20000 in
theorem w_2_182 : (Jvm.Cond.methodLink "PagingKernel" (118 : Nat) ({ cls := "PagingKernel$Memory", name := "lookAndMoveOn", desc := "()Z" } : Jvm.MethodName)) ∈ lw_good := am_in2 182 rfl rfl
set_option maxRecDepth 20000 in
theorem w_2_183 : (Jvm.Cond.methodLink "PagingKernelLaw" (104 : Nat) ({ cls := "PagingKernelLaw", name := "swapOut", desc := "(LPagingKernel;I[J)I" } : Jvm.MethodName)) ∈ lw_good := am_in2 183 rfl rfl
set_option maxRecDepth 20000 in
theorem w_2_184 : (Jvm.Cond.static ({ cls := "PagingKernelLaw", name := "swapOut", desc := "(LPagingKernel;I[J)I" } : Jvm.MethodName)) ∈ lw_good := am_in2 184 rfl rfl
set_option maxRecDepth 20000 in
theorem w_2_185 : (Jvm.Cond.codeWith ({ cls := "PagingKernelLaw", name := "swapOut", desc := "(LPagingKernel;I[J)I" } : Jvm.MethodName) method_11_code (4 : Nat) (Option.some Jvm.ClassFile.FieldType.int) [((0 : Nat), (9 : Nat), (12 : Nat), (13 : Nat)), ((0 : Nat), (9 : Nat), (15 : Nat), (15 : Nat))]) ∈ lw_good := am_in2 185 rfl rfl
set_option maxRecDepth 20000 in
theorem w_2_186 : (Jvm.Cond.methodLink "PagingKernelLaw" (46 : Nat) ({ cls := "PagingKernel", name := "swapOut", desc := "(I)I" } : Jvm.MethodName)) ∈ lw_good := am_in2 186 rfl rfl
set_option maxRecDepth 20000 in
theorem w_2_187 : (Jvm.Cond.instanceMethod ({ cls := "PagingKernel", name := "swapOut", desc := "(I)I" } : Jvm.MethodName)) ∈ lw_good := am_in2 187 rfl rfl
set_option maxRecDepth 20000 in
theorem w_2_188 : (Jvm.Cond.selects "PagingKernel" ({ cls := "PagingKernel", name := "swapOut", desc := "(I)I" } : Jvm.MethodName) ({ cls := "PagingKernel", name := "swapOut", desc := "(I)I" } : Jvm.MethodName)) ∈ lw_good := am_in2 188 rfl rfl
set_option maxRecDepth 20000 in
theorem w_2_189 : (Jvm.Cond.code ({ cls := "PagingKernel", name := "swapOut", desc := "(I)I" } : Jvm.MethodName) prog_1_method_10_code (5 : Nat) (Option.some Jvm.ClassFile.FieldType.int)) ∈ lw_good := am_in2 189 rfl rfl
set_option maxRecDepth 20000 in
theorem w_2_190 : (Jvm.Cond.methodLink "PagingKernel" (122 : Nat) ({ cls := "PagingKernel$Memory", name := "sendOutIfUnshared", desc := "(I)Z" } : Jvm.MethodName)) ∈ lw_good := am_in2 190 rfl rfl
set_option maxRecDepth 20000 in
theorem w_2_191 : (Jvm.Cond.instanceMethod ({ cls := "PagingKernel$Memory", name := "sendOutIfUnshared", desc := "(I)Z" } : Jvm.MethodName)) ∈ lw_good := am_in2 191 rfl rfl
set_option maxRecDepth 20000 in
theorem w_2_192 : (Jvm.Cond.selects "PagingKernel$Memory" ({ cls := "PagingKernel$Memory", name := "sendOutIfUnshared", desc := "(I)Z" } : Jvm.MethodName) ({ cls := "PagingKernel$Memory", name := "sendOutIfUnshared", desc := "(I)Z" } : Jvm.MethodName)) ∈ lw_good := am_in2 192 rfl rfl
set_option maxRecDepth 20000 in
theorem w_2_193 : (Jvm.Cond.code ({ cls := "PagingKernel$Memory", name := "sendOutIfUnshared", desc := "(I)Z" } : Jvm.MethodName) prog_2_method_16_code (3 : Nat) (Option.some Jvm.ClassFile.FieldType.boolean)) ∈ lw_good := am_in2 193 rfl rfl
set_option maxRecDepth 20000 in
theorem w_2_194 : (Jvm.Cond.methodLink "PagingKernelLaw" (107 : Nat) ({ cls := "PagingKernelLaw", name := "where", desc := "(LPagingKernel;II[J)I" } : Jvm.MethodName)) ∈ lw_good := am_in2 194 rfl rfl
set_option maxRecDepth 20000 in
theorem w_2_195 : (Jvm.Cond.static ({ cls := "PagingKernelLaw", name := "where", desc := "(LPagingKernel;II[J)I" } : Jvm.MethodName)) ∈ lw_good := am_in2 195 rfl rfl
set_option maxRecDepth 20000 in
theorem w_2_196 : (Jvm.Cond.codeWith ({ cls := "PagingKernelLaw", name := "where", desc := "(LPagingKernel;II[J)I" } : Jvm.MethodName) method_12_code (5 : Nat) (Option.some Jvm.ClassFile.FieldType.int) [((0 : Nat), (10 : Nat), (13 : Nat), (13 : Nat)), ((0 : Nat), (10 : Nat), (17 : Nat), (15 : Nat)), ((0 : Nat), (10 : Nat), (21 : Nat), (37 : Nat))]) ∈ lw_good := am_in2 196 rfl rfl
set_option maxRecDepth 20000 in
theorem w_2_197 : (Jvm.Cond.methodLink "PagingKernelLaw" (49 : Nat) ({ cls := "PagingKernel", name := "where", desc := "(II)I" } : Jvm.MethodName)) ∈ lw_good := am_in2 197 rfl rfl
set_option maxRecDepth 20000 in
theorem w_2_198 : (Jvm.Cond.instanceMethod ({ cls := "PagingKernel", name := "where", desc := "(II)I" } : Jvm.MethodName)) ∈ lw_good := am_in2 198 rfl rfl
set_option maxRecDepth 20000 in
theorem w_2_199 : (Jvm.Cond.selects "PagingKernel" ({ cls := "PagingKernel", name := "where", desc := "(II)I" } : Jvm.MethodName) ({ cls := "PagingKernel", name := "where", desc := "(II)I" } : Jvm.MethodName)) ∈ lw_good := am_in2 199 rfl rfl
set_option maxRecDepth 20000 in
theorem w_2_200 : (Jvm.Cond.code ({ cls := "PagingKernel", name := "where", desc := "(II)I" } : Jvm.MethodName) prog_1_method_11_code (3 : Nat) (Option.some Jvm.ClassFile.FieldType.int)) ∈ lw_good := am_in2 200 rfl rfl
set_option maxRecDepth 20000 in
theorem w_2_201 : (Jvm.Cond.methodLink "PagingKernel" (125 : Nat) ({ cls := "PagingKernel$Memory", name := "homeOf", desc := "(I)I" } : Jvm.MethodName)) ∈ lw_good := am_in2 201 rfl rfl
set_option maxRecDepth 20000 in
theorem w_2_202 : (Jvm.Cond.instanceMethod ({ cls := "PagingKernel$Memory", name := "homeOf", desc := "(I)I" } : Jvm.MethodName)) ∈ lw_good := am_in2 202 rfl rfl
set_option maxRecDepth 20000 in
theorem w_2_203 : (Jvm.Cond.selects "PagingKernel$Memory" ({ cls := "PagingKernel$Memory", name := "homeOf", desc := "(I)I" } : Jvm.MethodName) ({ cls := "PagingKernel$Memory", name := "homeOf", desc := "(I)I" } : Jvm.MethodName)) ∈ lw_good := am_in2 203 rfl rfl
set_option maxRecDepth 20000 in
theorem w_2_204 : (Jvm.Cond.code ({ cls := "PagingKernel$Memory", name := "homeOf", desc := "(I)I" } : Jvm.MethodName) prog_2_method_5_code (2 : Nat) (Option.some Jvm.ClassFile.FieldType.int)) ∈ lw_good := am_in2 204 rfl rfl
set_option maxRecDepth 20000 in
theorem w_2_205 : (Jvm.Cond.methodLink "PagingKernelLaw" (110 : Nat) ({ cls := "PagingKernelLaw", name := "sharers", desc := "(LPagingKernel;II[J)I" } : Jvm.MethodName)) ∈ lw_good := am_in2 205 rfl rfl
set_option maxRecDepth 20000 in
theorem w_2_206 : (Jvm.Cond.static ({ cls := "PagingKernelLaw", name := "sharers", desc := "(LPagingKernel;II[J)I" } : Jvm.MethodName)) ∈ lw_good := am_in2 206 rfl rfl
set_option maxRecDepth 20000 in
theorem w_2_207 : (Jvm.Cond.codeWith ({ cls := "PagingKernelLaw", name := "sharers", desc := "(LPagingKernel;II[J)I" } : Jvm.MethodName) method_13_code (5 : Nat) (Option.some Jvm.ClassFile.FieldType.int) [((0 : Nat), (10 : Nat), (13 : Nat), (13 : Nat)), ((0 : Nat), (10 : Nat), (17 : Nat), (15 : Nat)), ((0 : Nat), (10 : Nat), (21 : Nat), (37 : Nat))]) ∈ lw_good := am_in2 207 rfl rfl
set_option maxRecDepth 20000 in
theorem w_2_208 : (Jvm.Cond.methodLink "PagingKernelLaw" (52 : Nat) ({ cls := "PagingKernel", name := "sharers", desc := "(II)I" } : Jvm.MethodName)) ∈ lw_good := am_in2 208 rfl rfl
set_option maxRecDepth 20000 in
theorem w_2_209 : (Jvm.Cond.instanceMethod ({ cls := "PagingKernel", name := "sharers", desc := "(II)I" } : Jvm.MethodName)) ∈ lw_good := am_in2 209 rfl rfl
set_option maxRecDepth 20000 in
theorem w_2_210 : (Jvm.Cond.selects "PagingKernel" ({ cls := "PagingKernel", name := "sharers", desc := "(II)I" } : Jvm.MethodName) ({ cls := "PagingKernel", name := "sharers", desc := "(II)I" } : Jvm.MethodName)) ∈ lw_good := am_in2 210 rfl rfl
set_option maxRecDepth 20000 in
theorem w_2_211 : (Jvm.Cond.code ({ cls := "PagingKernel", name := "sharers", desc := "(II)I" } : Jvm.MethodName) prog_1_method_12_code (3 : Nat) (Option.some Jvm.ClassFile.FieldType.int)) ∈ lw_good := am_in2 211 rfl rfl
set_option maxRecDepth 20000 in
theorem w_2_212 : (Jvm.Cond.methodLink "PagingKernel" (128 : Nat) ({ cls := "PagingKernel$Memory", name := "usersOf", desc := "(I)I" } : Jvm.MethodName)) ∈ lw_good := am_in2 212 rfl rfl
set_option maxRecDepth 20000 in
theorem w_2_213 : (Jvm.Cond.instanceMethod ({ cls := "PagingKernel$Memory", name := "usersOf", desc := "(I)I" } : Jvm.MethodName)) ∈ lw_good := am_in2 213 rfl rfl
set_option maxRecDepth 20000 in
theorem w_2_214 : (Jvm.Cond.selects "PagingKernel$Memory" ({ cls := "PagingKernel$Memory", name := "usersOf", desc := "(I)I" } : Jvm.MethodName) ({ cls := "PagingKernel$Memory", name := "usersOf", desc := "(I)I" } : Jvm.MethodName)) ∈ lw_good := am_in2 214 rfl rfl
set_option maxRecDepth 20000 in
theorem w_2_215 : (Jvm.Cond.code ({ cls := "PagingKernel$Memory", name := "usersOf", desc := "(I)I" } : Jvm.MethodName) prog_2_method_6_code (2 : Nat) (Option.some Jvm.ClassFile.FieldType.int)) ∈ lw_good := am_in2 215 rfl rfl
set_option maxRecDepth 20000 in
theorem w_2_216 : (Jvm.Cond.methodLink "PagingKernelLaw" (113 : Nat) ({ cls := "PagingKernelLaw", name := "fact", desc := "(LPagingKernel;II[J)I" } : Jvm.MethodName)) ∈ lw_good := am_in2 216 rfl rfl
set_option maxRecDepth 20000 in
theorem w_2_217 : (Jvm.Cond.static ({ cls := "PagingKernelLaw", name := "fact", desc := "(LPagingKernel;II[J)I" } : Jvm.MethodName)) ∈ lw_good := am_in2 217 rfl rfl
set_option maxRecDepth 20000 in
theorem w_2_218 : (Jvm.Cond.codeWith ({ cls := "PagingKernelLaw", name := "fact", desc := "(LPagingKernel;II[J)I" } : Jvm.MethodName) method_14_code (5 : Nat) (Option.some Jvm.ClassFile.FieldType.int) [((0 : Nat), (10 : Nat), (13 : Nat), (13 : Nat))]) ∈ lw_good := am_in2 218 rfl rfl
set_option maxRecDepth 20000 in
theorem w_2_219 : (Jvm.Cond.methodLink "PagingKernelLaw" (55 : Nat) ({ cls := "PagingKernel", name := "fact", desc := "(II)I" } : Jvm.MethodName)) ∈ lw_good := am_in2 219 rfl rfl
set_option maxRecDepth 20000 in
theorem w_2_220 : (Jvm.Cond.instanceMethod ({ cls := "PagingKernel", name := "fact", desc := "(II)I" } : Jvm.MethodName)) ∈ lw_good := am_in2 220 rfl rfl
set_option maxRecDepth 20000 in
theorem w_2_221 : (Jvm.Cond.selects "PagingKernel" ({ cls := "PagingKernel", name := "fact", desc := "(II)I" } : Jvm.MethodName) ({ cls := "PagingKernel", name := "fact", desc := "(II)I" } : Jvm.MethodName)) ∈ lw_good := am_in2 221 rfl rfl
set_option maxRecDepth 20000 in
theorem w_2_222 : (Jvm.Cond.code ({ cls := "PagingKernel", name := "fact", desc := "(II)I" } : Jvm.MethodName) prog_1_method_13_code (3 : Nat) (Option.some Jvm.ClassFile.FieldType.int)) ∈ lw_good := am_in2 222 rfl rfl
set_option maxRecDepth 20000 in
theorem w_2_223 : (Jvm.Cond.methodLink "PagingKernelLaw" (116 : Nat) ({ cls := "PagingKernelLaw", name := "count", desc := "(LPagingKernel;I[J)I" } : Jvm.MethodName)) ∈ lw_good := am_in2 223 rfl rfl
set_option maxRecDepth 20000 in
theorem w_2_224 : (Jvm.Cond.static ({ cls := "PagingKernelLaw", name := "count", desc := "(LPagingKernel;I[J)I" } : Jvm.MethodName)) ∈ lw_good := am_in2 224 rfl rfl
set_option maxRecDepth 20000 in
theorem w_2_225 : (Jvm.Cond.codeWith ({ cls := "PagingKernelLaw", name := "count", desc := "(LPagingKernel;I[J)I" } : Jvm.MethodName) method_15_code (4 : Nat) (Option.some Jvm.ClassFile.FieldType.int) [((0 : Nat), (9 : Nat), (12 : Nat), (13 : Nat))]) ∈ lw_good := am_in2 225 rfl rfl
set_option maxRecDepth 20000 in
theorem w_2_226 : (Jvm.Cond.methodLink "PagingKernelLaw" (58 : Nat) ({ cls := "PagingKernel", name := "count", desc := "(I)I" } : Jvm.MethodName)) ∈ lw_good := am_in2 226 rfl rfl
set_option maxRecDepth 20000 in
theorem w_2_227 : (Jvm.Cond.instanceMethod ({ cls := "PagingKernel", name := "count", desc := "(I)I" } : Jvm.MethodName)) ∈ lw_good := am_in2 227 rfl rfl
set_option maxRecDepth 20000 in
theorem w_2_228 : (Jvm.Cond.selects "PagingKernel" ({ cls := "PagingKernel", name := "count", desc := "(I)I" } : Jvm.MethodName) ({ cls := "PagingKernel", name := "count", desc := "(I)I" } : Jvm.MethodName)) ∈ lw_good := am_in2 228 rfl rfl
set_option maxRecDepth 20000 in
theorem w_2_229 : (Jvm.Cond.code ({ cls := "PagingKernel", name := "count", desc := "(I)I" } : Jvm.MethodName) prog_1_method_14_code (2 : Nat) (Option.some Jvm.ClassFile.FieldType.int)) ∈ lw_good := am_in2 229 rfl rfl
set_option maxRecDepth 20000 in
theorem w_2_230 : (Jvm.Cond.methodLink "PagingKernel" (131 : Nat) ({ cls := "PagingKernel$Memory", name := "freeFrames", desc := "()I" } : Jvm.MethodName)) ∈ lw_good := am_in2 230 rfl rfl
set_option maxRecDepth 20000 in
theorem w_2_231 : (Jvm.Cond.instanceMethod ({ cls := "PagingKernel$Memory", name := "freeFrames", desc := "()I" } : Jvm.MethodName)) ∈ lw_good := am_in2 231 rfl rfl
set_option maxRecDepth 20000 in
theorem w_2_232 : (Jvm.Cond.selects "PagingKernel$Memory" ({ cls := "PagingKernel$Memory", name := "freeFrames", desc := "()I" } : Jvm.MethodName) ({ cls := "PagingKernel$Memory", name := "freeFrames", desc := "()I" } : Jvm.MethodName)) ∈ lw_good := am_in2 232 rfl rfl
set_option maxRecDepth 20000 in
theorem w_2_233 : (Jvm.Cond.code ({ cls := "PagingKernel$Memory", name := "freeFrames", desc := "()I" } : Jvm.MethodName) prog_2_method_7_code (1 : Nat) (Option.some Jvm.ClassFile.FieldType.int)) ∈ lw_good := am_in2 233 rfl rfl
set_option maxRecDepth 20000 in
theorem w_2_234 : (Jvm.Cond.methodLink "PagingKernel$Memory" (50 : Nat) ({ cls := "PagingKernel$Memory", name := "howManyFree", desc := "([I)I" } : Jvm.MethodName)) ∈ lw_good := am_in2 234 rfl rfl
set_option maxRecDepth 20000 in
theorem w_2_235 : (Jvm.Cond.static ({ cls := "PagingKernel$Memory", name := "howManyFree", desc := "([I)I" } : Jvm.MethodName)) ∈ lw_good := am_in2 235 rfl rfl
set_option maxRecDepth 20000 in
theorem w_2_236 : (Jvm.Cond.code ({ cls := "PagingKernel$Memory", name := "howManyFree", desc := "([I)I" } : Jvm.MethodName) prog_2_method_25_code (3 : Nat) (Option.some Jvm.ClassFile.FieldType.int)) ∈ lw_good := am_in2 236 rfl rfl
set_option maxRecDepth 20000 in
theorem w_2_237 : (Jvm.Cond.methodLink "PagingKernel" (134 : Nat) ({ cls := "PagingKernel$Memory", name := "freeSlots", desc := "()I" } : Jvm.MethodName)) ∈ lw_good := am_in2 237 rfl rfl
set_option maxRecDepth 20000 in
theorem w_2_238 : (Jvm.Cond.instanceMethod ({ cls := "PagingKernel$Memory", name := "freeSlots", desc := "()I" } : Jvm.MethodName)) ∈ lw_good := am_in2 238 rfl rfl
set_option maxRecDepth 20000 in
theorem w_2_239 : (Jvm.Cond.selects "PagingKernel$Memory" ({ cls := "PagingKernel$Memory", name := "freeSlots", desc := "()I" } : Jvm.MethodName) ({ cls := "PagingKernel$Memory", name := "freeSlots", desc := "()I" } : Jvm.MethodName)) ∈ lw_good := am_in2 239 rfl rfl
set_option maxRecDepth 20000 in
theorem w_3_0 : (Jvm.Cond.code ({ cls := "PagingKernel$Memory", name := "freeSlots", desc := "()I" } : Jvm.MethodName) prog_2_method_8_code (1 : Nat) (Option.some Jvm.ClassFile.FieldType.int)) ∈ lw_good := am_in3 0 rfl rfl
set_option maxRecDepth 20000 in
theorem w_3_1 : (Jvm.Cond.methodLink "PagingKernel" (150 : Nat) ({ cls := "PagingKernel$Memory", name := "markOf", desc := "(I)I" } : Jvm.MethodName)) ∈ lw_good := am_in3 1 rfl rfl
set_option maxRecDepth 20000 in
theorem w_3_2 : (Jvm.Cond.instanceMethod ({ cls := "PagingKernel$Memory", name := "markOf", desc := "(I)I" } : Jvm.MethodName)) ∈ lw_good := am_in3 2 rfl rfl
set_option maxRecDepth 20000 in
theorem w_3_3 : (Jvm.Cond.selects "PagingKernel$Memory" ({ cls := "PagingKernel$Memory", name := "markOf", desc := "(I)I" } : Jvm.MethodName) ({ cls := "PagingKernel$Memory", name := "markOf", desc := "(I)I" } : Jvm.MethodName)) ∈ lw_good := am_in3 3 rfl rfl
set_option maxRecDepth 20000 in
theorem w_3_4 : (Jvm.Cond.code ({ cls := "PagingKernel$Memory", name := "markOf", desc := "(I)I" } : Jvm.MethodName) prog_2_method_9_code (2 : Nat) (Option.some Jvm.ClassFile.FieldType.int)) ∈ lw_good := am_in3 4 rfl rfl
set_option maxRecDepth 20000 in
theorem w_3_5 : (Jvm.Cond.classLink "PagingKernelLaw" (70 : Nat) "PagingKernelModel") ∈ lw_good := am_in3 5 rfl rfl
set_option maxRecDepth 20000 in
theorem w_3_6 : (Jvm.Cond.instantiable "PagingKernelModel" (20 : Nat)) ∈ lw_good := am_in3 6 rfl rfl
set_option maxRecDepth 20000 in
theorem w_3_7 : (Jvm.Cond.methodLink "PagingKernelLaw" (72 : Nat) ({ cls := "PagingKernelModel", name := "<init>", desc := "(II)V" } : Jvm.MethodName)) ∈ lw_good := am_in3 7 rfl rfl
set_option maxRecDepth 20000 in
theorem w_3_8 : (Jvm.Cond.instanceMethod ({ cls := "PagingKernelModel", name := "<init>", desc := "(II)V" } : Jvm.MethodName)) ∈ lw_good := am_in3 8 rfl rfl
set_option maxRecDepth 20000 in
theorem w_3_9 : (Jvm.Cond.code ({ cls := "PagingKernelModel", name := "<init>", desc := "(II)V" } : Jvm.MethodName) prog_4_method_1_code (4 : Nat) (Option.none : Option Jvm.ClassFile.FieldType)) ∈ lw_good := am_in3 9 rfl rfl
set_option maxRecDepth 20000 in
theorem w_3_10 : (Jvm.Cond.methodLink "PagingKernelModel" (1 : Nat) ({ cls := "java/lang/Object", name := "<init>", desc := "()V" } : Jvm.MethodName)) ∈ lw_good := am_in3 10 rfl rfl
set_option maxRecDepth 20000 in
theorem w_3_11 : (Jvm.Cond.methodLink "PagingKernelModel" (57 : Nat) ({ cls := "PagingKernelModel", name := "begin", desc := "(II)V" } : Jvm.MethodName)) ∈ lw_good := am_in3 11 rfl rfl
set_option maxRecDepth 20000 in
theorem w_3_13 : (Jvm.Cond.instanceMethod ({ cls := "PagingKernelModel", name := "begin", desc := "(II)V" } : Jvm.MethodName)) ∈ lw_good := am_in3 13 rfl rfl
set_option maxRecDepth 20000 in
theorem w_3_14 : (Jvm.Cond.code ({ cls := "PagingKernelModel", name := "begin", desc := "(II)V" } : Jvm.MethodName) prog_4_method_10_code (4 : Nat) (Option.none : Option Jvm.ClassFile.FieldType)) ∈ lw_good := am_in3 14 rfl rfl
set_option maxRecDepth 20000 in
theorem w_3_15 : (Jvm.Cond.methodLink "PagingKernelModel" (72 : Nat) ({ cls := "PagingKernelModel", name := "newPage", desc := "()I" } : Jvm.MethodName)) ∈ lw_good := am_in3 15 rfl rfl
set_option maxRecDepth 20000 in
theorem w_3_17 : (Jvm.Cond.instanceMethod ({ cls := "PagingKernelModel", name := "newPage", desc := "()I" } : Jvm.MethodName)) ∈ lw_good := am_in3 17 rfl rfl
set_option maxRecDepth 20000 in
theorem w_3_18 : (Jvm.Cond.code ({ cls := "PagingKernelModel", name := "newPage", desc := "()I" } : Jvm.MethodName) prog_4_method_6_code (3 : Nat) (Option.some Jvm.ClassFile.FieldType.int)) ∈ lw_good := am_in3 18 rfl rfl
set_option maxRecDepth 20000 in
theorem w_3_19 : (Jvm.Cond.fieldLink "PagingKernelModel" (61 : Nat) "PagingKernelModel" "failed" "I") ∈ lw_good := am_in3 19 rfl rfl
set_option maxRecDepth 20000 in
theorem w_3_20 : (Jvm.Cond.fieldLink "PagingKernelModel" (50 : Nat) "PagingKernelModel" "frames" "I") ∈ lw_good := am_in3 20 rfl rfl
set_option maxRecDepth 20000 in
theorem w_3_21 : (Jvm.Cond.fieldLink "PagingKernelModel" (54 : Nat) "PagingKernelModel" "slots" "I") ∈ lw_good := am_in3 21 rfl rfl
set_option maxRecDepth 20000 in
theorem w_3_22 : (Jvm.Cond.fieldLink "PagingKernelModel" (7 : Nat) "PagingKernelModel" "status" "[I") ∈ lw_good := am_in3 22 rfl rfl
set_option maxRecDepth 20000 in
theorem w_3_23 : (Jvm.Cond.fieldLink "PagingKernelModel" (13 : Nat) "PagingKernelModel" "program" "[I") ∈ lw_good := am_in3 23 rfl rfl
set_option maxRecDepth 20000 in
theorem w_3_24 : (Jvm.Cond.fieldLink "PagingKernelModel" (16 : Nat) "PagingKernelModel" "parent" "[I") ∈ lw_good := am_in3 24 rfl rfl
set_option maxRecDepth 20000 in
theorem w_3_25 : (Jvm.Cond.fieldLink "PagingKernelModel" (19 : Nat) "PagingKernelModel" "code" "[I") ∈ lw_good := am_in3 25 rfl rfl
set_option maxRecDepth 20000 in
theorem w_3_26 : (Jvm.Cond.fieldLink "PagingKernelModel" (22 : Nat) "PagingKernelModel" "data" "[I") ∈ lw_good := am_in3 26 rfl rfl
set_option maxRecDepth 20000 in
theorem w_3_27 : (Jvm.Cond.fieldLink "PagingKernelModel" (25 : Nat) "PagingKernelModel" "stack" "[I") ∈ lw_good := am_in3 27 rfl rfl
set_option maxRecDepth 20000 in
theorem w_3_28 : (Jvm.Cond.fieldLink "PagingKernelModel" (28 : Nat) "PagingKernelModel" "place" "[I") ∈ lw_good := am_in3 28 rfl rfl
set_option maxRecDepth 20000 in
theorem w_3_29 : (Jvm.Cond.fieldLink "PagingKernelModel" (31 : Nat) "PagingKernelModel" "word" "[I") ∈ lw_good := am_in3 29 rfl rfl
set_option maxRecDepth 20000 in
theorem w_3_30 : (Jvm.Cond.fieldLink "PagingKernelModel" (34 : Nat) "PagingKernelModel" "used" "[Z") ∈ lw_good := am_in3 30 rfl rfl
set_option maxRecDepth 20000 in
theorem w_3_31 : (Jvm.Cond.fieldLink "PagingKernelModel" (38 : Nat) "PagingKernelModel" "at" "[I") ∈ lw_good := am_in3 31 rfl rfl
set_option maxRecDepth 20000 in
theorem w_3_32 : (Jvm.Cond.fieldLink "PagingKernelModel" (41 : Nat) "PagingKernelModel" "inFrame" "[I") ∈ lw_good := am_in3 32 rfl rfl
set_option maxRecDepth 20000 in
theorem w_3_33 : (Jvm.Cond.fieldLink "PagingKernelModel" (44 : Nat) "PagingKernelModel" "mark" "[Z") ∈ lw_good := am_in3 33 rfl rfl
set_option maxRecDepth 20000 in
theorem w_3_34 : (Jvm.Cond.fieldLink "PagingKernelModel" (47 : Nat) "PagingKernelModel" "slotUsed" "[Z") ∈ lw_good := am_in3 34 rfl rfl
set_option maxRecDepth 20000 in
theorem w_3_35 : (Jvm.Cond.fieldLink "PagingKernelModel" (82 : Nat) "PagingKernelModel" "hand" "I") ∈ lw_good := am_in3 35 rfl rfl
set_option maxRecDepth 20000 in
theorem w_3_36 : (Jvm.Cond.fieldLink "PagingKernelModel" (102 : Nat) "PagingKernelModel" "fills" "I") ∈ lw_good := am_in3 36 rfl rfl
set_option maxRecDepth 20000 in
theorem w_3_37 : (Jvm.Cond.fieldLink "PagingKernelModel" (134 : Nat) "PagingKernelModel" "copies" "I") ∈ lw_good := am_in3 37 rfl rfl
set_option maxRecDepth 20000 in
theorem w_3_38 : (Jvm.Cond.fieldLink "PagingKernelModel" (79 : Nat) "PagingKernelModel" "sent" "I") ∈ lw_good := am_in3 38 rfl rfl
set_option maxRecDepth 20000 in
theorem w_3_39 : (Jvm.Cond.lays "PagingKernelModel" "PagingKernelModel" "failed" "I") ∈ lw_good := am_in3 39 rfl rfl
set_option maxRecDepth 20000 in
theorem w_3_41 : (Jvm.Cond.laysFinal "PagingKernelModel" "PagingKernelModel" "frames" "I") ∈ lw_good := am_in3 41 rfl rfl
set_option maxRecDepth 20000 in
theorem w_3_43 : (Jvm.Cond.laysFinal "PagingKernelModel" "PagingKernelModel" "slots" "I") ∈ lw_good := am_in3 43 rfl rfl
set_option maxRecDepth 20000 in
theorem w_3_45 : (Jvm.Cond.laysFinal "PagingKernelModel" "PagingKernelModel" "status" "[I") ∈ lw_good := am_in3 45 rfl rfl
set_option maxRecDepth 20000 in
theorem w_3_47 : (Jvm.Cond.laysFinal "PagingKernelModel" "PagingKernelModel" "program" "[I") ∈ lw_good := am_in3 47 rfl rfl
set_option maxRecDepth 20000 in
theorem w_3_49 : (Jvm.Cond.laysFinal "PagingKernelModel" "PagingKernelModel" "parent" "[I") ∈ lw_good := am_in3 49 rfl rfl
set_option maxRecDepth 20000 in
theorem w_3_51 : (Jvm.Cond.laysFinal "PagingKernelModel" "PagingKernelModel" "code" "[I") ∈ lw_good := am_in3 51 rfl rfl
set_option maxRecDepth 20000 in
theorem w_3_53 : (Jvm.Cond.laysFinal "PagingKernelModel" "PagingKernelModel" "data" "[I") ∈ lw_good := am_in3 53 rfl rfl
set_option maxRecDepth 20000 in
theorem w_3_55 : (Jvm.Cond.laysFinal "PagingKernelModel" "PagingKernelModel" "stack" "[I") ∈ lw_good := am_in3 55 rfl rfl
set_option maxRecDepth 20000 in
theorem w_3_57 : (Jvm.Cond.laysFinal "PagingKernelModel" "PagingKernelModel" "place" "[I") ∈ lw_good := am_in3 57 rfl rfl
set_option maxRecDepth 20000 in
theorem w_3_59 : (Jvm.Cond.laysFinal "PagingKernelModel" "PagingKernelModel" "word" "[I") ∈ lw_good := am_in3 59 rfl rfl
set_option maxRecDepth 20000 in
theorem w_3_61 : (Jvm.Cond.laysFinal "PagingKernelModel" "PagingKernelModel" "used" "[Z") ∈ lw_good := am_in3 61 rfl rfl
set_option maxRecDepth 20000 in
theorem w_3_63 : (Jvm.Cond.laysFinal "PagingKernelModel" "PagingKernelModel" "at" "[I") ∈ lw_good := am_in3 63 rfl rfl
set_option maxRecDepth 20000 in
theorem w_3_65 : (Jvm.Cond.laysFinal "PagingKernelModel" "PagingKernelModel" "inFrame" "[I") ∈ lw_good := am_in3 65 rfl rfl
set_option maxRecDepth 20000 in
theorem w_3_67 : (Jvm.Cond.laysFinal "PagingKernelModel" "PagingKernelModel" "mark" "[Z") ∈ lw_good := am_in3 67 rfl rfl
set_option maxRecDepth 20000 in
theorem w_3_69 : (Jvm.Cond.laysFinal "PagingKernelModel" "PagingKernelModel" "slotUsed" "[Z") ∈ lw_good := am_in3 69 rfl rfl
set_option maxRecDepth 20000 in
theorem w_3_71 : (Jvm.Cond.lays "PagingKernelModel" "PagingKernelModel" "hand" "I") ∈ lw_good := am_in3 71 rfl rfl
set_option maxRecDepth 20000 in
theorem w_3_73 : (Jvm.Cond.lays "PagingKernelModel" "PagingKernelModel" "fills" "I") ∈ lw_good := am_in3 73 rfl rfl
set_option maxRecDepth 20000 in
theorem w_3_75 : (Jvm.Cond.lays "PagingKernelModel" "PagingKernelModel" "copies" "I") ∈ lw_good := am_in3 75 rfl rfl
set_option maxRecDepth 20000 in
theorem w_3_77 : (Jvm.Cond.lays "PagingKernelModel" "PagingKernelModel" "sent" "I") ∈ lw_good := am_in3 77 rfl rfl
set_option maxRecDepth 20000 in
theorem w_3_80 : (Jvm.Cond.methodLink "PagingKernelLaw" (77 : Nat) ({ cls := "PagingKernelModel", name := "thrown", desc := "()I" } : Jvm.MethodName)) ∈ lw_good := am_in3 80 rfl rfl
set_option maxRecDepth 20000 in
theorem w_3_81 : (Jvm.Cond.instanceMethod ({ cls := "PagingKernelModel", name := "thrown", desc := "()I" } : Jvm.MethodName)) ∈ lw_good := am_in3 81 rfl rfl
set_option maxRecDepth 20000 in
theorem w_3_82 : (Jvm.Cond.selects "PagingKernelModel" ({ cls := "PagingKernelModel", name := "thrown", desc := "()I" } : Jvm.MethodName) ({ cls := "PagingKernelModel", name := "thrown", desc := "()I" } : Jvm.MethodName)) ∈ lw_good := am_in3 82 rfl rfl
set_option maxRecDepth 20000 in
theorem w_3_83 : (Jvm.Cond.code ({ cls := "PagingKernelModel", name := "thrown", desc := "()I" } : Jvm.MethodName) prog_4_method_2_code (1 : Nat) (Option.some Jvm.ClassFile.FieldType.int)) ∈ lw_good := am_in3 83 rfl rfl
set_option maxRecDepth 20000 in
theorem w_3_84 : (Jvm.Cond.methodLink "PagingKernelLaw" (76 : Nat) ({ cls := "PagingKernelModel", name := "fork", desc := "(I)I" } : Jvm.MethodName)) ∈ lw_good := am_in3 84 rfl rfl
set_option maxRecDepth 20000 in
theorem w_3_85 : (Jvm.Cond.instanceMethod ({ cls := "PagingKernelModel", name := "fork", desc := "(I)I" } : Jvm.MethodName)) ∈ lw_good := am_in3 85 rfl rfl
set_option maxRecDepth 20000 in
theorem w_3_86 : (Jvm.Cond.selects "PagingKernelModel" ({ cls := "PagingKernelModel", name := "fork", desc := "(I)I" } : Jvm.MethodName) ({ cls := "PagingKernelModel", name := "fork", desc := "(I)I" } : Jvm.MethodName)) ∈ lw_good := am_in3 86 rfl rfl
set_option maxRecDepth 20000 in
theorem w_3_87 : (Jvm.Cond.code ({ cls := "PagingKernelModel", name := "fork", desc := "(I)I" } : Jvm.MethodName) prog_4_method_18_code (4 : Nat) (Option.some Jvm.ClassFile.FieldType.int)) ∈ lw_good := am_in3 87 rfl rfl
set_option maxRecDepth 20000 in
theorem w_3_88 : (Jvm.Cond.methodLink "PagingKernelModel" (105 : Nat) ({ cls := "PagingKernelModel", name := "out", desc := "(II)Z" } : Jvm.MethodName)) ∈ lw_good := am_in3 88 rfl rfl
set_option maxRecDepth 20000 in
theorem w_3_90 : (Jvm.Cond.instanceMethod ({ cls := "PagingKernelModel", name := "out", desc := "(II)Z" } : Jvm.MethodName)) ∈ lw_good := am_in3 90 rfl rfl
set_option maxRecDepth 20000 in
theorem w_3_91 : (Jvm.Cond.code ({ cls := "PagingKernelModel", name := "out", desc := "(II)Z" } : Jvm.MethodName) prog_4_method_4_code (3 : Nat) (Option.some Jvm.ClassFile.FieldType.boolean)) ∈ lw_good := am_in3 91 rfl rfl
set_option maxRecDepth 20000 in
theorem w_3_92 : (Jvm.Cond.methodLink "PagingKernelModel" (109 : Nat) ({ cls := "PagingKernelModel", name := "fail", desc := "(I)I" } : Jvm.MethodName)) ∈ lw_good := am_in3 92 rfl rfl
set_option maxRecDepth 20000 in
theorem w_3_94 : (Jvm.Cond.instanceMethod ({ cls := "PagingKernelModel", name := "fail", desc := "(I)I" } : Jvm.MethodName)) ∈ lw_good := am_in3 94 rfl rfl
set_option maxRecDepth 20000 in
theorem w_3_95 : (Jvm.Cond.code ({ cls := "PagingKernelModel", name := "fail", desc := "(I)I" } : Jvm.MethodName) prog_4_method_3_code (2 : Nat) (Option.some Jvm.ClassFile.FieldType.int)) ∈ lw_good := am_in3 95 rfl rfl
set_option maxRecDepth 20000 in
theorem w_3_96 : (Jvm.Cond.methodLink "PagingKernelModel" (112 : Nat) ({ cls := "PagingKernelModel", name := "notRunning", desc := "(I)Z" } : Jvm.MethodName)) ∈ lw_good := am_in3 96 rfl rfl
set_option maxRecDepth 20000 in
theorem w_3_98 : (Jvm.Cond.instanceMethod ({ cls := "PagingKernelModel", name := "notRunning", desc := "(I)Z" } : Jvm.MethodName)) ∈ lw_good := am_in3 98 rfl rfl
set_option maxRecDepth 20000 in
theorem w_3_99 : (Jvm.Cond.code ({ cls := "PagingKernelModel", name := "notRunning", desc := "(I)Z" } : Jvm.MethodName) prog_4_method_5_code (2 : Nat) (Option.some Jvm.ClassFile.FieldType.boolean)) ∈ lw_good := am_in3 99 rfl rfl
set_option maxRecDepth 20000 in
theorem w_3_100 : (Jvm.Cond.methodLink "PagingKernelLaw" (84 : Nat) ({ cls := "PagingKernelModel", name := "exec", desc := "(II)I" } : Jvm.MethodName)) ∈ lw_good := am_in3 100 rfl rfl
set_option maxRecDepth 20000 in
theorem w_3_101 : (Jvm.Cond.instanceMethod ({ cls := "PagingKernelModel", name := "exec", desc := "(II)I" } : Jvm.MethodName)) ∈ lw_good := am_in3 101 rfl rfl
set_option maxRecDepth 20000 in
theorem w_3_102 : (Jvm.Cond.selects "PagingKernelModel" ({ cls := "PagingKernelModel", name := "exec", desc := "(II)I" } : Jvm.MethodName) ({ cls := "PagingKernelModel", name := "exec", desc := "(II)I" } : Jvm.MethodName)) ∈ lw_good := am_in3 102 rfl rfl
set_option maxRecDepth 20000 in
theorem w_3_103 : (Jvm.Cond.code ({ cls := "PagingKernelModel", name := "exec", desc := "(II)I" } : Jvm.MethodName) prog_4_method_20_code (3 : Nat) (Option.some Jvm.ClassFile.FieldType.int)) ∈ lw_good := am_in3 103 rfl rfl
set_option maxRecDepth 20000 in
theorem w_3_104 : (Jvm.Cond.methodLink "PagingKernelModel" (115 : Nat) ({ cls := "PagingKernelModel", name := "drop", desc := "(I)V" } : Jvm.MethodName)) ∈ lw_good := am_in3 104 rfl rfl
set_option maxRecDepth 20000 in
theorem w_3_106 : (Jvm.Cond.instanceMethod ({ cls := "PagingKernelModel", name := "drop", desc := "(I)V" } : Jvm.MethodName)) ∈ lw_good := am_in3 106 rfl rfl
set_option maxRecDepth 20000 in
theorem w_3_107 : (Jvm.Cond.code ({ cls := "PagingKernelModel", name := "drop", desc := "(I)V" } : Jvm.MethodName) prog_4_method_19_code (3 : Nat) (Option.none : Option Jvm.ClassFile.FieldType)) ∈ lw_good := am_in3 107 rfl rfl
set_option maxRecDepth 20000 in
theorem w_3_108 : (Jvm.Cond.methodLink "PagingKernelModel" (118 : Nat) ({ cls := "PagingKernelModel", name := "clean", desc := "()V" } : Jvm.MethodName)) ∈ lw_good := am_in3 108 rfl rfl
set_option maxRecDepth 20000 in
theorem w_3_110 : (Jvm.Cond.instanceMethod ({ cls := "PagingKernelModel", name := "clean", desc := "()V" } : Jvm.MethodName)) ∈ lw_good := am_in3 110 rfl rfl
set_option maxRecDepth 20000 in
theorem w_3_111 : (Jvm.Cond.code ({ cls := "PagingKernelModel", name := "clean", desc := "()V" } : Jvm.MethodName) prog_4_method_9_code (2 : Nat) (Option.none : Option Jvm.ClassFile.FieldType)) ∈ lw_good := am_in3 111 rfl rfl
set_option maxRecDepth 20000 in
theorem w_3_112 : (Jvm.Cond.methodLink "PagingKernelModel" (64 : Nat) ({ cls := "PagingKernelModel", name := "owners", desc := "(I)I" } : Jvm.MethodName)) ∈ lw_good := am_in3 112 rfl rfl
set_option maxRecDepth 20000 in
theorem w_3_114 : (Jvm.Cond.instanceMethod ({ cls := "PagingKernelModel", name := "owners", desc := "(I)I" } : Jvm.MethodName)) ∈ lw_good := am_in3 114 rfl rfl
set_option maxRecDepth 20000 in
theorem w_3_115 : (Jvm.Cond.code ({ cls := "PagingKernelModel", name := "owners", desc := "(I)I" } : Jvm.MethodName) prog_4_method_7_code (4 : Nat) (Option.some Jvm.ClassFile.FieldType.int)) ∈ lw_good := am_in3 115 rfl rfl
set_option maxRecDepth 20000 in
theorem w_3_116 : (Jvm.Cond.methodLink "PagingKernelModel" (68 : Nat) ({ cls := "PagingKernelModel", name := "leave", desc := "(I)V" } : Jvm.MethodName)) ∈ lw_good := am_in3 116 rfl rfl
set_option maxRecDepth 20000 in
theorem w_3_118 : (Jvm.Cond.instanceMethod ({ cls := "PagingKernelModel", name := "leave", desc := "(I)V" } : Jvm.MethodName)) ∈ lw_good := am_in3 118 rfl rfl
set_option maxRecDepth 20000 in
theorem w_3_119 : (Jvm.Cond.code ({ cls := "PagingKernelModel", name := "leave", desc := "(I)V" } : Jvm.MethodName) prog_4_method_8_code (2 : Nat) (Option.none : Option Jvm.ClassFile.FieldType)) ∈ lw_good := am_in3 119 rfl rfl
set_option maxRecDepth 20000 in
theorem w_3_120 : (Jvm.Cond.methodLink "PagingKernelLaw" (87 : Nat) ({ cls := "PagingKernelModel", name := "exit", desc := "(II)I" } : Jvm.MethodName)) ∈ lw_good := am_in3 120 rfl rfl
set_option maxRecDepth 20000 in
theorem w_3_121 : (Jvm.Cond.instanceMethod ({ cls := "PagingKernelModel", name := "exit", desc := "(II)I" } : Jvm.MethodName)) ∈ lw_good := am_in3 121 rfl rfl
set_option maxRecDepth 20000 in
theorem w_3_122 : (Jvm.Cond.selects "PagingKernelModel" ({ cls := "PagingKernelModel", name := "exit", desc := "(II)I" } : Jvm.MethodName) ({ cls := "PagingKernelModel", name := "exit", desc := "(II)I" } : Jvm.MethodName)) ∈ lw_good := am_in3 122 rfl rfl
set_option maxRecDepth 20000 in
theorem w_3_123 : (Jvm.Cond.code ({ cls := "PagingKernelModel", name := "exit", desc := "(II)I" } : Jvm.MethodName) prog_4_method_21_code (5 : Nat) (Option.some Jvm.ClassFile.FieldType.int)) ∈ lw_good := am_in3 123 rfl rfl
set_option maxRecDepth 20000 in
theorem w_3_124 : (Jvm.Cond.methodLink "PagingKernelLaw" (90 : Nat) ({ cls := "PagingKernelModel", name := "await", desc := "(I)I" } : Jvm.MethodName)) ∈ lw_good := am_in3 124 rfl rfl
set_option maxRecDepth 20000 in
theorem w_3_125 : (Jvm.Cond.instanceMethod ({ cls := "PagingKernelModel", name := "await", desc := "(I)I" } : Jvm.MethodName)) ∈ lw_good := am_in3 125 rfl rfl
set_option maxRecDepth 20000 in
theorem w_3_126 : (Jvm.Cond.selects "PagingKernelModel" ({ cls := "PagingKernelModel", name := "await", desc := "(I)I" } : Jvm.MethodName) ({ cls := "PagingKernelModel", name := "await", desc := "(I)I" } : Jvm.MethodName)) ∈ lw_good := am_in3 126 rfl rfl
set_option maxRecDepth 20000 in
theorem w_3_127 : (Jvm.Cond.code ({ cls := "PagingKernelModel", name := "await", desc := "(I)I" } : Jvm.MethodName) prog_4_method_22_code (5 : Nat) (Option.some Jvm.ClassFile.FieldType.int)) ∈ lw_good := am_in3 127 rfl rfl
set_option maxRecDepth 20000 in
theorem w_3_128 : (Jvm.Cond.methodLink "PagingKernelLaw" (93 : Nat) ({ cls := "PagingKernelModel", name := "grow", desc := "(II)I" } : Jvm.MethodName)) ∈ lw_good := am_in3 128 rfl rfl
set_option maxRecDepth 20000 in
theorem w_3_129 : (Jvm.Cond.instanceMethod ({ cls := "PagingKernelModel", name := "grow", desc := "(II)I" } : Jvm.MethodName)) ∈ lw_good := am_in3 129 rfl rfl
set_option maxRecDepth 20000 in
theorem w_3_130 : (Jvm.Cond.selects "PagingKernelModel" ({ cls := "PagingKernelModel", name := "grow", desc := "(II)I" } : Jvm.MethodName) ({ cls := "PagingKernelModel", name := "grow", desc := "(II)I" } : Jvm.MethodName)) ∈ lw_good := am_in3 130 rfl rfl
set_option maxRecDepth 20000 in
theorem w_3_131 : (Jvm.Cond.code ({ cls := "PagingKernelModel", name := "grow", desc := "(II)I" } : Jvm.MethodName) prog_4_method_23_code (5 : Nat) (Option.some Jvm.ClassFile.FieldType.int)) ∈ lw_good := am_in3 131 rfl rfl
set_option maxRecDepth 20000 in
theorem w_3_132 : (Jvm.Cond.methodLink "PagingKernelLaw" (96 : Nat) ({ cls := "PagingKernelModel", name := "read", desc := "(II)I" } : Jvm.MethodName)) ∈ lw_good := am_in3 132 rfl rfl
set_option maxRecDepth 20000 in
theorem w_3_133 : (Jvm.Cond.instanceMethod ({ cls := "PagingKernelModel", name := "read", desc := "(II)I" } : Jvm.MethodName)) ∈ lw_good := am_in3 133 rfl rfl
set_option maxRecDepth 20000 in
theorem w_3_134 : (Jvm.Cond.selects "PagingKernelModel" ({ cls := "PagingKernelModel", name := "read", desc := "(II)I" } : Jvm.MethodName) ({ cls := "PagingKernelModel", name := "read", desc := "(II)I" } : Jvm.MethodName)) ∈ lw_good := am_in3 134 rfl rfl
set_option maxRecDepth 20000 in
theorem w_3_135 : (Jvm.Cond.code ({ cls := "PagingKernelModel", name := "read", desc := "(II)I" } : Jvm.MethodName) prog_4_method_27_code (4 : Nat) (Option.some Jvm.ClassFile.FieldType.int)) ∈ lw_good := am_in3 135 rfl rfl
set_option maxRecDepth 20000 in
theorem w_3_136 : (Jvm.Cond.methodLink "PagingKernelModel" (121 : Nat) ({ cls := "PagingKernelModel", name := "growStack", desc := "(II)V" } : Jvm.MethodName)) ∈ lw_good := am_in3 136 rfl rfl
set_option maxRecDepth 20000 in
theorem w_3_138 : (Jvm.Cond.instanceMethod ({ cls := "PagingKernelModel", name := "growStack", desc := "(II)V" } : Jvm.MethodName)) ∈ lw_good := am_in3 138 rfl rfl
set_option maxRecDepth 20000 in
theorem w_3_139 : (Jvm.Cond.code ({ cls := "PagingKernelModel", name := "growStack", desc := "(II)V" } : Jvm.MethodName) prog_4_method_25_code (4 : Nat) (Option.none : Option Jvm.ClassFile.FieldType)) ∈ lw_good := am_in3 139 rfl rfl
set_option maxRecDepth 20000 in
theorem w_3_140 : (Jvm.Cond.methodLink "PagingKernelModel" (124 : Nat) ({ cls := "PagingKernelModel", name := "pageOf", desc := "(II)I" } : Jvm.MethodName)) ∈ lw_good := am_in3 140 rfl rfl
set_option maxRecDepth 20000 in
theorem w_3_142 : (Jvm.Cond.instanceMethod ({ cls := "PagingKernelModel", name := "pageOf", desc := "(II)I" } : Jvm.MethodName)) ∈ lw_good := am_in3 142 rfl rfl
set_option maxRecDepth 20000 in
theorem w_3_143 : (Jvm.Cond.code ({ cls := "PagingKernelModel", name := "pageOf", desc := "(II)I" } : Jvm.MethodName) prog_4_method_24_code (3 : Nat) (Option.some Jvm.ClassFile.FieldType.int)) ∈ lw_good := am_in3 143 rfl rfl
set_option maxRecDepth 20000 in
theorem w_3_144 : (Jvm.Cond.methodLink "PagingKernelModel" (128 : Nat) ({ cls := "PagingKernelModel", name := "touch", desc := "(I)Z" } : Jvm.MethodName)) ∈ lw_good := am_in3 144 rfl rfl
set_option maxRecDepth 20000 in
theorem w_3_146 : (Jvm.Cond.instanceMethod ({ cls := "PagingKernelModel", name := "touch", desc := "(I)Z" } : Jvm.MethodName)) ∈ lw_good := am_in3 146 rfl rfl
set_option maxRecDepth 20000 in
theorem w_3_147 : (Jvm.Cond.code ({ cls := "PagingKernelModel", name := "touch", desc := "(I)Z" } : Jvm.MethodName) prog_4_method_17_code (3 : Nat) (Option.some Jvm.ClassFile.FieldType.boolean)) ∈ lw_good := am_in3 147 rfl rfl
set_option maxRecDepth 20000 in
theorem w_3_148 : (Jvm.Cond.methodLink "PagingKernelModel" (96 : Nat) ({ cls := "PagingKernelModel", name := "getFrame", desc := "()I" } : Jvm.MethodName)) ∈ lw_good := am_in3 148 rfl rfl
set_option maxRecDepth 20000 in
theorem w_3_150 : (Jvm.Cond.instanceMethod ({ cls := "PagingKernelModel", name := "getFrame", desc := "()I" } : Jvm.MethodName)) ∈ lw_good := am_in3 150 rfl rfl
set_option maxRecDepth 20000 in
theorem w_3_151 : (Jvm.Cond.code ({ cls := "PagingKernelModel", name := "getFrame", desc := "()I" } : Jvm.MethodName) prog_4_method_15_code (3 : Nat) (Option.some Jvm.ClassFile.FieldType.int)) ∈ lw_good := am_in3 151 rfl rfl
set_option maxRecDepth 20000 in
theorem w_3_152 : (Jvm.Cond.methodLink "PagingKernelModel" (92 : Nat) ({ cls := "PagingKernelModel", name := "look", desc := "()Z" } : Jvm.MethodName)) ∈ lw_good := am_in3 152 rfl rfl
set_option maxRecDepth 20000 in
theorem w_3_154 : (Jvm.Cond.instanceMethod ({ cls := "PagingKernelModel", name := "look", desc := "()Z" } : Jvm.MethodName)) ∈ lw_good := am_in3 154 rfl rfl
set_option maxRecDepth 20000 in
theorem w_3_155 : (Jvm.Cond.code ({ cls := "PagingKernelModel", name := "look", desc := "()Z" } : Jvm.MethodName) prog_4_method_14_code (2 : Nat) (Option.some Jvm.ClassFile.FieldType.boolean)) ∈ lw_good := am_in3 155 rfl rfl
set_option maxRecDepth 20000 in
theorem w_3_156 : (Jvm.Cond.methodLink "PagingKernelModel" (85 : Nat) ({ cls := "PagingKernelModel", name := "canGo", desc := "(I)Z" } : Jvm.MethodName)) ∈ lw_good := am_in3 156 rfl rfl
set_option maxRecDepth 20000 in
theorem w_3_158 : (Jvm.Cond.instanceMethod ({ cls := "PagingKernelModel", name := "canGo", desc := "(I)Z" } : Jvm.MethodName)) ∈ lw_good := am_in3 158 rfl rfl
set_option maxRecDepth 20000 in
theorem w_3_159 : (Jvm.Cond.code ({ cls := "PagingKernelModel", name := "canGo", desc := "(I)Z" } : Jvm.MethodName) prog_4_method_12_code (2 : Nat) (Option.some Jvm.ClassFile.FieldType.boolean)) ∈ lw_good := am_in3 159 rfl rfl
set_option maxRecDepth 20000 in
theorem w_3_160 : (Jvm.Cond.methodLink "PagingKernelModel" (76 : Nat) ({ cls := "PagingKernelModel", name := "freeSlot", desc := "()I" } : Jvm.MethodName)) ∈ lw_good := am_in3 160 rfl rfl
set_option maxRecDepth 20000 in
theorem w_3_162 : (Jvm.Cond.instanceMethod ({ cls := "PagingKernelModel", name := "freeSlot", desc := "()I" } : Jvm.MethodName)) ∈ lw_good := am_in3 162 rfl rfl
set_option maxRecDepth 20000 in
theorem w_3_163 : (Jvm.Cond.code ({ cls := "PagingKernelModel", name := "freeSlot", desc := "()I" } : Jvm.MethodName) prog_4_method_11_code (2 : Nat) (Option.some Jvm.ClassFile.FieldType.int)) ∈ lw_good := am_in3 163 rfl rfl
set_option maxRecDepth 20000 in
theorem w_3_164 : (Jvm.Cond.methodLink "PagingKernelModel" (89 : Nat) ({ cls := "PagingKernelModel", name := "sendOut", desc := "(I)V" } : Jvm.MethodName)) ∈ lw_good := am_in3 164 rfl rfl
set_option maxRecDepth 20000 in
theorem w_3_166 : (Jvm.Cond.instanceMethod ({ cls := "PagingKernelModel", name := "sendOut", desc := "(I)V" } : Jvm.MethodName)) ∈ lw_good := am_in3 166 rfl rfl
set_option maxRecDepth 20000 in
theorem w_3_167 : (Jvm.Cond.code ({ cls := "PagingKernelModel", name := "sendOut", desc := "(I)V" } : Jvm.MethodName) prog_4_method_13_code (3 : Nat) (Option.none : Option Jvm.ClassFile.FieldType)) ∈ lw_good := am_in3 167 rfl rfl
set_option maxRecDepth 20000 in
theorem w_3_168 : (Jvm.Cond.methodLink "PagingKernelModel" (99 : Nat) ({ cls := "PagingKernelModel", name := "putIn", desc := "(II)V" } : Jvm.MethodName)) ∈ lw_good := am_in3 168 rfl rfl
set_option maxRecDepth 20000 in
theorem w_3_170 : (Jvm.Cond.instanceMethod ({ cls := "PagingKernelModel", name := "putIn", desc := "(II)V" } : Jvm.MethodName)) ∈ lw_good := am_in3 170 rfl rfl
set_option maxRecDepth 20000 in
theorem w_3_171 : (Jvm.Cond.code ({ cls := "PagingKernelModel", name := "putIn", desc := "(II)V" } : Jvm.MethodName) prog_4_method_16_code (3 : Nat) (Option.none : Option Jvm.ClassFile.FieldType)) ∈ lw_good := am_in3 171 rfl rfl
set_option maxRecDepth 20000 in
theorem w_3_172 : (Jvm.Cond.methodLink "PagingKernelModel" (131 : Nat) ({ cls := "PagingKernelModel", name := "wordOf", desc := "(II)I" } : Jvm.MethodName)) ∈ lw_good := am_in3 172 rfl rfl
set_option maxRecDepth 20000 in
theorem w_3_174 : (Jvm.Cond.instanceMethod ({ cls := "PagingKernelModel", name := "wordOf", desc := "(II)I" } : Jvm.MethodName)) ∈ lw_good := am_in3 174 rfl rfl
set_option maxRecDepth 20000 in
theorem w_3_175 : (Jvm.Cond.code ({ cls := "PagingKernelModel", name := "wordOf", desc := "(II)I" } : Jvm.MethodName) prog_4_method_26_code (3 : Nat) (Option.some Jvm.ClassFile.FieldType.int)) ∈ lw_good := am_in3 175 rfl rfl
set_option maxRecDepth 20000 in
theorem w_3_176 : (Jvm.Cond.methodLink "PagingKernelLaw" (100 : Nat) ({ cls := "PagingKernelModel", name := "write", desc := "(III)I" } : Jvm.MethodName)) ∈ lw_good := am_in3 176 rfl rfl
set_option maxRecDepth 20000 in
theorem w_3_177 : (Jvm.Cond.instanceMethod ({ cls := "PagingKernelModel", name := "write", desc := "(III)I" } : Jvm.MethodName)) ∈ lw_good := am_in3 177 rfl rfl
set_option maxRecDepth 20000 in
theorem w_3_178 : (Jvm.Cond.selects "PagingKernelModel" ({ cls := "PagingKernelModel", name := "write", desc := "(III)I" } : Jvm.MethodName) ({ cls := "PagingKernelModel", name := "write", desc := "(III)I" } : Jvm.MethodName)) ∈ lw_good := am_in3 178 rfl rfl
set_option maxRecDepth 20000 in
theorem w_3_179 : (Jvm.Cond.code ({ cls := "PagingKernelModel", name := "write", desc := "(III)I" } : Jvm.MethodName) prog_4_method_28_code (8 : Nat) (Option.some Jvm.ClassFile.FieldType.int)) ∈ lw_good := am_in3 179 rfl rfl
set_option maxRecDepth 20000 in
theorem w_3_180 : (Jvm.Cond.methodLink "PagingKernelLaw" (103 : Nat) ({ cls := "PagingKernelModel", name := "sweep", desc := "(I)I" } : Jvm.MethodName)) ∈ lw_good := am_in3 180 rfl rfl
set_option maxRecDepth 20000 in
theorem w_3_181 : (Jvm.Cond.instanceMethod ({ cls := "PagingKernelModel", name := "sweep", desc := "(I)I" } : Jvm.MethodName)) ∈ lw_good := am_in3 181 rfl rfl
set_option maxRecDepth 20000 in
theorem w_3_182 : (Jvm.Cond.selects "PagingKernelModel" ({ cls := "PagingKernelModel", name := "sweep", desc := "(I)I" } : Jvm.MethodName) ({ cls := "PagingKernelModel", name := "sweep", desc := "(I)I" } : Jvm.MethodName)) ∈ lw_good := am_in3 182 rfl rfl
set_option maxRecDepth 20000 in
theorem w_3_183 : (Jvm.Cond.code ({ cls := "PagingKernelModel", name := "sweep", desc := "(I)I" } : Jvm.MethodName) prog_4_method_29_code (4 : Nat) (Option.some Jvm.ClassFile.FieldType.int)) ∈ lw_good := am_in3 183 rfl rfl
set_option maxRecDepth 20000 in
theorem w_3_184 : (Jvm.Cond.methodLink "PagingKernelLaw" (106 : Nat) ({ cls := "PagingKernelModel", name := "swapOut", desc := "(I)I" } : Jvm.MethodName)) ∈ lw_good := am_in3 184 rfl rfl
set_option maxRecDepth 20000 in
theorem w_3_185 : (Jvm.Cond.instanceMethod ({ cls := "PagingKernelModel", name := "swapOut", desc := "(I)I" } : Jvm.MethodName)) ∈ lw_good := am_in3 185 rfl rfl
set_option maxRecDepth 20000 in
theorem w_3_186 : (Jvm.Cond.selects "PagingKernelModel" ({ cls := "PagingKernelModel", name := "swapOut", desc := "(I)I" } : Jvm.MethodName) ({ cls := "PagingKernelModel", name := "swapOut", desc := "(I)I" } : Jvm.MethodName)) ∈ lw_good := am_in3 186 rfl rfl
set_option maxRecDepth 20000 in
theorem w_3_187 : (Jvm.Cond.code ({ cls := "PagingKernelModel", name := "swapOut", desc := "(I)I" } : Jvm.MethodName) prog_4_method_30_code (5 : Nat) (Option.some Jvm.ClassFile.FieldType.int)) ∈ lw_good := am_in3 187 rfl rfl
set_option maxRecDepth 20000 in
theorem w_3_188 : (Jvm.Cond.methodLink "PagingKernelLaw" (109 : Nat) ({ cls := "PagingKernelModel", name := "where", desc := "(II)I" } : Jvm.MethodName)) ∈ lw_good := am_in3 188 rfl rfl
set_option maxRecDepth 20000 in
theorem w_3_189 : (Jvm.Cond.instanceMethod ({ cls := "PagingKernelModel", name := "where", desc := "(II)I" } : Jvm.MethodName)) ∈ lw_good := am_in3 189 rfl rfl
set_option maxRecDepth 20000 in
theorem w_3_190 : (Jvm.Cond.selects "PagingKernelModel" ({ cls := "PagingKernelModel", name := "where", desc := "(II)I" } : Jvm.MethodName) ({ cls := "PagingKernelModel", name := "where", desc := "(II)I" } : Jvm.MethodName)) ∈ lw_good := am_in3 190 rfl rfl
set_option maxRecDepth 20000 in
theorem w_3_191 : (Jvm.Cond.code ({ cls := "PagingKernelModel", name := "where", desc := "(II)I" } : Jvm.MethodName) prog_4_method_32_code (4 : Nat) (Option.some Jvm.ClassFile.FieldType.int)) ∈ lw_good := am_in3 191 rfl rfl
set_option maxRecDepth 20000 in
theorem w_3_192 : (Jvm.Cond.methodLink "PagingKernelModel" (137 : Nat) ({ cls := "PagingKernelModel", name := "seek", desc := "(II)I" } : Jvm.MethodName)) ∈ lw_good := am_in3 192 rfl rfl
set_option maxRecDepth 20000 in
theorem w_3_194 : (Jvm.Cond.instanceMethod ({ cls := "PagingKernelModel", name := "seek", desc := "(II)I" } : Jvm.MethodName)) ∈ lw_good := am_in3 194 rfl rfl
set_option maxRecDepth 20000 in
theorem w_3_195 : (Jvm.Cond.code ({ cls := "PagingKernelModel", name := "seek", desc := "(II)I" } : Jvm.MethodName) prog_4_method_31_code (3 : Nat) (Option.some Jvm.ClassFile.FieldType.int)) ∈ lw_good := am_in3 195 rfl rfl
set_option maxRecDepth 20000 in
theorem w_3_196 : (Jvm.Cond.methodLink "PagingKernelLaw" (112 : Nat) ({ cls := "PagingKernelModel", name := "sharers", desc := "(II)I" } : Jvm.MethodName)) ∈ lw_good := am_in3 196 rfl rfl
set_option maxRecDepth 20000 in
theorem w_3_197 : (Jvm.Cond.instanceMethod ({ cls := "PagingKernelModel", name := "sharers", desc := "(II)I" } : Jvm.MethodName)) ∈ lw_good := am_in3 197 rfl rfl
set_option maxRecDepth 20000 in
theorem w_3_198 : (Jvm.Cond.selects "PagingKernelModel" ({ cls := "PagingKernelModel", name := "sharers", desc := "(II)I" } : Jvm.MethodName) ({ cls := "PagingKernelModel", name := "sharers", desc := "(II)I" } : Jvm.MethodName)) ∈ lw_good := am_in3 198 rfl rfl
set_option maxRecDepth 20000 in
theorem w_3_199 : (Jvm.Cond.code ({ cls := "PagingKernelModel", name := "sharers", desc := "(II)I" } : Jvm.MethodName) prog_4_method_33_code (4 : Nat) (Option.some Jvm.ClassFile.FieldType.int)) ∈ lw_good := am_in3 199 rfl rfl
set_option maxRecDepth 20000 in
theorem w_3_200 : (Jvm.Cond.methodLink "PagingKernelLaw" (115 : Nat) ({ cls := "PagingKernelModel", name := "fact", desc := "(II)I" } : Jvm.MethodName)) ∈ lw_good := am_in3 200 rfl rfl
set_option maxRecDepth 20000 in
theorem w_3_201 : (Jvm.Cond.instanceMethod ({ cls := "PagingKernelModel", name := "fact", desc := "(II)I" } : Jvm.MethodName)) ∈ lw_good := am_in3 201 rfl rfl
set_option maxRecDepth 20000 in
theorem w_3_202 : (Jvm.Cond.selects "PagingKernelModel" ({ cls := "PagingKernelModel", name := "fact", desc := "(II)I" } : Jvm.MethodName) ({ cls := "PagingKernelModel", name := "fact", desc := "(II)I" } : Jvm.MethodName)) ∈ lw_good := am_in3 202 rfl rfl
set_option maxRecDepth 20000 in
theorem w_3_203 : (Jvm.Cond.code ({ cls := "PagingKernelModel", name := "fact", desc := "(II)I" } : Jvm.MethodName) prog_4_method_34_code (3 : Nat) (Option.some Jvm.ClassFile.FieldType.int)) ∈ lw_good := am_in3 203 rfl rfl
set_option maxRecDepth 20000 in
theorem w_3_204 : (Jvm.Cond.methodLink "PagingKernelLaw" (118 : Nat) ({ cls := "PagingKernelModel", name := "count", desc := "(I)I" } : Jvm.MethodName)) ∈ lw_good := am_in3 204 rfl rfl
set_option maxRecDepth 20000 in
theorem w_3_205 : (Jvm.Cond.instanceMethod ({ cls := "PagingKernelModel", name := "count", desc := "(I)I" } : Jvm.MethodName)) ∈ lw_good := am_in3 205 rfl rfl
set_option maxRecDepth 20000 in
theorem w_3_206 : (Jvm.Cond.selects "PagingKernelModel" ({ cls := "PagingKernelModel", name := "count", desc := "(I)I" } : Jvm.MethodName) ({ cls := "PagingKernelModel", name := "count", desc := "(I)I" } : Jvm.MethodName)) ∈ lw_good := am_in3 206 rfl rfl
set_option maxRecDepth 20000 in
theorem w_3_207 : (Jvm.Cond.code ({ cls := "PagingKernelModel", name := "count", desc := "(I)I" } : Jvm.MethodName) prog_4_method_35_code (5 : Nat) (Option.some Jvm.ClassFile.FieldType.int)) ∈ lw_good := am_in3 207 rfl rfl
set_option maxRecDepth 20000 in
theorem w_3_208 : (Jvm.Cond.arrayClass Jvm.ClassFile.FieldType.long) ∈ lw_good := am_in3 208 rfl rfl
def am_rs0 : Nat → Option (Nat × (Nat → Int32)) := fun j => match j with
  | 0 => some (3, fun i => if i = 0 then 1 else if i = 1 then 2 else 4)
  | _ => none
def am_zs0 : am_Zt := ([("PagingKernel", "DATA_AT_START", "[I", 0)], [.castable (am_xn 0) (am_xn 0), .castable (am_xn 1) (am_xn 1), .castable (am_xn 2) (am_xn 2), .castable (am_xn 3) (am_xn 3), .castable (am_xn 4) (am_xn 4), .fieldLinkNest "PagingKernel" 144 "PagingKernel$Memory" "hand" "I" "PagingKernel", .fieldLinkNest "PagingKernel" 137 "PagingKernel$Memory" "fills" "I" "PagingKernel", .fieldLinkNest "PagingKernel" 141 "PagingKernel$Memory" "copies" "I" "PagingKernel", .fieldLinkNest "PagingKernel" 147 "PagingKernel$Memory" "sentOut" "I" "PagingKernel", .declares ⟨"java/lang/RuntimeException", "<init>", "()V"⟩, .declares ⟨"java/lang/RuntimeException", "<init>", "(Ljava/lang/String;)V"⟩, .declares ⟨"java/lang/Exception", "<init>", "()V"⟩, .declares ⟨"java/lang/Exception", "<init>", "(Ljava/lang/String;)V"⟩, .declares ⟨"java/lang/Throwable", "<init>", "()V"⟩, .declares ⟨"java/lang/Throwable", "<init>", "(Ljava/lang/String;)V"⟩])
theorem am_lkX : ∀ {X : am_X} {k : Nat × Nat} {φ : am_F}, X.lookup k = some φ → (k, φ) ∈ X
  | [], k, φ, h => by simp at h
  | (k', v') :: X, k, φ, h => by
    simp only [List.lookup] at h
    split at h
    · rename_i e
      have := eq_of_beq e
      subst this
      cases h
      exact List.mem_cons_self
    · exact List.mem_cons_of_mem _ (am_lkX h)
theorem am_okx {cl : List vw_C} {rs : Nat → Option (Nat × (Nat → Int32))} {zs : am_Zt} {l : Launch} {y : MethodName} {cc : ByteArray} {nL : Nat} {Ts : List Cond} {rm : Room} {hs : am_Hs} {X : am_X} (h : ∀ (p : Program) (e : Env) (s : State) (m : MethodId) (args : Array Value) (below : List Frame) (meth : Method) (c : Code) (D : va_G) (tc : Nat → ClassId) (A : Nat → Prop) (n0 : Nat) (ad0 : am_A), am_Cx p l rm s m args meth c cc nL Ts y.cls D cl tc A rs zs hs ad0 → meth.name = y.name → ∀ q ∈ X, am_op p l e rm s m args below meth c D cl tc A nL n0 ad0 cc q.1 q.2) : am_ok cl rs zs l y cc nL Ts rm hs X :=
  fun p e s m args below meth c D tc A n0 ad0 C hm key φ hk => h p e s m args below meth c D tc A n0 ad0 C hm (key, φ) (am_lkX hk)
abbrev RX0 : String := "PagingKernel$Memory"
def TX0 : u_T := fun k => match k with
  | 0 => ("PagingKernel$Memory", "words", "[I", true)
  | 1 => ("PagingKernel$Memory", "users", "[I", true)
  | 2 => ("PagingKernel$Memory", "home", "[I", true)
  | 3 => ("PagingKernel$Memory", "pageInFrame", "[I", true)
  | 4 => ("PagingKernel$Memory", "marked", "[Z", true)
  | 5 => ("PagingKernel$Memory", "pageInSlot", "[I", true)
  | 6 => ("PagingKernel$Memory", "hand", "I", false)
  | 7 => ("PagingKernel$Memory", "fills", "I", false)
  | 8 => ("PagingKernel$Memory", "copies", "I", false)
  | _ => ("PagingKernel$Memory", "sentOut", "I", false)
def tyX0 : Nat → FieldType := fun k => match k with
  | 0 => .array .int
  | 1 => .array .int
  | 2 => .array .int
  | 3 => .array .int
  | 4 => .array .boolean
  | 5 => .array .int
  | 6 => .int
  | 7 => .int
  | 8 => .int
  | _ => .int
theorem nmX0 : ∀ a, a < 10 → ∀ b, b < 10 → a ≠ b → (TX0 a).2.1 ≠ (TX0 b).2.1 := by decide +kernel
theorem tyX0_ok : ∀ k, k < 10 → parseFieldDescriptor (TX0 k).2.2.1 = some (tyX0 k) := by decide +kernel
theorem hinX0 : ∀ w ∈ u_ws RX0 TX0 10, w ∈ lw_good := by
  intro w hw
  obtain ⟨k, hk, rfl⟩ := List.mem_map.mp hw
  have hk := List.mem_range.mp hk
  match k, hk with
  | 0, _ => exact w_1_57
  | 1, _ => exact w_1_59
  | 2, _ => exact w_1_61
  | 3, _ => exact w_1_63
  | 4, _ => exact w_1_65
  | 5, _ => exact w_1_67
  | 6, _ => exact w_1_69
  | 7, _ => exact w_1_71
  | 8, _ => exact w_1_73
  | 9, _ => exact w_1_75
  | k + 10, hk => exact absurd hk (by omega)
abbrev RX1 : String := "PagingKernel"
def TX1 : u_T := fun k => match k with
  | 0 => ("PagingKernel", "memory", "LPagingKernel$Memory;", true)
  | 1 => ("PagingKernel", "state", "[I", true)
  | 2 => ("PagingKernel", "program", "[I", true)
  | 3 => ("PagingKernel", "parent", "[I", true)
  | 4 => ("PagingKernel", "exitCode", "[I", true)
  | 5 => ("PagingKernel", "dataPages", "[I", true)
  | 6 => ("PagingKernel", "stackPages", "[I", true)
  | _ => ("PagingKernel", "pageAt", "[[I", true)
def tyX1 : Nat → FieldType := fun k => match k with
  | 0 => .object "PagingKernel$Memory"
  | 1 => .array .int
  | 2 => .array .int
  | 3 => .array .int
  | 4 => .array .int
  | 5 => .array .int
  | 6 => .array .int
  | _ => .array (.array .int)
theorem nmX1 : ∀ a, a < 8 → ∀ b, b < 8 → a ≠ b → (TX1 a).2.1 ≠ (TX1 b).2.1 := by decide +kernel
theorem tyX1_ok : ∀ k, k < 8 → parseFieldDescriptor (TX1 k).2.2.1 = some (tyX1 k) := by decide +kernel
theorem hinX1 : ∀ w ∈ u_ws RX1 TX1 8, w ∈ lw_good := by
  intro w hw
  obtain ⟨k, hk, rfl⟩ := List.mem_map.mp hw
  have hk := List.mem_range.mp hk
  match k, hk with
  | 0, _ => exact w_1_122
  | 1, _ => exact w_1_124
  | 2, _ => exact w_1_126
  | 3, _ => exact w_1_128
  | 4, _ => exact w_1_130
  | 5, _ => exact w_1_132
  | 6, _ => exact w_1_134
  | 7, _ => exact w_1_136
  | k + 8, hk => exact absurd hk (by omega)
abbrev RX2 : String := "PagingKernelModel"
def TX2 : u_T := fun k => match k with
  | 0 => ("PagingKernelModel", "failed", "I", false)
  | 1 => ("PagingKernelModel", "frames", "I", true)
  | 2 => ("PagingKernelModel", "slots", "I", true)
  | 3 => ("PagingKernelModel", "status", "[I", true)
  | 4 => ("PagingKernelModel", "program", "[I", true)
  | 5 => ("PagingKernelModel", "parent", "[I", true)
  | 6 => ("PagingKernelModel", "code", "[I", true)
  | 7 => ("PagingKernelModel", "data", "[I", true)
  | 8 => ("PagingKernelModel", "stack", "[I", true)
  | 9 => ("PagingKernelModel", "place", "[I", true)
  | 10 => ("PagingKernelModel", "word", "[I", true)
  | 11 => ("PagingKernelModel", "used", "[Z", true)
  | 12 => ("PagingKernelModel", "at", "[I", true)
  | 13 => ("PagingKernelModel", "inFrame", "[I", true)
  | 14 => ("PagingKernelModel", "mark", "[Z", true)
  | 15 => ("PagingKernelModel", "slotUsed", "[Z", true)
  | 16 => ("PagingKernelModel", "hand", "I", false)
  | 17 => ("PagingKernelModel", "fills", "I", false)
  | 18 => ("PagingKernelModel", "copies", "I", false)
  | _ => ("PagingKernelModel", "sent", "I", false)
def tyX2 : Nat → FieldType := fun k => match k with
  | 0 => .int
  | 1 => .int
  | 2 => .int
  | 3 => .array .int
  | 4 => .array .int
  | 5 => .array .int
  | 6 => .array .int
  | 7 => .array .int
  | 8 => .array .int
  | 9 => .array .int
  | 10 => .array .int
  | 11 => .array .boolean
  | 12 => .array .int
  | 13 => .array .int
  | 14 => .array .boolean
  | 15 => .array .boolean
  | 16 => .int
  | 17 => .int
  | 18 => .int
  | _ => .int
theorem nmX2 : ∀ a, a < 20 → ∀ b, b < 20 → a ≠ b → (TX2 a).2.1 ≠ (TX2 b).2.1 := by decide +kernel
theorem tyX2_ok : ∀ k, k < 20 → parseFieldDescriptor (TX2 k).2.2.1 = some (tyX2 k) := by decide +kernel
theorem hinX2 : ∀ w ∈ u_ws RX2 TX2 20, w ∈ lw_good := by
  intro w hw
  obtain ⟨k, hk, rfl⟩ := List.mem_map.mp hw
  have hk := List.mem_range.mp hk
  match k, hk with
  | 0, _ => exact w_3_39
  | 1, _ => exact w_3_41
  | 2, _ => exact w_3_43
  | 3, _ => exact w_3_45
  | 4, _ => exact w_3_47
  | 5, _ => exact w_3_49
  | 6, _ => exact w_3_51
  | 7, _ => exact w_3_53
  | 8, _ => exact w_3_55
  | 9, _ => exact w_3_57
  | 10, _ => exact w_3_59
  | 11, _ => exact w_3_61
  | 12, _ => exact w_3_63
  | 13, _ => exact w_3_65
  | 14, _ => exact w_3_67
  | 15, _ => exact w_3_69
  | 16, _ => exact w_3_71
  | 17, _ => exact w_3_73
  | 18, _ => exact w_3_75
  | 19, _ => exact w_3_77
  | k + 20, hk => exact absurd hk (by omega)
abbrev RL : String := "PagingKernelLaw"
abbrev RJ7 : String := "java/util/Arrays"
def am_cl0 : List vw_C := [(RX0, TX0, 10), (RX1, TX1, 8), (RX2, TX2, 20)]
