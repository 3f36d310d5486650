theorem co_Cells_init : (Jvm.Cond.code ({ cls := "ColonMachine$Cells", name := "<init>", desc := "(I)V" } : Jvm.MethodName) prog_3_method_1_code (2 : Nat) (Option.none : Option Jvm.ClassFile.FieldType)) ∈ TB := tbI1 _ (List.mem_of_getElem? (i := 43) rfl) rfl
theorem ml_Cells_1 : (Jvm.Cond.methodLink "ColonMachine$Cells" (1 : Nat) ({ cls := "java/lang/Object", name := "<init>", desc := "()V" } : Jvm.MethodName)) ∈ TB := tbI1 _ (List.mem_of_getElem? (i := 44) rfl) rfl
theorem im_Obj_init : (Jvm.Cond.instanceMethod ({ cls := "java/lang/Object", name := "<init>", desc := "()V" } : Jvm.MethodName)) ∈ TB := tbI1 _ (List.mem_of_getElem? (i := 37) rfl) rfl
theorem co_Obj_init : (Jvm.Cond.code ({ cls := "java/lang/Object", name := "<init>", desc := "()V" } : Jvm.MethodName) object_method_1_code (1 : Nat) (Option.none : Option Jvm.ClassFile.FieldType)) ∈ TB := tbI1 _ (List.mem_of_getElem? (i := 38) rfl) rfl
theorem ac_int : (Jvm.Cond.arrayClass Jvm.ClassFile.FieldType.int) ∈ TB := tbI1 _ (List.mem_of_getElem? (i := 52) rfl) rfl
theorem co_Calls_init : (Jvm.Cond.code ({ cls := "ColonMachine$Calls", name := "<init>", desc := "()V" } : Jvm.MethodName) prog_2_method_1_code (1 : Nat) (Option.none : Option Jvm.ClassFile.FieldType)) ∈ TB := tbI1 _ (List.mem_of_getElem? (i := 57) rfl) rfl
theorem ml_Calls_3 : (Jvm.Cond.methodLink "ColonMachine$Calls" (3 : Nat) ({ cls := "java/lang/Object", name := "<init>", desc := "()V" } : Jvm.MethodName)) ∈ TB := tbI1 _ (List.mem_of_getElem? (i := 58) rfl) rfl
theorem co_Memory_init : (Jvm.Cond.code ({ cls := "ColonMachine$Memory", name := "<init>", desc := "()V" } : Jvm.MethodName) prog_6_method_1_code (1 : Nat) (Option.none : Option Jvm.ClassFile.FieldType)) ∈ TB := tbI1 _ (List.mem_of_getElem? (i := 79) rfl) rfl
theorem ml_Memory_1 : (Jvm.Cond.methodLink "ColonMachine$Memory" (1 : Nat) ({ cls := "java/lang/Object", name := "<init>", desc := "()V" } : Jvm.MethodName)) ∈ TB := tbI1 _ (List.mem_of_getElem? (i := 80) rfl) rfl
theorem co_Out_init : (Jvm.Cond.code ({ cls := "ColonMachine$Out", name := "<init>", desc := "()V" } : Jvm.MethodName) prog_7_method_1_code (1 : Nat) (Option.none : Option Jvm.ClassFile.FieldType)) ∈ TB := tbI1 _ (List.mem_of_getElem? (i := 95) rfl) rfl
theorem ml_Out_3 : (Jvm.Cond.methodLink "ColonMachine$Out" (3 : Nat) ({ cls := "java/lang/Object", name := "<init>", desc := "()V" } : Jvm.MethodName)) ∈ TB := tbI1 _ (List.mem_of_getElem? (i := 96) rfl) rfl
theorem co_Text_init : (Jvm.Cond.code ({ cls := "ColonMachine$Text", name := "<init>", desc := "()V" } : Jvm.MethodName) prog_9_method_1_code (1 : Nat) (Option.none : Option Jvm.ClassFile.FieldType)) ∈ TB := tbI1 _ (List.mem_of_getElem? (i := 108) rfl) rfl
theorem ml_Text_3 : (Jvm.Cond.methodLink "ColonMachine$Text" (3 : Nat) ({ cls := "java/lang/Object", name := "<init>", desc := "()V" } : Jvm.MethodName)) ∈ TB := tbI1 _ (List.mem_of_getElem? (i := 109) rfl) rfl
theorem co_Words_init : (Jvm.Cond.code ({ cls := "ColonMachine$Words", name := "<init>", desc := "()V" } : Jvm.MethodName) prog_11_method_1_code (1 : Nat) (Option.none : Option Jvm.ClassFile.FieldType)) ∈ TB := tbI1 _ (List.mem_of_getElem? (i := 130) rfl) rfl
theorem ml_Words_3 : (Jvm.Cond.methodLink "ColonMachine$Words" (3 : Nat) ({ cls := "java/lang/Object", name := "<init>", desc := "()V" } : Jvm.MethodName)) ∈ TB := tbI1 _ (List.mem_of_getElem? (i := 131) rfl) rfl
theorem kl_Words_11 : (Jvm.Cond.classLink "ColonMachine$Words" (11 : Nat) "ColonMachine$Word") ∈ TB := tbI1 _ (List.mem_of_getElem? (i := 132) rfl) rfl
theorem fl_Words_13 : (Jvm.Cond.fieldLink "ColonMachine$Words" (13 : Nat) "ColonMachine$Words" "words" "[LColonMachine$Word;") ∈ TB := tbI1 _ (List.mem_of_getElem? (i := 134) rfl) rfl
theorem fl_Words_17 : (Jvm.Cond.fieldLink "ColonMachine$Words" (17 : Nat) "ColonMachine$Words" "size" "I") ∈ TB := tbI1 _ (List.mem_of_getElem? (i := 135) rfl) rfl
theorem co_Compiler_init : (Jvm.Cond.code ({ cls := "ColonMachine$Compiler", name := "<init>", desc := "(LColonMachine$Text;LColonMachine$Words;LColonMachine$Memory;LColonMachine$Out;)V" } : Jvm.MethodName) prog_4_method_1_code (5 : Nat) (Option.none : Option Jvm.ClassFile.FieldType)) ∈ TB := tbI1 _ (List.mem_of_getElem? (i := 145) rfl) rfl
theorem ml_Compiler_3 : (Jvm.Cond.methodLink "ColonMachine$Compiler" (3 : Nat) ({ cls := "java/lang/Object", name := "<init>", desc := "()V" } : Jvm.MethodName)) ∈ TB := tbI1 _ (List.mem_of_getElem? (i := 146) rfl) rfl
theorem kl_Compiler_11 : (Jvm.Cond.classLink "ColonMachine$Compiler" (11 : Nat) "ColonMachine$Item") ∈ TB := tbI1 _ (List.mem_of_getElem? (i := 147) rfl) rfl
theorem fl_Compiler_13 : (Jvm.Cond.fieldLink "ColonMachine$Compiler" (13 : Nat) "ColonMachine$Compiler" "items" "[LColonMachine$Item;") ∈ TB := tbI1 _ (List.mem_of_getElem? (i := 155) rfl) rfl
theorem fl_Compiler_17 : (Jvm.Cond.fieldLink "ColonMachine$Compiler" (17 : Nat) "ColonMachine$Compiler" "size" "I") ∈ TB := tbI1 _ (List.mem_of_getElem? (i := 156) rfl) rfl
theorem fl_Compiler_21 : (Jvm.Cond.fieldLink "ColonMachine$Compiler" (21 : Nat) "ColonMachine$Compiler" "compiling" "Z") ∈ TB := tbI1 _ (List.mem_of_getElem? (i := 157) rfl) rfl
theorem fl_Compiler_25 : (Jvm.Cond.fieldLink "ColonMachine$Compiler" (25 : Nat) "ColonMachine$Compiler" "name" "J") ∈ TB := tbI1 _ (List.mem_of_getElem? (i := 158) rfl) rfl
theorem kl_Compiler_29 : (Jvm.Cond.classLink "ColonMachine$Compiler" (29 : Nat) "ColonMachine$Cells") ∈ TB := tbI1 _ (List.mem_of_getElem? (i := 149) rfl) rfl
theorem ia_Cells : (Jvm.Cond.instantiable "ColonMachine$Cells" (2 : Nat)) ∈ TB := tbI1 _ (List.mem_of_getElem? (i := 40) rfl) rfl
theorem in_Cells : (Jvm.Cond.initialized "ColonMachine$Cells") ∈ TB := tbI1 _ (List.mem_of_getElem? (i := 2) rfl) rfl
theorem ml_Compiler_31 : (Jvm.Cond.methodLink "ColonMachine$Compiler" (31 : Nat) ({ cls := "ColonMachine$Cells", name := "<init>", desc := "(I)V" } : Jvm.MethodName)) ∈ TB := tbI1 _ (List.mem_of_getElem? (i := 150) rfl) rfl
theorem im_Cells_init : (Jvm.Cond.instanceMethod ({ cls := "ColonMachine$Cells", name := "<init>", desc := "(I)V" } : Jvm.MethodName)) ∈ TB := tbI1 _ (List.mem_of_getElem? (i := 42) rfl) rfl
theorem fl_Compiler_34 : (Jvm.Cond.fieldLink "ColonMachine$Compiler" (34 : Nat) "ColonMachine$Compiler" "openers" "LColonMachine$Cells;") ∈ TB := tbI1 _ (List.mem_of_getElem? (i := 159) rfl) rfl
theorem fl_Compiler_38 : (Jvm.Cond.fieldLink "ColonMachine$Compiler" (38 : Nat) "ColonMachine$Compiler" "openPlaces" "LColonMachine$Cells;") ∈ TB := tbI1 _ (List.mem_of_getElem? (i := 160) rfl) rfl
theorem fl_Compiler_41 : (Jvm.Cond.fieldLink "ColonMachine$Compiler" (41 : Nat) "ColonMachine$Compiler" "text" "LColonMachine$Text;") ∈ TB := tbI1 _ (List.mem_of_getElem? (i := 151) rfl) rfl
theorem fl_Compiler_45 : (Jvm.Cond.fieldLink "ColonMachine$Compiler" (45 : Nat) "ColonMachine$Compiler" "words" "LColonMachine$Words;") ∈ TB := tbI1 _ (List.mem_of_getElem? (i := 152) rfl) rfl
theorem fl_Compiler_49 : (Jvm.Cond.fieldLink "ColonMachine$Compiler" (49 : Nat) "ColonMachine$Compiler" "memory" "LColonMachine$Memory;") ∈ TB := tbI1 _ (List.mem_of_getElem? (i := 153) rfl) rfl
theorem fl_Compiler_53 : (Jvm.Cond.fieldLink "ColonMachine$Compiler" (53 : Nat) "ColonMachine$Compiler" "out" "LColonMachine$Out;") ∈ TB := tbI1 _ (List.mem_of_getElem? (i := 154) rfl) rfl
theorem co_Primitives_init : (Jvm.Cond.code ({ cls := "ColonMachine$Primitives", name := "<init>", desc := "(LColonMachine$Cells;LColonMachine$Cells;LColonMachine$Calls;LColonMachine$Memory;LColonMachine$Out;LColonMachine$Text;LColonMachine$Words;)V" } : Jvm.MethodName) prog_8_method_1_code (8 : Nat) (Option.none : Option Jvm.ClassFile.FieldType)) ∈ TB := tbI1 _ (List.mem_of_getElem? (i := 186) rfl) rfl
theorem ml_Primitives_3 : (Jvm.Cond.methodLink "ColonMachine$Primitives" (3 : Nat) ({ cls := "java/lang/Object", name := "<init>", desc := "()V" } : Jvm.MethodName)) ∈ TB := tbI1 _ (List.mem_of_getElem? (i := 187) rfl) rfl
theorem fl_Primitives_9 : (Jvm.Cond.fieldLink "ColonMachine$Primitives" (9 : Nat) "ColonMachine$Primitives" "data" "LColonMachine$Cells;") ∈ TB := tbI1 _ (List.mem_of_getElem? (i := 188) rfl) rfl
theorem fl_Primitives_15 : (Jvm.Cond.fieldLink "ColonMachine$Primitives" (15 : Nat) "ColonMachine$Primitives" "returns" "LColonMachine$Cells;") ∈ TB := tbI1 _ (List.mem_of_getElem? (i := 189) rfl) rfl
theorem fl_Primitives_18 : (Jvm.Cond.fieldLink "ColonMachine$Primitives" (18 : Nat) "ColonMachine$Primitives" "calls" "LColonMachine$Calls;") ∈ TB := tbI1 _ (List.mem_of_getElem? (i := 190) rfl) rfl
theorem fl_Primitives_22 : (Jvm.Cond.fieldLink "ColonMachine$Primitives" (22 : Nat) "ColonMachine$Primitives" "memory" "LColonMachine$Memory;") ∈ TB := tbI1 _ (List.mem_of_getElem? (i := 191) rfl) rfl
theorem fl_Primitives_26 : (Jvm.Cond.fieldLink "ColonMachine$Primitives" (26 : Nat) "ColonMachine$Primitives" "out" "LColonMachine$Out;") ∈ TB := tbI1 _ (List.mem_of_getElem? (i := 192) rfl) rfl
theorem fl_Primitives_30 : (Jvm.Cond.fieldLink "ColonMachine$Primitives" (30 : Nat) "ColonMachine$Primitives" "text" "LColonMachine$Text;") ∈ TB := tbI1 _ (List.mem_of_getElem? (i := 193) rfl) rfl
theorem fl_Primitives_34 : (Jvm.Cond.fieldLink "ColonMachine$Primitives" (34 : Nat) "ColonMachine$Primitives" "words" "LColonMachine$Words;") ∈ TB := tbI1 _ (List.mem_of_getElem? (i := 194) rfl) rfl
theorem co_Mach_init : (Jvm.Cond.code ({ cls := "ColonMachine", name := "<init>", desc := "()V" } : Jvm.MethodName) prog_1_method_1_code (1 : Nat) (Option.none : Option Jvm.ClassFile.FieldType)) ∈ TB := tbI1 _ (List.mem_of_getElem? (i := 35) rfl) rfl
theorem ml_Mach_1 : (Jvm.Cond.methodLink "ColonMachine" (1 : Nat) ({ cls := "java/lang/Object", name := "<init>", desc := "()V" } : Jvm.MethodName)) ∈ TB := tbI1 _ (List.mem_of_getElem? (i := 36) rfl) rfl
theorem kl_Mach_7 : (Jvm.Cond.classLink "ColonMachine" (7 : Nat) "ColonMachine$Cells") ∈ TB := tbI1 _ (List.mem_of_getElem? (i := 39) rfl) rfl
theorem ml_Mach_11 : (Jvm.Cond.methodLink "ColonMachine" (11 : Nat) ({ cls := "ColonMachine$Cells", name := "<init>", desc := "(I)V" } : Jvm.MethodName)) ∈ TB := tbI1 _ (List.mem_of_getElem? (i := 41) rfl) rfl
theorem fl_Mach_14 : (Jvm.Cond.fieldLink "ColonMachine" (14 : Nat) "ColonMachine" "data" "LColonMachine$Cells;") ∈ TB := tbI1 _ (List.mem_of_getElem? (i := 210) rfl) rfl
theorem fl_Mach_18 : (Jvm.Cond.fieldLink "ColonMachine" (18 : Nat) "ColonMachine" "returns" "LColonMachine$Cells;") ∈ TB := tbI1 _ (List.mem_of_getElem? (i := 211) rfl) rfl
theorem kl_Mach_21 : (Jvm.Cond.classLink "ColonMachine" (21 : Nat) "ColonMachine$Calls") ∈ TB := tbI1 _ (List.mem_of_getElem? (i := 53) rfl) rfl
theorem ia_Calls : (Jvm.Cond.instantiable "ColonMachine$Calls" (5 : Nat)) ∈ TB := tbI1 _ (List.mem_of_getElem? (i := 54) rfl) rfl
theorem im_Calls_init : (Jvm.Cond.instanceMethod ({ cls := "ColonMachine$Calls", name := "<init>", desc := "()V" } : Jvm.MethodName)) ∈ TB := tbI1 _ (List.mem_of_getElem? (i := 56) rfl) rfl
theorem fl_Mach_24 : (Jvm.Cond.fieldLink "ColonMachine" (24 : Nat) "ColonMachine" "calls" "LColonMachine$Calls;") ∈ TB := tbI1 _ (List.mem_of_getElem? (i := 212) rfl) rfl
theorem kl_Mach_28 : (Jvm.Cond.classLink "ColonMachine" (28 : Nat) "ColonMachine$Memory") ∈ TB := tbI1 _ (List.mem_of_getElem? (i := 75) rfl) rfl
theorem ia_Memory : (Jvm.Cond.instantiable "ColonMachine$Memory" (3 : Nat)) ∈ TB := tbI1 _ (List.mem_of_getElem? (i := 76) rfl) rfl
theorem ml_Mach_30 : (Jvm.Cond.methodLink "ColonMachine" (30 : Nat) ({ cls := "ColonMachine$Memory", name := "<init>", desc := "()V" } : Jvm.MethodName)) ∈ TB := tbI1 _ (List.mem_of_getElem? (i := 77) rfl) rfl
theorem im_Memory_init : (Jvm.Cond.instanceMethod ({ cls := "ColonMachine$Memory", name := "<init>", desc := "()V" } : Jvm.MethodName)) ∈ TB := tbI1 _ (List.mem_of_getElem? (i := 78) rfl) rfl
theorem fl_Mach_31 : (Jvm.Cond.fieldLink "ColonMachine" (31 : Nat) "ColonMachine" "memory" "LColonMachine$Memory;") ∈ TB := tbI1 _ (List.mem_of_getElem? (i := 213) rfl) rfl
theorem kl_Mach_35 : (Jvm.Cond.classLink "ColonMachine" (35 : Nat) "ColonMachine$Out") ∈ TB := tbI1 _ (List.mem_of_getElem? (i := 91) rfl) rfl
theorem ia_Out : (Jvm.Cond.instantiable "ColonMachine$Out" (2 : Nat)) ∈ TB := tbI1 _ (List.mem_of_getElem? (i := 92) rfl) rfl
theorem im_Out_init : (Jvm.Cond.instanceMethod ({ cls := "ColonMachine$Out", name := "<init>", desc := "()V" } : Jvm.MethodName)) ∈ TB := tbI1 _ (List.mem_of_getElem? (i := 94) rfl) rfl
theorem fl_Mach_38 : (Jvm.Cond.fieldLink "ColonMachine" (38 : Nat) "ColonMachine" "out" "LColonMachine$Out;") ∈ TB := tbI1 _ (List.mem_of_getElem? (i := 214) rfl) rfl
theorem kl_Mach_42 : (Jvm.Cond.classLink "ColonMachine" (42 : Nat) "ColonMachine$Text") ∈ TB := tbI1 _ (List.mem_of_getElem? (i := 104) rfl) rfl
theorem ia_Text : (Jvm.Cond.instantiable "ColonMachine$Text" (5 : Nat)) ∈ TB := tbI1 _ (List.mem_of_getElem? (i := 105) rfl) rfl
theorem im_Text_init : (Jvm.Cond.instanceMethod ({ cls := "ColonMachine$Text", name := "<init>", desc := "()V" } : Jvm.MethodName)) ∈ TB := tbI1 _ (List.mem_of_getElem? (i := 107) rfl) rfl
theorem fl_Mach_45 : (Jvm.Cond.fieldLink "ColonMachine" (45 : Nat) "ColonMachine" "text" "LColonMachine$Text;") ∈ TB := tbI1 _ (List.mem_of_getElem? (i := 215) rfl) rfl
theorem kl_Mach_49 : (Jvm.Cond.classLink "ColonMachine" (49 : Nat) "ColonMachine$Words") ∈ TB := tbI1 _ (List.mem_of_getElem? (i := 126) rfl) rfl
theorem ia_Words : (Jvm.Cond.instantiable "ColonMachine$Words" (2 : Nat)) ∈ TB := tbI1 _ (List.mem_of_getElem? (i := 127) rfl) rfl
theorem in_Words : (Jvm.Cond.initialized "ColonMachine$Words") ∈ TB := tbI1 _ (List.mem_of_getElem? (i := 7) rfl) rfl
theorem im_Words_init : (Jvm.Cond.instanceMethod ({ cls := "ColonMachine$Words", name := "<init>", desc := "()V" } : Jvm.MethodName)) ∈ TB := tbI1 _ (List.mem_of_getElem? (i := 129) rfl) rfl
theorem fl_Mach_52 : (Jvm.Cond.fieldLink "ColonMachine" (52 : Nat) "ColonMachine" "words" "LColonMachine$Words;") ∈ TB := tbI1 _ (List.mem_of_getElem? (i := 216) rfl) rfl
theorem kl_Mach_56 : (Jvm.Cond.classLink "ColonMachine" (56 : Nat) "ColonMachine$Compiler") ∈ TB := tbI1 _ (List.mem_of_getElem? (i := 141) rfl) rfl
theorem ia_Compiler : (Jvm.Cond.instantiable "ColonMachine$Compiler" (10 : Nat)) ∈ TB := tbI1 _ (List.mem_of_getElem? (i := 142) rfl) rfl
theorem in_Compiler : (Jvm.Cond.initialized "ColonMachine$Compiler") ∈ TB := tbI1 _ (List.mem_of_getElem? (i := 8) rfl) rfl
theorem ml_Mach_58 : (Jvm.Cond.methodLink "ColonMachine" (58 : Nat) ({ cls := "ColonMachine$Compiler", name := "<init>", desc := "(LColonMachine$Text;LColonMachine$Words;LColonMachine$Memory;LColonMachine$Out;)V" } : Jvm.MethodName)) ∈ TB := tbI1 _ (List.mem_of_getElem? (i := 143) rfl) rfl
theorem im_Compiler_init : (Jvm.Cond.instanceMethod ({ cls := "ColonMachine$Compiler", name := "<init>", desc := "(LColonMachine$Text;LColonMachine$Words;LColonMachine$Memory;LColonMachine$Out;)V" } : Jvm.MethodName)) ∈ TB := tbI1 _ (List.mem_of_getElem? (i := 144) rfl) rfl
theorem fl_Mach_61 : (Jvm.Cond.fieldLink "ColonMachine" (61 : Nat) "ColonMachine" "compiler" "LColonMachine$Compiler;") ∈ TB := tbI1 _ (List.mem_of_getElem? (i := 217) rfl) rfl
theorem kl_Mach_65 : (Jvm.Cond.classLink "ColonMachine" (65 : Nat) "ColonMachine$Primitives") ∈ TB := tbI1 _ (List.mem_of_getElem? (i := 182) rfl) rfl
theorem ia_Primitives : (Jvm.Cond.instantiable "ColonMachine$Primitives" (7 : Nat)) ∈ TB := tbI1 _ (List.mem_of_getElem? (i := 183) rfl) rfl
theorem in_Primitives : (Jvm.Cond.initialized "ColonMachine$Primitives") ∈ TB := tbI1 _ (List.mem_of_getElem? (i := 9) rfl) rfl
theorem ml_Mach_67 : (Jvm.Cond.methodLink "ColonMachine" (67 : Nat) ({ cls := "ColonMachine$Primitives", name := "<init>", desc := "(LColonMachine$Cells;LColonMachine$Cells;LColonMachine$Calls;LColonMachine$Memory;LColonMachine$Out;LColonMachine$Text;LColonMachine$Words;)V" } : Jvm.MethodName)) ∈ TB := tbI1 _ (List.mem_of_getElem? (i := 184) rfl) rfl
theorem im_Primitives_init : (Jvm.Cond.instanceMethod ({ cls := "ColonMachine$Primitives", name := "<init>", desc := "(LColonMachine$Cells;LColonMachine$Cells;LColonMachine$Calls;LColonMachine$Memory;LColonMachine$Out;LColonMachine$Text;LColonMachine$Words;)V" } : Jvm.MethodName)) ∈ TB := tbI1 _ (List.mem_of_getElem? (i := 185) rfl) rfl
theorem fl_Mach_70 : (Jvm.Cond.fieldLink "ColonMachine" (70 : Nat) "ColonMachine" "primitives" "LColonMachine$Primitives;") ∈ TB := tbI1 _ (List.mem_of_getElem? (i := 218) rfl) rfl
theorem fl_Mach_74 : (Jvm.Cond.fieldLink "ColonMachine" (74 : Nat) "ColonMachine" "latestCode" "I") ∈ TB := tbI1 _ (List.mem_of_getElem? (i := 219) rfl) rfl
abbrev b_Cells_init : ByteArray := prog_3_method_1_code
def y_Cells_init : MethodName := { cls := "ColonMachine$Cells", name := "<init>", desc := "(I)V" }
abbrev w_Cells_init : List Cond := .code y_Cells_init b_Cells_init 2 (Option.none : Option Jvm.ClassFile.FieldType) :: TB
abbrev b_Calls_init : ByteArray := prog_2_method_1_code
def y_Calls_init : MethodName := { cls := "ColonMachine$Calls", name := "<init>", desc := "()V" }
abbrev w_Calls_init : List Cond := .code y_Calls_init b_Calls_init 1 (Option.none : Option Jvm.ClassFile.FieldType) :: TB
abbrev b_Memory_init : ByteArray := prog_6_method_1_code
def y_Memory_init : MethodName := { cls := "ColonMachine$Memory", name := "<init>", desc := "()V" }
abbrev w_Memory_init : List Cond := .code y_Memory_init b_Memory_init 1 (Option.none : Option Jvm.ClassFile.FieldType) :: TB
abbrev b_Out_init : ByteArray := prog_7_method_1_code
def y_Out_init : MethodName := { cls := "ColonMachine$Out", name := "<init>", desc := "()V" }
abbrev w_Out_init : List Cond := .code y_Out_init b_Out_init 1 (Option.none : Option Jvm.ClassFile.FieldType) :: TB
abbrev b_Text_init : ByteArray := prog_9_method_1_code
def y_Text_init : MethodName := { cls := "ColonMachine$Text", name := "<init>", desc := "()V" }
abbrev w_Text_init : List Cond := .code y_Text_init b_Text_init 1 (Option.none : Option Jvm.ClassFile.FieldType) :: TB
abbrev b_Words_init : ByteArray := prog_11_method_1_code
def y_Words_init : MethodName := { cls := "ColonMachine$Words", name := "<init>", desc := "()V" }
abbrev w_Words_init : List Cond := .code y_Words_init b_Words_init 1 (Option.none : Option Jvm.ClassFile.FieldType) :: TB
abbrev b_Compiler_init : ByteArray := prog_4_method_1_code
def y_Compiler_init : MethodName := { cls := "ColonMachine$Compiler", name := "<init>", desc := "(LColonMachine$Text;LColonMachine$Words;LColonMachine$Memory;LColonMachine$Out;)V" }
abbrev w_Compiler_init : List Cond := .code y_Compiler_init b_Compiler_init 5 (Option.none : Option Jvm.ClassFile.FieldType) :: TB
theorem df_Cells : ∀ j, j < 2 → defaultValue (t_Cells j) = vp_V [.null, .int 0] j
  | 0, _ => rfl
  | 1, _ => rfl
  | k + 2, h => absurd h (by omega)
theorem vs_Cells_init : y_Cells_init.cls ≠ "java/lang/invoke/MethodHandle" ∧ y_Cells_init.cls ≠ "java/lang/invoke/VarHandle" ∧ (parseMethodDescriptor y_Cells_init.desc).map (fun d => d.parameters.length) = some 1 := by decide +kernel
abbrev b_Primitives_init : ByteArray := prog_8_method_1_code
def y_Primitives_init : MethodName := { cls := "ColonMachine$Primitives", name := "<init>", desc := "(LColonMachine$Cells;LColonMachine$Cells;LColonMachine$Calls;LColonMachine$Memory;LColonMachine$Out;LColonMachine$Text;LColonMachine$Words;)V" }
abbrev w_Primitives_init : List Cond := .code y_Primitives_init b_Primitives_init 8 (Option.none : Option Jvm.ClassFile.FieldType) :: TB
abbrev b_Mach_init : ByteArray := prog_1_method_1_code
def y_Mach_init : MethodName := { cls := "ColonMachine", name := "<init>", desc := "()V" }
abbrev w_Mach_init : List Cond := .code y_Mach_init b_Mach_init 1 (Option.none : Option Jvm.ClassFile.FieldType) :: TB
theorem df_Calls : ∀ j, j < 5 → defaultValue (t_Calls j) = vp_V [.null, .null, .null, .null, .int 0] j
  | 0, _ => rfl
  | 1, _ => rfl
  | 2, _ => rfl
  | 3, _ => rfl
  | 4, _ => rfl
  | k + 5, h => absurd h (by omega)
theorem vs_Calls_init : y_Calls_init.cls ≠ "java/lang/invoke/MethodHandle" ∧ y_Calls_init.cls ≠ "java/lang/invoke/VarHandle" ∧ (parseMethodDescriptor y_Calls_init.desc).map (fun d => d.parameters.length) = some 0 := by decide +kernel
theorem df_Memory : ∀ j, j < 3 → defaultValue (t_Memory j) = vp_V [.null, .null, .int 0] j
  | 0, _ => rfl
  | 1, _ => rfl
  | 2, _ => rfl
  | k + 3, h => absurd h (by omega)
theorem vs_Memory_init : y_Memory_init.cls ≠ "java/lang/invoke/MethodHandle" ∧ y_Memory_init.cls ≠ "java/lang/invoke/VarHandle" ∧ (parseMethodDescriptor y_Memory_init.desc).map (fun d => d.parameters.length) = some 0 := by decide +kernel
theorem df_Out : ∀ j, j < 2 → defaultValue (t_Out j) = vp_V [.null, .int 0] j
  | 0, _ => rfl
  | 1, _ => rfl
  | k + 2, h => absurd h (by omega)
theorem vs_Out_init : y_Out_init.cls ≠ "java/lang/invoke/MethodHandle" ∧ y_Out_init.cls ≠ "java/lang/invoke/VarHandle" ∧ (parseMethodDescriptor y_Out_init.desc).map (fun d => d.parameters.length) = some 0 := by decide +kernel
theorem df_Text : ∀ j, j < 5 → defaultValue (t_Text j) = vp_V [.null, .int 0, .int 0, .int 0, .int 0] j
  | 0, _ => rfl
  | 1, _ => rfl
  | 2, _ => rfl
  | 3, _ => rfl
  | 4, _ => rfl
  | k + 5, h => absurd h (by omega)
theorem vs_Text_init : y_Text_init.cls ≠ "java/lang/invoke/MethodHandle" ∧ y_Text_init.cls ≠ "java/lang/invoke/VarHandle" ∧ (parseMethodDescriptor y_Text_init.desc).map (fun d => d.parameters.length) = some 0 := by decide +kernel
theorem df_Words : ∀ j, j < 2 → defaultValue (t_Words j) = vp_V [.null, .int 0] j
  | 0, _ => rfl
  | 1, _ => rfl
  | k + 2, h => absurd h (by omega)
theorem vs_Words_init : y_Words_init.cls ≠ "java/lang/invoke/MethodHandle" ∧ y_Words_init.cls ≠ "java/lang/invoke/VarHandle" ∧ (parseMethodDescriptor y_Words_init.desc).map (fun d => d.parameters.length) = some 0 := by decide +kernel
theorem df_Compiler : ∀ j, j < 10 → defaultValue (t_Compiler j) = vp_V [.null, .null, .null, .null, .null, .int 0, .int 0, .long 0, .null, .null] j
  | 0, _ => rfl
  | 1, _ => rfl
  | 2, _ => rfl
  | 3, _ => rfl
  | 4, _ => rfl
  | 5, _ => rfl
  | 6, _ => rfl
  | 7, _ => rfl
  | 8, _ => rfl
  | 9, _ => rfl
  | k + 10, h => absurd h (by omega)
theorem vs_Compiler_init : y_Compiler_init.cls ≠ "java/lang/invoke/MethodHandle" ∧ y_Compiler_init.cls ≠ "java/lang/invoke/VarHandle" ∧ (parseMethodDescriptor y_Compiler_init.desc).map (fun d => d.parameters.length) = some 4 := by decide +kernel
theorem df_Primitives : ∀ j, j < 7 → defaultValue (t_Primitives j) = vp_V [.null, .null, .null, .null, .null, .null, .null] j
  | 0, _ => rfl
  | 1, _ => rfl
  | 2, _ => rfl
  | 3, _ => rfl
  | 4, _ => rfl
  | 5, _ => rfl
  | 6, _ => rfl
  | k + 7, h => absurd h (by omega)
theorem vs_Primitives_init : y_Primitives_init.cls ≠ "java/lang/invoke/MethodHandle" ∧ y_Primitives_init.cls ≠ "java/lang/invoke/VarHandle" ∧ (parseMethodDescriptor y_Primitives_init.desc).map (fun d => d.parameters.length) = some 7 := by decide +kernel
theorem d_Cells_init_0 : decode b_Cells_init 0 = .ok (.aload_n 0, 1) := by decide +kernel
theorem d_Cells_init_1 : decode b_Cells_init 1 = .ok (.invokespecial 1, 3) := by decide +kernel
theorem d_Cells_init_4 : decode b_Cells_init 4 = .ok (.aload_n 0, 1) := by decide +kernel
theorem d_Cells_init_5 : decode b_Cells_init 5 = .ok (.iconst 0, 1) := by decide +kernel
theorem d_Cells_init_6 : decode b_Cells_init 6 = .ok (.putfield 7, 3) := by decide +kernel
theorem d_Cells_init_9 : decode b_Cells_init 9 = .ok (.aload_n 0, 1) := by decide +kernel
theorem d_Cells_init_10 : decode b_Cells_init 10 = .ok (.iload_n 1, 1) := by decide +kernel
theorem d_Cells_init_11 : decode b_Cells_init 11 = .ok (.ifCond .ge 7, 3) := by decide +kernel
theorem d_Cells_init_18 : decode b_Cells_init 18 = .ok (.iload_n 1, 1) := by decide +kernel
theorem d_Cells_init_19 : decode b_Cells_init 19 = .ok (.newarray .int, 2) := by decide +kernel
theorem d_Cells_init_21 : decode b_Cells_init 21 = .ok (.putfield 13, 3) := by decide +kernel
theorem d_Cells_init_24 : decode b_Cells_init 24 = .ok (.return_, 1) := by decide +kernel
theorem d_Calls_init_0 : decode b_Calls_init 0 = .ok (.aload_n 0, 1) := by decide +kernel
theorem d_Calls_init_1 : decode b_Calls_init 1 = .ok (.invokespecial 3, 3) := by decide +kernel
theorem d_Calls_init_4 : decode b_Calls_init 4 = .ok (.aload_n 0, 1) := by decide +kernel
theorem d_Calls_init_5 : decode b_Calls_init 5 = .ok (.bipush 40, 2) := by decide +kernel
theorem d_Calls_init_7 : decode b_Calls_init 7 = .ok (.newarray .int, 2) := by decide +kernel
theorem d_Calls_init_9 : decode b_Calls_init 9 = .ok (.putfield 11, 3) := by decide +kernel
theorem d_Calls_init_12 : decode b_Calls_init 12 = .ok (.aload_n 0, 1) := by decide +kernel
theorem d_Calls_init_13 : decode b_Calls_init 13 = .ok (.bipush 40, 2) := by decide +kernel
theorem d_Calls_init_15 : decode b_Calls_init 15 = .ok (.newarray .int, 2) := by decide +kernel
theorem d_Calls_init_17 : decode b_Calls_init 17 = .ok (.putfield 15, 3) := by decide +kernel
theorem d_Calls_init_20 : decode b_Calls_init 20 = .ok (.aload_n 0, 1) := by decide +kernel
theorem d_Calls_init_21 : decode b_Calls_init 21 = .ok (.bipush 40, 2) := by decide +kernel
theorem d_Calls_init_23 : decode b_Calls_init 23 = .ok (.newarray .int, 2) := by decide +kernel
theorem d_Calls_init_25 : decode b_Calls_init 25 = .ok (.putfield 18, 3) := by decide +kernel
theorem d_Calls_init_28 : decode b_Calls_init 28 = .ok (.aload_n 0, 1) := by decide +kernel
theorem d_Calls_init_29 : decode b_Calls_init 29 = .ok (.bipush 40, 2) := by decide +kernel
theorem d_Calls_init_31 : decode b_Calls_init 31 = .ok (.newarray .int, 2) := by decide +kernel
theorem d_Calls_init_33 : decode b_Calls_init 33 = .ok (.putfield 21, 3) := by decide +kernel
theorem d_Calls_init_36 : decode b_Calls_init 36 = .ok (.aload_n 0, 1) := by decide +kernel
theorem d_Calls_init_37 : decode b_Calls_init 37 = .ok (.iconst 0, 1) := by decide +kernel
theorem d_Calls_init_38 : decode b_Calls_init 38 = .ok (.putfield 24, 3) := by decide +kernel
theorem d_Calls_init_41 : decode b_Calls_init 41 = .ok (.return_, 1) := by decide +kernel
theorem d_Memory_init_0 : decode b_Memory_init 0 = .ok (.aload_n 0, 1) := by decide +kernel
theorem d_Memory_init_1 : decode b_Memory_init 1 = .ok (.invokespecial 1, 3) := by decide +kernel
theorem d_Memory_init_4 : decode b_Memory_init 4 = .ok (.aload_n 0, 1) := by decide +kernel
theorem d_Memory_init_5 : decode b_Memory_init 5 = .ok (.sipush 1000, 3) := by decide +kernel
theorem d_Memory_init_8 : decode b_Memory_init 8 = .ok (.newarray .int, 2) := by decide +kernel
theorem d_Memory_init_10 : decode b_Memory_init 10 = .ok (.putfield 9, 3) := by decide +kernel
theorem d_Memory_init_13 : decode b_Memory_init 13 = .ok (.aload_n 0, 1) := by decide +kernel
theorem d_Memory_init_14 : decode b_Memory_init 14 = .ok (.sipush 600, 3) := by decide +kernel
theorem d_Memory_init_17 : decode b_Memory_init 17 = .ok (.newarray .int, 2) := by decide +kernel
theorem d_Memory_init_19 : decode b_Memory_init 19 = .ok (.putfield 13, 3) := by decide +kernel
theorem d_Memory_init_22 : decode b_Memory_init 22 = .ok (.aload_n 0, 1) := by decide +kernel
theorem d_Memory_init_23 : decode b_Memory_init 23 = .ok (.iconst 1, 1) := by decide +kernel
theorem d_Memory_init_24 : decode b_Memory_init 24 = .ok (.putfield 16, 3) := by decide +kernel
theorem d_Memory_init_27 : decode b_Memory_init 27 = .ok (.aload_n 0, 1) := by decide +kernel
theorem d_Memory_init_28 : decode b_Memory_init 28 = .ok (.getfield 9, 3) := by decide +kernel
theorem d_Memory_init_31 : decode b_Memory_init 31 = .ok (.iconst 0, 1) := by decide +kernel
theorem d_Memory_init_32 : decode b_Memory_init 32 = .ok (.bipush 10, 2) := by decide +kernel
theorem d_Memory_init_34 : decode b_Memory_init 34 = .ok (.iastore, 1) := by decide +kernel
theorem d_Memory_init_35 : decode b_Memory_init 35 = .ok (.return_, 1) := by decide +kernel
theorem d_Out_init_0 : decode b_Out_init 0 = .ok (.aload_n 0, 1) := by decide +kernel
theorem d_Out_init_1 : decode b_Out_init 1 = .ok (.invokespecial 3, 3) := by decide +kernel
theorem d_Out_init_4 : decode b_Out_init 4 = .ok (.aload_n 0, 1) := by decide +kernel
theorem d_Out_init_5 : decode b_Out_init 5 = .ok (.sipush 800, 3) := by decide +kernel
theorem d_Out_init_8 : decode b_Out_init 8 = .ok (.newarray .int, 2) := by decide +kernel
theorem d_Out_init_10 : decode b_Out_init 10 = .ok (.putfield 11, 3) := by decide +kernel
theorem d_Out_init_13 : decode b_Out_init 13 = .ok (.aload_n 0, 1) := by decide +kernel
theorem d_Out_init_14 : decode b_Out_init 14 = .ok (.iconst 0, 1) := by decide +kernel
theorem d_Out_init_15 : decode b_Out_init 15 = .ok (.putfield 15, 3) := by decide +kernel
theorem d_Out_init_18 : decode b_Out_init 18 = .ok (.return_, 1) := by decide +kernel
theorem d_Text_init_0 : decode b_Text_init 0 = .ok (.aload_n 0, 1) := by decide +kernel
theorem d_Text_init_1 : decode b_Text_init 1 = .ok (.invokespecial 3, 3) := by decide +kernel
theorem d_Text_init_4 : decode b_Text_init 4 = .ok (.aload_n 0, 1) := by decide +kernel
theorem d_Text_init_5 : decode b_Text_init 5 = .ok (.sipush 500, 3) := by decide +kernel
theorem d_Text_init_8 : decode b_Text_init 8 = .ok (.newarray .int, 2) := by decide +kernel
theorem d_Text_init_10 : decode b_Text_init 10 = .ok (.putfield 11, 3) := by decide +kernel
theorem d_Text_init_13 : decode b_Text_init 13 = .ok (.aload_n 0, 1) := by decide +kernel
theorem d_Text_init_14 : decode b_Text_init 14 = .ok (.iconst 0, 1) := by decide +kernel
theorem d_Text_init_15 : decode b_Text_init 15 = .ok (.putfield 15, 3) := by decide +kernel
theorem d_Text_init_18 : decode b_Text_init 18 = .ok (.aload_n 0, 1) := by decide +kernel
theorem d_Text_init_19 : decode b_Text_init 19 = .ok (.iconst 0, 1) := by decide +kernel
theorem d_Text_init_20 : decode b_Text_init 20 = .ok (.putfield 19, 3) := by decide +kernel
theorem d_Text_init_23 : decode b_Text_init 23 = .ok (.aload_n 0, 1) := by decide +kernel
theorem d_Text_init_24 : decode b_Text_init 24 = .ok (.iconst 0, 1) := by decide +kernel
theorem d_Text_init_25 : decode b_Text_init 25 = .ok (.putfield 22, 3) := by decide +kernel
theorem d_Text_init_28 : decode b_Text_init 28 = .ok (.aload_n 0, 1) := by decide +kernel
theorem d_Text_init_29 : decode b_Text_init 29 = .ok (.iconst 0, 1) := by decide +kernel
theorem d_Text_init_30 : decode b_Text_init 30 = .ok (.putfield 25, 3) := by decide +kernel
theorem d_Text_init_33 : decode b_Text_init 33 = .ok (.return_, 1) := by decide +kernel
theorem d_Words_init_0 : decode b_Words_init 0 = .ok (.aload_n 0, 1) := by decide +kernel
theorem d_Words_init_1 : decode b_Words_init 1 = .ok (.invokespecial 3, 3) := by decide +kernel
theorem d_Words_init_4 : decode b_Words_init 4 = .ok (.aload_n 0, 1) := by decide +kernel
theorem d_Words_init_5 : decode b_Words_init 5 = .ok (.bipush 80, 2) := by decide +kernel
theorem d_Words_init_7 : decode b_Words_init 7 = .ok (.anewarray 11, 3) := by decide +kernel
theorem d_Words_init_10 : decode b_Words_init 10 = .ok (.putfield 13, 3) := by decide +kernel
theorem d_Words_init_13 : decode b_Words_init 13 = .ok (.aload_n 0, 1) := by decide +kernel
theorem d_Words_init_14 : decode b_Words_init 14 = .ok (.iconst 0, 1) := by decide +kernel
theorem d_Words_init_15 : decode b_Words_init 15 = .ok (.putfield 17, 3) := by decide +kernel
theorem d_Words_init_18 : decode b_Words_init 18 = .ok (.return_, 1) := by decide +kernel
theorem d_Compiler_init_0 : decode b_Compiler_init 0 = .ok (.aload_n 0, 1) := by decide +kernel
theorem d_Compiler_init_1 : decode b_Compiler_init 1 = .ok (.invokespecial 3, 3) := by decide +kernel
theorem d_Compiler_init_4 : decode b_Compiler_init 4 = .ok (.aload_n 0, 1) := by decide +kernel
theorem d_Compiler_init_5 : decode b_Compiler_init 5 = .ok (.sipush 150, 3) := by decide +kernel
theorem d_Compiler_init_8 : decode b_Compiler_init 8 = .ok (.anewarray 11, 3) := by decide +kernel
theorem d_Compiler_init_11 : decode b_Compiler_init 11 = .ok (.putfield 13, 3) := by decide +kernel
theorem d_Compiler_init_14 : decode b_Compiler_init 14 = .ok (.aload_n 0, 1) := by decide +kernel
theorem d_Compiler_init_15 : decode b_Compiler_init 15 = .ok (.iconst 0, 1) := by decide +kernel
theorem d_Compiler_init_16 : decode b_Compiler_init 16 = .ok (.putfield 17, 3) := by decide +kernel
theorem d_Compiler_init_19 : decode b_Compiler_init 19 = .ok (.aload_n 0, 1) := by decide +kernel
theorem d_Compiler_init_20 : decode b_Compiler_init 20 = .ok (.iconst 0, 1) := by decide +kernel
theorem d_Compiler_init_21 : decode b_Compiler_init 21 = .ok (.putfield 21, 3) := by decide +kernel
theorem d_Compiler_init_24 : decode b_Compiler_init 24 = .ok (.aload_n 0, 1) := by decide +kernel
theorem d_Compiler_init_25 : decode b_Compiler_init 25 = .ok (.lconst 0, 1) := by decide +kernel
theorem d_Compiler_init_26 : decode b_Compiler_init 26 = .ok (.putfield 25, 3) := by decide +kernel
theorem d_Compiler_init_29 : decode b_Compiler_init 29 = .ok (.aload_n 0, 1) := by decide +kernel
theorem d_Compiler_init_30 : decode b_Compiler_init 30 = .ok (.new 29, 3) := by decide +kernel
theorem d_Compiler_init_33 : decode b_Compiler_init 33 = .ok (.dup, 1) := by decide +kernel
theorem d_Compiler_init_34 : decode b_Compiler_init 34 = .ok (.sipush 1000, 3) := by decide +kernel
theorem d_Compiler_init_37 : decode b_Compiler_init 37 = .ok (.invokespecial 31, 3) := by decide +kernel
theorem d_Compiler_init_40 : decode b_Compiler_init 40 = .ok (.putfield 34, 3) := by decide +kernel
theorem d_Compiler_init_43 : decode b_Compiler_init 43 = .ok (.aload_n 0, 1) := by decide +kernel
theorem d_Compiler_init_44 : decode b_Compiler_init 44 = .ok (.new 29, 3) := by decide +kernel
theorem d_Compiler_init_47 : decode b_Compiler_init 47 = .ok (.dup, 1) := by decide +kernel
theorem d_Compiler_init_48 : decode b_Compiler_init 48 = .ok (.sipush 1000, 3) := by decide +kernel
theorem d_Compiler_init_51 : decode b_Compiler_init 51 = .ok (.invokespecial 31, 3) := by decide +kernel
theorem d_Compiler_init_54 : decode b_Compiler_init 54 = .ok (.putfield 38, 3) := by decide +kernel
theorem d_Compiler_init_57 : decode b_Compiler_init 57 = .ok (.aload_n 0, 1) := by decide +kernel
theorem d_Compiler_init_58 : decode b_Compiler_init 58 = .ok (.aload_n 1, 1) := by decide +kernel
theorem d_Compiler_init_59 : decode b_Compiler_init 59 = .ok (.putfield 41, 3) := by decide +kernel
theorem d_Compiler_init_62 : decode b_Compiler_init 62 = .ok (.aload_n 0, 1) := by decide +kernel
theorem d_Compiler_init_63 : decode b_Compiler_init 63 = .ok (.aload_n 2, 1) := by decide +kernel
theorem d_Compiler_init_64 : decode b_Compiler_init 64 = .ok (.putfield 45, 3) := by decide +kernel
theorem d_Compiler_init_67 : decode b_Compiler_init 67 = .ok (.aload_n 0, 1) := by decide +kernel
theorem d_Compiler_init_68 : decode b_Compiler_init 68 = .ok (.aload_n 3, 1) := by decide +kernel
theorem d_Compiler_init_69 : decode b_Compiler_init 69 = .ok (.putfield 49, 3) := by decide +kernel
theorem d_Compiler_init_72 : decode b_Compiler_init 72 = .ok (.aload_n 0, 1) := by decide +kernel
theorem d_Compiler_init_73 : decode b_Compiler_init 73 = .ok (.aload 4, 2) := by decide +kernel
theorem d_Compiler_init_75 : decode b_Compiler_init 75 = .ok (.putfield 53, 3) := by decide +kernel
theorem d_Compiler_init_78 : decode b_Compiler_init 78 = .ok (.return_, 1) := by decide +kernel
theorem d_Primitives_init_0 : decode b_Primitives_init 0 = .ok (.aload_n 0, 1) := by decide +kernel
theorem d_Primitives_init_1 : decode b_Primitives_init 1 = .ok (.invokespecial 3, 3) := by decide +kernel
theorem d_Primitives_init_4 : decode b_Primitives_init 4 = .ok (.aload_n 0, 1) := by decide +kernel
theorem d_Primitives_init_5 : decode b_Primitives_init 5 = .ok (.aload_n 1, 1) := by decide +kernel
theorem d_Primitives_init_6 : decode b_Primitives_init 6 = .ok (.putfield 9, 3) := by decide +kernel
theorem d_Primitives_init_9 : decode b_Primitives_init 9 = .ok (.aload_n 0, 1) := by decide +kernel
theorem d_Primitives_init_10 : decode b_Primitives_init 10 = .ok (.aload_n 2, 1) := by decide +kernel
theorem d_Primitives_init_11 : decode b_Primitives_init 11 = .ok (.putfield 15, 3) := by decide +kernel
theorem d_Primitives_init_14 : decode b_Primitives_init 14 = .ok (.aload_n 0, 1) := by decide +kernel
theorem d_Primitives_init_15 : decode b_Primitives_init 15 = .ok (.aload_n 3, 1) := by decide +kernel
theorem d_Primitives_init_16 : decode b_Primitives_init 16 = .ok (.putfield 18, 3) := by decide +kernel
theorem d_Primitives_init_19 : decode b_Primitives_init 19 = .ok (.aload_n 0, 1) := by decide +kernel
theorem d_Primitives_init_20 : decode b_Primitives_init 20 = .ok (.aload 4, 2) := by decide +kernel
theorem d_Primitives_init_22 : decode b_Primitives_init 22 = .ok (.putfield 22, 3) := by decide +kernel
theorem d_Primitives_init_25 : decode b_Primitives_init 25 = .ok (.aload_n 0, 1) := by decide +kernel
theorem d_Primitives_init_26 : decode b_Primitives_init 26 = .ok (.aload 5, 2) := by decide +kernel
theorem d_Primitives_init_28 : decode b_Primitives_init 28 = .ok (.putfield 26, 3) := by decide +kernel
theorem d_Primitives_init_31 : decode b_Primitives_init 31 = .ok (.aload_n 0, 1) := by decide +kernel
theorem d_Primitives_init_32 : decode b_Primitives_init 32 = .ok (.aload 6, 2) := by decide +kernel
theorem d_Primitives_init_34 : decode b_Primitives_init 34 = .ok (.putfield 30, 3) := by decide +kernel
theorem d_Primitives_init_37 : decode b_Primitives_init 37 = .ok (.aload_n 0, 1) := by decide +kernel
theorem d_Primitives_init_38 : decode b_Primitives_init 38 = .ok (.aload 7, 2) := by decide +kernel
theorem d_Primitives_init_40 : decode b_Primitives_init 40 = .ok (.putfield 34, 3) := by decide +kernel
theorem d_Primitives_init_43 : decode b_Primitives_init 43 = .ok (.return_, 1) := by decide +kernel
theorem d_Mach_init_0 : decode b_Mach_init 0 = .ok (.aload_n 0, 1) := by decide +kernel
theorem d_Mach_init_1 : decode b_Mach_init 1 = .ok (.invokespecial 1, 3) := by decide +kernel
theorem d_Mach_init_4 : decode b_Mach_init 4 = .ok (.aload_n 0, 1) := by decide +kernel
theorem d_Mach_init_5 : decode b_Mach_init 5 = .ok (.new 7, 3) := by decide +kernel
theorem d_Mach_init_8 : decode b_Mach_init 8 = .ok (.dup, 1) := by decide +kernel
theorem d_Mach_init_9 : decode b_Mach_init 9 = .ok (.bipush 64, 2) := by decide +kernel
theorem d_Mach_init_11 : decode b_Mach_init 11 = .ok (.invokespecial 11, 3) := by decide +kernel
theorem d_Mach_init_14 : decode b_Mach_init 14 = .ok (.putfield 14, 3) := by decide +kernel
theorem d_Mach_init_17 : decode b_Mach_init 17 = .ok (.aload_n 0, 1) := by decide +kernel
theorem d_Mach_init_18 : decode b_Mach_init 18 = .ok (.new 7, 3) := by decide +kernel
theorem d_Mach_init_21 : decode b_Mach_init 21 = .ok (.dup, 1) := by decide +kernel
theorem d_Mach_init_22 : decode b_Mach_init 22 = .ok (.bipush 64, 2) := by decide +kernel
theorem d_Mach_init_24 : decode b_Mach_init 24 = .ok (.invokespecial 11, 3) := by decide +kernel
theorem d_Mach_init_27 : decode b_Mach_init 27 = .ok (.putfield 18, 3) := by decide +kernel
theorem d_Mach_init_30 : decode b_Mach_init 30 = .ok (.aload_n 0, 1) := by decide +kernel
theorem d_Mach_init_31 : decode b_Mach_init 31 = .ok (.new 21, 3) := by decide +kernel
theorem d_Mach_init_34 : decode b_Mach_init 34 = .ok (.dup, 1) := by decide +kernel
theorem d_Mach_init_35 : decode b_Mach_init 35 = .ok (.invokespecial 23, 3) := by decide +kernel
theorem d_Mach_init_38 : decode b_Mach_init 38 = .ok (.putfield 24, 3) := by decide +kernel
theorem d_Mach_init_41 : decode b_Mach_init 41 = .ok (.aload_n 0, 1) := by decide +kernel
theorem d_Mach_init_42 : decode b_Mach_init 42 = .ok (.new 28, 3) := by decide +kernel
theorem d_Mach_init_45 : decode b_Mach_init 45 = .ok (.dup, 1) := by decide +kernel
theorem d_Mach_init_46 : decode b_Mach_init 46 = .ok (.invokespecial 30, 3) := by decide +kernel
theorem d_Mach_init_49 : decode b_Mach_init 49 = .ok (.putfield 31, 3) := by decide +kernel
theorem d_Mach_init_52 : decode b_Mach_init 52 = .ok (.aload_n 0, 1) := by decide +kernel
theorem d_Mach_init_53 : decode b_Mach_init 53 = .ok (.new 35, 3) := by decide +kernel
theorem d_Mach_init_56 : decode b_Mach_init 56 = .ok (.dup, 1) := by decide +kernel
theorem d_Mach_init_57 : decode b_Mach_init 57 = .ok (.invokespecial 37, 3) := by decide +kernel
theorem d_Mach_init_60 : decode b_Mach_init 60 = .ok (.putfield 38, 3) := by decide +kernel
theorem d_Mach_init_63 : decode b_Mach_init 63 = .ok (.aload_n 0, 1) := by decide +kernel
theorem d_Mach_init_64 : decode b_Mach_init 64 = .ok (.new 42, 3) := by decide +kernel
theorem d_Mach_init_67 : decode b_Mach_init 67 = .ok (.dup, 1) := by decide +kernel
theorem d_Mach_init_68 : decode b_Mach_init 68 = .ok (.invokespecial 44, 3) := by decide +kernel
theorem d_Mach_init_71 : decode b_Mach_init 71 = .ok (.putfield 45, 3) := by decide +kernel
theorem d_Mach_init_74 : decode b_Mach_init 74 = .ok (.aload_n 0, 1) := by decide +kernel
theorem d_Mach_init_75 : decode b_Mach_init 75 = .ok (.new 49, 3) := by decide +kernel
theorem d_Mach_init_78 : decode b_Mach_init 78 = .ok (.dup, 1) := by decide +kernel
theorem d_Mach_init_79 : decode b_Mach_init 79 = .ok (.invokespecial 51, 3) := by decide +kernel
theorem d_Mach_init_82 : decode b_Mach_init 82 = .ok (.putfield 52, 3) := by decide +kernel
theorem d_Mach_init_85 : decode b_Mach_init 85 = .ok (.aload_n 0, 1) := by decide +kernel
theorem d_Mach_init_86 : decode b_Mach_init 86 = .ok (.new 56, 3) := by decide +kernel
theorem d_Mach_init_89 : decode b_Mach_init 89 = .ok (.dup, 1) := by decide +kernel
theorem d_Mach_init_90 : decode b_Mach_init 90 = .ok (.aload_n 0, 1) := by decide +kernel
theorem d_Mach_init_91 : decode b_Mach_init 91 = .ok (.getfield 45, 3) := by decide +kernel
theorem d_Mach_init_94 : decode b_Mach_init 94 = .ok (.aload_n 0, 1) := by decide +kernel
theorem d_Mach_init_95 : decode b_Mach_init 95 = .ok (.getfield 52, 3) := by decide +kernel
theorem d_Mach_init_98 : decode b_Mach_init 98 = .ok (.aload_n 0, 1) := by decide +kernel
theorem d_Mach_init_99 : decode b_Mach_init 99 = .ok (.getfield 31, 3) := by decide +kernel
theorem d_Mach_init_102 : decode b_Mach_init 102 = .ok (.aload_n 0, 1) := by decide +kernel
theorem d_Mach_init_103 : decode b_Mach_init 103 = .ok (.getfield 38, 3) := by decide +kernel
theorem d_Mach_init_106 : decode b_Mach_init 106 = .ok (.invokespecial 58, 3) := by decide +kernel
theorem d_Mach_init_109 : decode b_Mach_init 109 = .ok (.putfield 61, 3) := by decide +kernel
theorem d_Mach_init_112 : decode b_Mach_init 112 = .ok (.aload_n 0, 1) := by decide +kernel
theorem d_Mach_init_113 : decode b_Mach_init 113 = .ok (.new 65, 3) := by decide +kernel
theorem d_Mach_init_116 : decode b_Mach_init 116 = .ok (.dup, 1) := by decide +kernel
theorem d_Mach_init_117 : decode b_Mach_init 117 = .ok (.aload_n 0, 1) := by decide +kernel
theorem d_Mach_init_118 : decode b_Mach_init 118 = .ok (.getfield 14, 3) := by decide +kernel
theorem d_Mach_init_121 : decode b_Mach_init 121 = .ok (.aload_n 0, 1) := by decide +kernel
theorem d_Mach_init_122 : decode b_Mach_init 122 = .ok (.getfield 18, 3) := by decide +kernel
theorem d_Mach_init_125 : decode b_Mach_init 125 = .ok (.aload_n 0, 1) := by decide +kernel
theorem d_Mach_init_126 : decode b_Mach_init 126 = .ok (.getfield 24, 3) := by decide +kernel
theorem d_Mach_init_129 : decode b_Mach_init 129 = .ok (.aload_n 0, 1) := by decide +kernel
theorem d_Mach_init_130 : decode b_Mach_init 130 = .ok (.getfield 31, 3) := by decide +kernel
theorem d_Mach_init_133 : decode b_Mach_init 133 = .ok (.aload_n 0, 1) := by decide +kernel
theorem d_Mach_init_134 : decode b_Mach_init 134 = .ok (.getfield 38, 3) := by decide +kernel
theorem d_Mach_init_137 : decode b_Mach_init 137 = .ok (.aload_n 0, 1) := by decide +kernel
theorem d_Mach_init_138 : decode b_Mach_init 138 = .ok (.getfield 45, 3) := by decide +kernel
theorem d_Mach_init_141 : decode b_Mach_init 141 = .ok (.aload_n 0, 1) := by decide +kernel
theorem d_Mach_init_142 : decode b_Mach_init 142 = .ok (.getfield 52, 3) := by decide +kernel
theorem d_Mach_init_145 : decode b_Mach_init 145 = .ok (.invokespecial 67, 3) := by decide +kernel
theorem d_Mach_init_148 : decode b_Mach_init 148 = .ok (.putfield 70, 3) := by decide +kernel
theorem d_Mach_init_151 : decode b_Mach_init 151 = .ok (.aload_n 0, 1) := by decide +kernel
theorem d_Mach_init_152 : decode b_Mach_init 152 = .ok (.iconst 0, 1) := by decide +kernel
theorem d_Mach_init_153 : decode b_Mach_init 153 = .ok (.putfield 74, 3) := by decide +kernel
theorem d_Mach_init_156 : decode b_Mach_init 156 = .ok (.return_, 1) := by decide +kernel
set_option maxHeartbeats 4000000 in
set_option maxRecDepth 100000 in
theorem c_Cells_init (l : Launch) (D : va_G) (cI cJ cZ cW cT : ClassId) (sz : Nat) (h : Nat) (x1 : Int32) (hp : 0 ≤ x1.toInt) (hq : x1.toInt ≤ 1000) : Met l y_Cells_init w_Cells_init ({ frames := 1, cells := 0 + 1, slots := 0 + x1.toNatClampNeg, locals := 12 }) (va_Pc [.ref h, .int x1] (zP D classes (TY cI cJ cZ cW cT) [(h, .inr (1, [.null, .int 0]))] sz)) (va_Qv (fun _ : Nat → Nat => True) (fun u => zB D classes (TY cI cJ cZ cW cT) (va_A [(h, .inr (1, [.null, .int 0]))] sz) [(h, .inr (1, [.ref (u 0), .int 0])), ((u 0), .inl (cI, x1.toNatClampNeg, .inl (fun _ => 0)))]) (va_A [(h, .inr (1, [.null, .int 0]))] sz)) (0 + 1) (0 + x1.toNatClampNeg) (va_A [(h, .inr (1, [.null, .int 0]))] sz) := by
  refine Met.ofW (cc := b_Cells_init) (maxL := 2) (ret := none) (by decide) rfl ?_
  intro p e s m args below meth c s₁ B hml hv
  obtain ⟨rfl, hsz, hP, hK, hD0, hE⟩ := hv
  have hx := B.exec
  have hb := B.bytes
  have hr := B.returns
  have hts := atoms_spec (ws := w_Cells_init) B.pre
  have hT : ∀ w ∈ TB, w.before _ s = true := fun w h => hts w (List.mem_cons_of_mem _ h)
  have hown : s.vm.findClass "ColonMachine$Cells" = some m.cls := findClass_of_methodNamed B.named
  have hlocks := B.notSynchronized
  have hin : meth.name = "<init>" := (name_of_methodNamed B.named B.method).1
  subst hsz
  have hD := hD0.self (sz := s.heap.size)
  generalize hAe : va_A [(h, .inr (1, [.null, .int 0]))] s.heap.size = A at hD hE ⊢
  have hA : ∀ q : Nat, s.heap.size ≤ q → A q := fun q h => by rw [← hAe]; exact Or.inr h
  have hS : va_S A s.heap s.heap [] := va_S.rf
  have hl := lv_entry [.ref h, .int x1] (n := 2) (Nat.le_of_ble_eq_true rfl)
  rw [lg_entry_eq]
  generalize (lg_sl [.ref h, .int x1] ++ List.replicate (2 - (lg_sl [.ref h, .int x1]).length) Slot.unset).toArray = ls at hl ⊢
  have hl : lv_has ls 2 [(0, .ref h), (1, .int x1)] := hl
  refine lv_aload_n hx hb d_Cells_init_0 rfl (lv_at hl 0 rfl) ?_
  refine W.objInit hx hb hown (hT _ ml_Cells_1) (hT _ im_Obj_init) (hT _ co_Obj_init) rfl (by rw [hml]; exact hl.1) rfl d_Cells_init_1 (Nat.le_of_ble_eq_true rfl) (Nat.le_of_ble_eq_true rfl) ?_
  refine W.eq (g2 := F0 m 4 ls []) rfl ?_
  refine lv_aload_n hx hb d_Cells_init_4 rfl (lv_at hl 0 rfl) ?_
  refine lv_iconst (v := 0) hx hb d_Cells_init_5 (by decide) ?_
  refine va_put (D := D) (v := .int 0) (ty := .int) (C := "ColonMachine$Cells") (T := T_Cells) (N := 2) hx hb hT i_Cells t_Cells tk_Cells n_Cells hown hK hP hD hS 0 rfl rfl 1 (by decide) (hT _ fl_Cells_7) (fun _ h9 => h9) rfl (by decide +kernel) rfl rfl (Nat.le_of_ble_eq_true rfl) d_Cells_init_6 (fun H locs hP hD hS => ?_)
  have hP : va_P D classes [(h, .inr (1, [.null, .int 0]))] H := hP
  have hD : va_D A [(h, .inr (1, [.null, .int 0]))] := hD
  refine lv_aload_n hx hb d_Cells_init_9 rfl (lv_at hl 0 rfl) ?_
  refine lv_iload_n hx hb d_Cells_init_10 rfl (lv_at hl 1 rfl) ?_
  refine lv_if_ge (tgt := 18) hx hb d_Cells_init_11 (by decide) (fun c1 => ?_) (fun c1 => ?_)
  · refine lv_iload_n hx hb d_Cells_init_18 rfl (lv_at hl 1 rfl) ?_
    refine z_newa (atype := .int) (a0 := (x1.toNatClampNeg, .inl (fun _ => 0))) hx hb (hT _ ac_int) rfl hK hP hD hS hA 0 rfl (fun _ h => by cases h) (fun _ => rfl) (by simp only [Int32.lt_iff_toInt_lt, Int32.toInt_zero]; omega) rfl (by rw [z_tn]; show x1.toInt.toNat * 4 ≤ _; omega) (by first | exact Nat.le_refl _ | exact Nat.le_of_ble_eq_true rfl) (by first | exact Nat.le_refl _ | exact Nat.le_of_ble_eq_true rfl) d_Cells_init_19 (fun o2 H hP hD hS => ?_)
    have hP : va_P D classes [(h, .inr (1, [.null, .int 0])), (o2, .inl (cI, x1.toNatClampNeg, .inl (fun _ => 0)))] H := hP
    have hD : va_D A [(h, .inr (1, [.null, .int 0])), (o2, .inl (cI, x1.toNatClampNeg, .inl (fun _ => 0)))] := hD
    refine va_putF (D := D) (v := .ref o2) (ty := (.array .int)) (C := "ColonMachine$Cells") (T := T_Cells) (N := 2) hx hb hT i_Cells t_Cells tk_Cells n_Cells hown hK hP hD hS 0 rfl rfl 0 (by decide) (hT _ fl_Cells_13) (fun _ h9 => h9) rfl hin rfl (by decide +kernel) rfl rfl (Nat.le_of_ble_eq_true rfl) d_Cells_init_21 (fun H locs hP hD hS => ?_)
    have hP : va_P D classes [(h, .inr (1, [.ref o2, .int 0])), (o2, .inl (cI, x1.toNatClampNeg, .inl (fun _ => 0)))] H := hP
    have hD : va_D A [(h, .inr (1, [.ref o2, .int 0])), (o2, .inl (cI, x1.toNatClampNeg, .inl (fun _ => 0)))] := hD
    exact W.vret hx hb hr (fun t ht hW => ⟨⟨(fun k : Nat => match k with | 0 => o2 | _ => 0), rfl, trivial, ⟨by rw [ht]; exact hP, va_K.moved hW.alike hK, hD⟩⟩, hS.F ht⟩) hS.2.2 d_Cells_init_24
  · exact False.elim (by have := ti_lo x1; have := ti_hi x1; have t0 : Int32.toInt 0 = 0 := rfl; have t1000 : Int32.toInt 1000 = 1000 := rfl; (try simp only [true_or, or_true, true_and, and_true, z_tn, CellsOk, CallsOk, TextOk, MemOk, OutOk, Int32.lt_iff_toInt_lt, Int32.le_iff_toInt_le, ← Int32.toInt_inj, Int32.toInt_add, Int32.toInt_sub, Int32.toInt_mul, Int32.toInt_neg, zbm, zbm', t0, t1000] at c1 hp hq) <;> omega)
set_option maxHeartbeats 4000000 in
set_option maxRecDepth 100000 in
theorem c_Calls_init (l : Launch) (D : va_G) (cI cJ cZ cW cT : ClassId) (sz : Nat) (h : Nat)  : Met l y_Calls_init w_Calls_init ({ frames := 1, cells := 0 + 1 + 1 + 1 + 1, slots := 0 + 40 + 40 + 40 + 40, locals := 12 }) (va_Pc [.ref h] (zP D classes (TY cI cJ cZ cW cT) [(h, .inr (0, [.null, .null, .null, .null, .int 0]))] sz)) (va_Qv (fun _ : Nat → Nat => True) (fun u => zB D classes (TY cI cJ cZ cW cT) (va_A [(h, .inr (0, [.null, .null, .null, .null, .int 0]))] sz) [(h, .inr (0, [.ref (u 0), .ref (u 1), .ref (u 2), .ref (u 3), .int 0])), ((u 0), .inl (cI, 40, .inl (fun _ => 0))), ((u 1), .inl (cI, 40, .inl (fun _ => 0))), ((u 2), .inl (cI, 40, .inl (fun _ => 0))), ((u 3), .inl (cI, 40, .inl (fun _ => 0)))]) (va_A [(h, .inr (0, [.null, .null, .null, .null, .int 0]))] sz)) (0 + 1 + 1 + 1 + 1) (0 + 40 + 40 + 40 + 40) (va_A [(h, .inr (0, [.null, .null, .null, .null, .int 0]))] sz) := by
  refine Met.ofW (cc := b_Calls_init) (maxL := 1) (ret := none) (by decide) rfl ?_
  intro p e s m args below meth c s₁ B hml hv
  obtain ⟨rfl, hsz, hP, hK, hD0, hE⟩ := hv
  have hx := B.exec
  have hb := B.bytes
  have hr := B.returns
  have hts := atoms_spec (ws := w_Calls_init) B.pre
  have hT : ∀ w ∈ TB, w.before _ s = true := fun w h => hts w (List.mem_cons_of_mem _ h)
  have hown : s.vm.findClass "ColonMachine$Calls" = some m.cls := findClass_of_methodNamed B.named
  have hlocks := B.notSynchronized
  have hin : meth.name = "<init>" := (name_of_methodNamed B.named B.method).1
  subst hsz
  have hD := hD0.self (sz := s.heap.size)
  generalize hAe : va_A [(h, .inr (0, [.null, .null, .null, .null, .int 0]))] s.heap.size = A at hD hE ⊢
  have hA : ∀ q : Nat, s.heap.size ≤ q → A q := fun q h => by rw [← hAe]; exact Or.inr h
  have hS : va_S A s.heap s.heap [] := va_S.rf
  have hl := lv_entry [.ref h] (n := 1) (Nat.le_of_ble_eq_true rfl)
  rw [lg_entry_eq]
  generalize (lg_sl [.ref h] ++ List.replicate (1 - (lg_sl [.ref h]).length) Slot.unset).toArray = ls at hl ⊢
  have hl : lv_has ls 1 [(0, .ref h)] := hl
  refine lv_aload_n hx hb d_Calls_init_0 rfl (lv_at hl 0 rfl) ?_
  refine W.objInit hx hb hown (hT _ ml_Calls_3) (hT _ im_Obj_init) (hT _ co_Obj_init) rfl (by rw [hml]; exact hl.1) rfl d_Calls_init_1 (Nat.le_of_ble_eq_true rfl) (Nat.le_of_ble_eq_true rfl) ?_
  refine W.eq (g2 := F0 m 4 ls []) rfl ?_
  refine lv_aload_n hx hb d_Calls_init_4 rfl (lv_at hl 0 rfl) ?_
  refine lv_bipush (v := 40) hx hb d_Calls_init_5 (by decide) ?_
  refine z_newa (atype := .int) (a0 := (40, .inl (fun _ => 0))) hx hb (hT _ ac_int) rfl hK hP hD hS hA 0 rfl (fun _ h => by cases h) (fun _ => rfl) (by decide) rfl (by decide) (by first | exact Nat.le_refl _ | exact Nat.le_of_ble_eq_true rfl) (by first | exact Nat.le_refl _ | exact Nat.le_of_ble_eq_true rfl) d_Calls_init_7 (fun o1 H hP hD hS => ?_)
  have hP : va_P D classes [(h, .inr (0, [.null, .null, .null, .null, .int 0])), (o1, .inl (cI, 40, .inl (fun _ => 0)))] H := hP
  have hD : va_D A [(h, .inr (0, [.null, .null, .null, .null, .int 0])), (o1, .inl (cI, 40, .inl (fun _ => 0)))] := hD
  refine va_putF (D := D) (v := .ref o1) (ty := (.array .int)) (C := "ColonMachine$Calls") (T := T_Calls) (N := 5) hx hb hT i_Calls t_Calls tk_Calls n_Calls hown hK hP hD hS 0 rfl rfl 0 (by decide) (hT _ fl_Calls_11) (fun _ h9 => h9) rfl hin rfl (by decide +kernel) rfl rfl (Nat.le_of_ble_eq_true rfl) d_Calls_init_9 (fun H locs hP hD hS => ?_)
  have hP : va_P D classes [(h, .inr (0, [.ref o1, .null, .null, .null, .int 0])), (o1, .inl (cI, 40, .inl (fun _ => 0)))] H := hP
  have hD : va_D A [(h, .inr (0, [.ref o1, .null, .null, .null, .int 0])), (o1, .inl (cI, 40, .inl (fun _ => 0)))] := hD
  refine lv_aload_n hx hb d_Calls_init_12 rfl (lv_at hl 0 rfl) ?_
  refine lv_bipush (v := 40) hx hb d_Calls_init_13 (by decide) ?_
  refine z_newa (atype := .int) (a0 := (40, .inl (fun _ => 0))) hx hb (hT _ ac_int) rfl hK hP hD hS hA 0 rfl (fun _ h => by cases h) (fun _ => rfl) (by decide) rfl (by decide) (by first | exact Nat.le_refl _ | exact Nat.le_of_ble_eq_true rfl) (by first | exact Nat.le_refl _ | exact Nat.le_of_ble_eq_true rfl) d_Calls_init_15 (fun o2 H hP hD hS => ?_)
  have hP : va_P D classes [(h, .inr (0, [.ref o1, .null, .null, .null, .int 0])), (o1, .inl (cI, 40, .inl (fun _ => 0))), (o2, .inl (cI, 40, .inl (fun _ => 0)))] H := hP
  have hD : va_D A [(h, .inr (0, [.ref o1, .null, .null, .null, .int 0])), (o1, .inl (cI, 40, .inl (fun _ => 0))), (o2, .inl (cI, 40, .inl (fun _ => 0)))] := hD
  refine va_putF (D := D) (v := .ref o2) (ty := (.array .int)) (C := "ColonMachine$Calls") (T := T_Calls) (N := 5) hx hb hT i_Calls t_Calls tk_Calls n_Calls hown hK hP hD hS 0 rfl rfl 1 (by decide) (hT _ fl_Calls_15) (fun _ h9 => h9) rfl hin rfl (by decide +kernel) rfl rfl (Nat.le_of_ble_eq_true rfl) d_Calls_init_17 (fun H locs hP hD hS => ?_)
  have hP : va_P D classes [(h, .inr (0, [.ref o1, .ref o2, .null, .null, .int 0])), (o1, .inl (cI, 40, .inl (fun _ => 0))), (o2, .inl (cI, 40, .inl (fun _ => 0)))] H := hP
  have hD : va_D A [(h, .inr (0, [.ref o1, .ref o2, .null, .null, .int 0])), (o1, .inl (cI, 40, .inl (fun _ => 0))), (o2, .inl (cI, 40, .inl (fun _ => 0)))] := hD
  refine lv_aload_n hx hb d_Calls_init_20 rfl (lv_at hl 0 rfl) ?_
  refine lv_bipush (v := 40) hx hb d_Calls_init_21 (by decide) ?_
  refine z_newa (atype := .int) (a0 := (40, .inl (fun _ => 0))) hx hb (hT _ ac_int) rfl hK hP hD hS hA 0 rfl (fun _ h => by cases h) (fun _ => rfl) (by decide) rfl (by decide) (by first | exact Nat.le_refl _ | exact Nat.le_of_ble_eq_true rfl) (by first | exact Nat.le_refl _ | exact Nat.le_of_ble_eq_true rfl) d_Calls_init_23 (fun o3 H hP hD hS => ?_)
  have hP : va_P D classes [(h, .inr (0, [.ref o1, .ref o2, .null, .null, .int 0])), (o1, .inl (cI, 40, .inl (fun _ => 0))), (o2, .inl (cI, 40, .inl (fun _ => 0))), (o3, .inl (cI, 40, .inl (fun _ => 0)))] H := hP
  have hD : va_D A [(h, .inr (0, [.ref o1, .ref o2, .null, .null, .int 0])), (o1, .inl (cI, 40, .inl (fun _ => 0))), (o2, .inl (cI, 40, .inl (fun _ => 0))), (o3, .inl (cI, 40, .inl (fun _ => 0)))] := hD
  refine va_putF (D := D) (v := .ref o3) (ty := (.array .int)) (C := "ColonMachine$Calls") (T := T_Calls) (N := 5) hx hb hT i_Calls t_Calls tk_Calls n_Calls hown hK hP hD hS 0 rfl rfl 2 (by decide) (hT _ fl_Calls_18) (fun _ h9 => h9) rfl hin rfl (by decide +kernel) rfl rfl (Nat.le_of_ble_eq_true rfl) d_Calls_init_25 (fun H locs hP hD hS => ?_)
  have hP : va_P D classes [(h, .inr (0, [.ref o1, .ref o2, .ref o3, .null, .int 0])), (o1, .inl (cI, 40, .inl (fun _ => 0))), (o2, .inl (cI, 40, .inl (fun _ => 0))), (o3, .inl (cI, 40, .inl (fun _ => 0)))] H := hP
  have hD : va_D A [(h, .inr (0, [.ref o1, .ref o2, .ref o3, .null, .int 0])), (o1, .inl (cI, 40, .inl (fun _ => 0))), (o2, .inl (cI, 40, .inl (fun _ => 0))), (o3, .inl (cI, 40, .inl (fun _ => 0)))] := hD
  refine lv_aload_n hx hb d_Calls_init_28 rfl (lv_at hl 0 rfl) ?_
  refine lv_bipush (v := 40) hx hb d_Calls_init_29 (by decide) ?_
  refine z_newa (atype := .int) (a0 := (40, .inl (fun _ => 0))) hx hb (hT _ ac_int) rfl hK hP hD hS hA 0 rfl (fun _ h => by cases h) (fun _ => rfl) (by decide) rfl (by decide) (by first | exact Nat.le_refl _ | exact Nat.le_of_ble_eq_true rfl) (by first | exact Nat.le_refl _ | exact Nat.le_of_ble_eq_true rfl) d_Calls_init_31 (fun o4 H hP hD hS => ?_)
  have hP : va_P D classes [(h, .inr (0, [.ref o1, .ref o2, .ref o3, .null, .int 0])), (o1, .inl (cI, 40, .inl (fun _ => 0))), (o2, .inl (cI, 40, .inl (fun _ => 0))), (o3, .inl (cI, 40, .inl (fun _ => 0))), (o4, .inl (cI, 40, .inl (fun _ => 0)))] H := hP
  have hD : va_D A [(h, .inr (0, [.ref o1, .ref o2, .ref o3, .null, .int 0])), (o1, .inl (cI, 40, .inl (fun _ => 0))), (o2, .inl (cI, 40, .inl (fun _ => 0))), (o3, .inl (cI, 40, .inl (fun _ => 0))), (o4, .inl (cI, 40, .inl (fun _ => 0)))] := hD
  refine va_putF (D := D) (v := .ref o4) (ty := (.array .int)) (C := "ColonMachine$Calls") (T := T_Calls) (N := 5) hx hb hT i_Calls t_Calls tk_Calls n_Calls hown hK hP hD hS 0 rfl rfl 3 (by decide) (hT _ fl_Calls_21) (fun _ h9 => h9) rfl hin rfl (by decide +kernel) rfl rfl (Nat.le_of_ble_eq_true rfl) d_Calls_init_33 (fun H locs hP hD hS => ?_)
  have hP : va_P D classes [(h, .inr (0, [.ref o1, .ref o2, .ref o3, .ref o4, .int 0])), (o1, .inl (cI, 40, .inl (fun _ => 0))), (o2, .inl (cI, 40, .inl (fun _ => 0))), (o3, .inl (cI, 40, .inl (fun _ => 0))), (o4, .inl (cI, 40, .inl (fun _ => 0)))] H := hP
  have hD : va_D A [(h, .inr (0, [.ref o1, .ref o2, .ref o3, .ref o4, .int 0])), (o1, .inl (cI, 40, .inl (fun _ => 0))), (o2, .inl (cI, 40, .inl (fun _ => 0))), (o3, .inl (cI, 40, .inl (fun _ => 0))), (o4, .inl (cI, 40, .inl (fun _ => 0)))] := hD
  refine lv_aload_n hx hb d_Calls_init_36 rfl (lv_at hl 0 rfl) ?_
  refine lv_iconst (v := 0) hx hb d_Calls_init_37 (by decide) ?_
  refine va_put (D := D) (v := .int 0) (ty := .int) (C := "ColonMachine$Calls") (T := T_Calls) (N := 5) hx hb hT i_Calls t_Calls tk_Calls n_Calls hown hK hP hD hS 0 rfl rfl 4 (by decide) (hT _ fl_Calls_24) (fun _ h9 => h9) rfl (by decide +kernel) rfl rfl (Nat.le_of_ble_eq_true rfl) d_Calls_init_38 (fun H locs hP hD hS => ?_)
  have hP : va_P D classes [(h, .inr (0, [.ref o1, .ref o2, .ref o3, .ref o4, .int 0])), (o1, .inl (cI, 40, .inl (fun _ => 0))), (o2, .inl (cI, 40, .inl (fun _ => 0))), (o3, .inl (cI, 40, .inl (fun _ => 0))), (o4, .inl (cI, 40, .inl (fun _ => 0)))] H := hP
  have hD : va_D A [(h, .inr (0, [.ref o1, .ref o2, .ref o3, .ref o4, .int 0])), (o1, .inl (cI, 40, .inl (fun _ => 0))), (o2, .inl (cI, 40, .inl (fun _ => 0))), (o3, .inl (cI, 40, .inl (fun _ => 0))), (o4, .inl (cI, 40, .inl (fun _ => 0)))] := hD
  exact W.vret hx hb hr (fun t ht hW => ⟨⟨(fun k : Nat => match k with | 0 => o1 | 1 => o2 | 2 => o3 | 3 => o4 | _ => 0), rfl, trivial, ⟨by rw [ht]; exact hP, va_K.moved hW.alike hK, hD⟩⟩, hS.F ht⟩) hS.2.2 d_Calls_init_41
set_option maxHeartbeats 4000000 in
set_option maxRecDepth 100000 in
theorem c_Memory_init (l : Launch) (D : va_G) (cI cJ cZ cW cT : ClassId) (sz : Nat) (h : Nat)  : Met l y_Memory_init w_Memory_init ({ frames := 1, cells := 0 + 1 + 1, slots := 0 + 1000 + 600, locals := 12 }) (va_Pc [.ref h] (zP D classes (TY cI cJ cZ cW cT) [(h, .inr (4, [.null, .null, .int 0]))] sz)) (va_Qv (fun _ : Nat → Nat => True) (fun u => zB D classes (TY cI cJ cZ cW cT) (va_A [(h, .inr (4, [.null, .null, .int 0]))] sz) [(h, .inr (4, [.ref (u 0), .ref (u 1), .int 1])), ((u 0), .inl (cI, 1000, .inl (upd (fun _ => 0) (0 : Int32).toNatClampNeg 10))), ((u 1), .inl (cI, 600, .inl (fun _ => 0)))]) (va_A [(h, .inr (4, [.null, .null, .int 0]))] sz)) (0 + 1 + 1) (0 + 1000 + 600) (va_A [(h, .inr (4, [.null, .null, .int 0]))] sz) := by
  refine Met.ofW (cc := b_Memory_init) (maxL := 1) (ret := none) (by decide) rfl ?_
  intro p e s m args below meth c s₁ B hml hv
  obtain ⟨rfl, hsz, hP, hK, hD0, hE⟩ := hv
  have hx := B.exec
  have hb := B.bytes
  have hr := B.returns
  have hts := atoms_spec (ws := w_Memory_init) B.pre
  have hT : ∀ w ∈ TB, w.before _ s = true := fun w h => hts w (List.mem_cons_of_mem _ h)
  have hown : s.vm.findClass "ColonMachine$Memory" = some m.cls := findClass_of_methodNamed B.named
  have hlocks := B.notSynchronized
  have hin : meth.name = "<init>" := (name_of_methodNamed B.named B.method).1
  subst hsz
  have hD := hD0.self (sz := s.heap.size)
  generalize hAe : va_A [(h, .inr (4, [.null, .null, .int 0]))] s.heap.size = A at hD hE ⊢
  have hA : ∀ q : Nat, s.heap.size ≤ q → A q := fun q h => by rw [← hAe]; exact Or.inr h
  have hS : va_S A s.heap s.heap [] := va_S.rf
  have hl := lv_entry [.ref h] (n := 1) (Nat.le_of_ble_eq_true rfl)
  rw [lg_entry_eq]
  generalize (lg_sl [.ref h] ++ List.replicate (1 - (lg_sl [.ref h]).length) Slot.unset).toArray = ls at hl ⊢
  have hl : lv_has ls 1 [(0, .ref h)] := hl
  refine lv_aload_n hx hb d_Memory_init_0 rfl (lv_at hl 0 rfl) ?_
  refine W.objInit hx hb hown (hT _ ml_Memory_1) (hT _ im_Obj_init) (hT _ co_Obj_init) rfl (by rw [hml]; exact hl.1) rfl d_Memory_init_1 (Nat.le_of_ble_eq_true rfl) (Nat.le_of_ble_eq_true rfl) ?_
  refine W.eq (g2 := F0 m 4 ls []) rfl ?_
  refine lv_aload_n hx hb d_Memory_init_4 rfl (lv_at hl 0 rfl) ?_
  refine lv_sipush (v := 1000) hx hb d_Memory_init_5 (by decide) ?_
  refine z_newa (atype := .int) (a0 := (1000, .inl (fun _ => 0))) hx hb (hT _ ac_int) rfl hK hP hD hS hA 0 rfl (fun _ h => by cases h) (fun _ => rfl) (by decide) rfl (by decide) (by first | exact Nat.le_refl _ | exact Nat.le_of_ble_eq_true rfl) (by first | exact Nat.le_refl _ | exact Nat.le_of_ble_eq_true rfl) d_Memory_init_8 (fun o1 H hP hD hS => ?_)
  have hP : va_P D classes [(h, .inr (4, [.null, .null, .int 0])), (o1, .inl (cI, 1000, .inl (fun _ => 0)))] H := hP
  have hD : va_D A [(h, .inr (4, [.null, .null, .int 0])), (o1, .inl (cI, 1000, .inl (fun _ => 0)))] := hD
  refine va_putF (D := D) (v := .ref o1) (ty := (.array .int)) (C := "ColonMachine$Memory") (T := T_Memory) (N := 3) hx hb hT i_Memory t_Memory tk_Memory n_Memory hown hK hP hD hS 0 rfl rfl 0 (by decide) (hT _ fl_Memory_9) (fun _ h9 => h9) rfl hin rfl (by decide +kernel) rfl rfl (Nat.le_of_ble_eq_true rfl) d_Memory_init_10 (fun H locs hP hD hS => ?_)
  have hP : va_P D classes [(h, .inr (4, [.ref o1, .null, .int 0])), (o1, .inl (cI, 1000, .inl (fun _ => 0)))] H := hP
  have hD : va_D A [(h, .inr (4, [.ref o1, .null, .int 0])), (o1, .inl (cI, 1000, .inl (fun _ => 0)))] := hD
  refine lv_aload_n hx hb d_Memory_init_13 rfl (lv_at hl 0 rfl) ?_
  refine lv_sipush (v := 600) hx hb d_Memory_init_14 (by decide) ?_
  refine z_newa (atype := .int) (a0 := (600, .inl (fun _ => 0))) hx hb (hT _ ac_int) rfl hK hP hD hS hA 0 rfl (fun _ h => by cases h) (fun _ => rfl) (by decide) rfl (by decide) (by first | exact Nat.le_refl _ | exact Nat.le_of_ble_eq_true rfl) (by first | exact Nat.le_refl _ | exact Nat.le_of_ble_eq_true rfl) d_Memory_init_17 (fun o2 H hP hD hS => ?_)
  have hP : va_P D classes [(h, .inr (4, [.ref o1, .null, .int 0])), (o1, .inl (cI, 1000, .inl (fun _ => 0))), (o2, .inl (cI, 600, .inl (fun _ => 0)))] H := hP
  have hD : va_D A [(h, .inr (4, [.ref o1, .null, .int 0])), (o1, .inl (cI, 1000, .inl (fun _ => 0))), (o2, .inl (cI, 600, .inl (fun _ => 0)))] := hD
  refine va_putF (D := D) (v := .ref o2) (ty := (.array .int)) (C := "ColonMachine$Memory") (T := T_Memory) (N := 3) hx hb hT i_Memory t_Memory tk_Memory n_Memory hown hK hP hD hS 0 rfl rfl 1 (by decide) (hT _ fl_Memory_13) (fun _ h9 => h9) rfl hin rfl (by decide +kernel) rfl rfl (Nat.le_of_ble_eq_true rfl) d_Memory_init_19 (fun H locs hP hD hS => ?_)
  have hP : va_P D classes [(h, .inr (4, [.ref o1, .ref o2, .int 0])), (o1, .inl (cI, 1000, .inl (fun _ => 0))), (o2, .inl (cI, 600, .inl (fun _ => 0)))] H := hP
  have hD : va_D A [(h, .inr (4, [.ref o1, .ref o2, .int 0])), (o1, .inl (cI, 1000, .inl (fun _ => 0))), (o2, .inl (cI, 600, .inl (fun _ => 0)))] := hD
  refine lv_aload_n hx hb d_Memory_init_22 rfl (lv_at hl 0 rfl) ?_
  refine lv_iconst (v := 1) hx hb d_Memory_init_23 (by decide) ?_
  refine va_put (D := D) (v := .int 1) (ty := .int) (C := "ColonMachine$Memory") (T := T_Memory) (N := 3) hx hb hT i_Memory t_Memory tk_Memory n_Memory hown hK hP hD hS 0 rfl rfl 2 (by decide) (hT _ fl_Memory_16) (fun _ h9 => h9) rfl (by decide +kernel) rfl rfl (Nat.le_of_ble_eq_true rfl) d_Memory_init_24 (fun H locs hP hD hS => ?_)
  have hP : va_P D classes [(h, .inr (4, [.ref o1, .ref o2, .int 1])), (o1, .inl (cI, 1000, .inl (fun _ => 0))), (o2, .inl (cI, 600, .inl (fun _ => 0)))] H := hP
  have hD : va_D A [(h, .inr (4, [.ref o1, .ref o2, .int 1])), (o1, .inl (cI, 1000, .inl (fun _ => 0))), (o2, .inl (cI, 600, .inl (fun _ => 0)))] := hD
  refine lv_aload_n hx hb d_Memory_init_27 rfl (lv_at hl 0 rfl) ?_
  refine va_get (D := D) (v := .ref o1) (C := "ColonMachine$Memory") (T := T_Memory) (N := 3) hx hb hT i_Memory hown hK hP 0 rfl rfl 0 (by decide) (hT _ fl_Memory_9) (fun _ h9 => h9) rfl d_Memory_init_28 ?_
  refine lv_iconst (v := 0) hx hb d_Memory_init_31 (by decide) ?_
  refine lv_bipush (v := 10) hx hb d_Memory_init_32 (by decide) ?_
  refine va_iast hx hb hK hP hD hS 1 0 rfl rfl (by have t0 : Int32.toInt 0 = 0 := rfl; have t1000 : Int32.toInt 1000 = 1000 := rfl; rw [vp_in_iff]; (try simp only [true_or, or_true, true_and, and_true, z_tn, CellsOk, CallsOk, TextOk, MemOk, OutOk, Int32.lt_iff_toInt_lt, Int32.le_iff_toInt_le, ← Int32.toInt_inj, Int32.toInt_add, Int32.toInt_sub, Int32.toInt_mul, Int32.toInt_neg, zbm, zbm', t0, t1000] at  ⊢) <;> omega) d_Memory_init_34 (fun H locs hP hD hS => ?_)
  have hP : va_P D classes [(h, .inr (4, [.ref o1, .ref o2, .int 1])), (o1, .inl (cI, 1000, .inl (upd (fun _ => 0) (0 : Int32).toNatClampNeg 10))), (o2, .inl (cI, 600, .inl (fun _ => 0)))] H := hP
  have hD : va_D A [(h, .inr (4, [.ref o1, .ref o2, .int 1])), (o1, .inl (cI, 1000, .inl (upd (fun _ => 0) (0 : Int32).toNatClampNeg 10))), (o2, .inl (cI, 600, .inl (fun _ => 0)))] := hD
  exact W.vret hx hb hr (fun t ht hW => ⟨⟨(fun k : Nat => match k with | 0 => o1 | 1 => o2 | _ => 0), rfl, trivial, ⟨by rw [ht]; exact hP, va_K.moved hW.alike hK, hD⟩⟩, hS.F ht⟩) hS.2.2 d_Memory_init_35
set_option maxHeartbeats 4000000 in
set_option maxRecDepth 100000 in
theorem c_Out_init (l : Launch) (D : va_G) (cI cJ cZ cW cT : ClassId) (sz : Nat) (h : Nat)  : Met l y_Out_init w_Out_init ({ frames := 1, cells := 0 + 1, slots := 0 + 800, locals := 12 }) (va_Pc [.ref h] (zP D classes (TY cI cJ cZ cW cT) [(h, .inr (5, [.null, .int 0]))] sz)) (va_Qv (fun _ : Nat → Nat => True) (fun u => zB D classes (TY cI cJ cZ cW cT) (va_A [(h, .inr (5, [.null, .int 0]))] sz) [(h, .inr (5, [.ref (u 0), .int 0])), ((u 0), .inl (cI, 800, .inl (fun _ => 0)))]) (va_A [(h, .inr (5, [.null, .int 0]))] sz)) (0 + 1) (0 + 800) (va_A [(h, .inr (5, [.null, .int 0]))] sz) := by
  refine Met.ofW (cc := b_Out_init) (maxL := 1) (ret := none) (by decide) rfl ?_
  intro p e s m args below meth c s₁ B hml hv
  obtain ⟨rfl, hsz, hP, hK, hD0, hE⟩ := hv
  have hx := B.exec
  have hb := B.bytes
  have hr := B.returns
  have hts := atoms_spec (ws := w_Out_init) B.pre
  have hT : ∀ w ∈ TB, w.before _ s = true := fun w h => hts w (List.mem_cons_of_mem _ h)
  have hown : s.vm.findClass "ColonMachine$Out" = some m.cls := findClass_of_methodNamed B.named
  have hlocks := B.notSynchronized
  have hin : meth.name = "<init>" := (name_of_methodNamed B.named B.method).1
  subst hsz
  have hD := hD0.self (sz := s.heap.size)
  generalize hAe : va_A [(h, .inr (5, [.null, .int 0]))] s.heap.size = A at hD hE ⊢
  have hA : ∀ q : Nat, s.heap.size ≤ q → A q := fun q h => by rw [← hAe]; exact Or.inr h
  have hS : va_S A s.heap s.heap [] := va_S.rf
  have hl := lv_entry [.ref h] (n := 1) (Nat.le_of_ble_eq_true rfl)
  rw [lg_entry_eq]
  generalize (lg_sl [.ref h] ++ List.replicate (1 - (lg_sl [.ref h]).length) Slot.unset).toArray = ls at hl ⊢
  have hl : lv_has ls 1 [(0, .ref h)] := hl
  refine lv_aload_n hx hb d_Out_init_0 rfl (lv_at hl 0 rfl) ?_
  refine W.objInit hx hb hown (hT _ ml_Out_3) (hT _ im_Obj_init) (hT _ co_Obj_init) rfl (by rw [hml]; exact hl.1) rfl d_Out_init_1 (Nat.le_of_ble_eq_true rfl) (Nat.le_of_ble_eq_true rfl) ?_
  refine W.eq (g2 := F0 m 4 ls []) rfl ?_
  refine lv_aload_n hx hb d_Out_init_4 rfl (lv_at hl 0 rfl) ?_
  refine lv_sipush (v := 800) hx hb d_Out_init_5 (by decide) ?_
  refine z_newa (atype := .int) (a0 := (800, .inl (fun _ => 0))) hx hb (hT _ ac_int) rfl hK hP hD hS hA 0 rfl (fun _ h => by cases h) (fun _ => rfl) (by decide) rfl (by decide) (by first | exact Nat.le_refl _ | exact Nat.le_of_ble_eq_true rfl) (by first | exact Nat.le_refl _ | exact Nat.le_of_ble_eq_true rfl) d_Out_init_8 (fun o1 H hP hD hS => ?_)
  have hP : va_P D classes [(h, .inr (5, [.null, .int 0])), (o1, .inl (cI, 800, .inl (fun _ => 0)))] H := hP
  have hD : va_D A [(h, .inr (5, [.null, .int 0])), (o1, .inl (cI, 800, .inl (fun _ => 0)))] := hD
  refine va_putF (D := D) (v := .ref o1) (ty := (.array .int)) (C := "ColonMachine$Out") (T := T_Out) (N := 2) hx hb hT i_Out t_Out tk_Out n_Out hown hK hP hD hS 0 rfl rfl 0 (by decide) (hT _ fl_Out_11) (fun _ h9 => h9) rfl hin rfl (by decide +kernel) rfl rfl (Nat.le_of_ble_eq_true rfl) d_Out_init_10 (fun H locs hP hD hS => ?_)
  have hP : va_P D classes [(h, .inr (5, [.ref o1, .int 0])), (o1, .inl (cI, 800, .inl (fun _ => 0)))] H := hP
  have hD : va_D A [(h, .inr (5, [.ref o1, .int 0])), (o1, .inl (cI, 800, .inl (fun _ => 0)))] := hD
  refine lv_aload_n hx hb d_Out_init_13 rfl (lv_at hl 0 rfl) ?_
  refine lv_iconst (v := 0) hx hb d_Out_init_14 (by decide) ?_
  refine va_put (D := D) (v := .int 0) (ty := .int) (C := "ColonMachine$Out") (T := T_Out) (N := 2) hx hb hT i_Out t_Out tk_Out n_Out hown hK hP hD hS 0 rfl rfl 1 (by decide) (hT _ fl_Out_15) (fun _ h9 => h9) rfl (by decide +kernel) rfl rfl (Nat.le_of_ble_eq_true rfl) d_Out_init_15 (fun H locs hP hD hS => ?_)
  have hP : va_P D classes [(h, .inr (5, [.ref o1, .int 0])), (o1, .inl (cI, 800, .inl (fun _ => 0)))] H := hP
  have hD : va_D A [(h, .inr (5, [.ref o1, .int 0])), (o1, .inl (cI, 800, .inl (fun _ => 0)))] := hD
  exact W.vret hx hb hr (fun t ht hW => ⟨⟨(fun k : Nat => match k with | 0 => o1 | _ => 0), rfl, trivial, ⟨by rw [ht]; exact hP, va_K.moved hW.alike hK, hD⟩⟩, hS.F ht⟩) hS.2.2 d_Out_init_18
set_option maxHeartbeats 4000000 in
set_option maxRecDepth 100000 in
theorem c_Text_init (l : Launch) (D : va_G) (cI cJ cZ cW cT : ClassId) (sz : Nat) (h : Nat)  : Met l y_Text_init w_Text_init ({ frames := 1, cells := 0 + 1, slots := 0 + 500, locals := 12 }) (va_Pc [.ref h] (zP D classes (TY cI cJ cZ cW cT) [(h, .inr (7, [.null, .int 0, .int 0, .int 0, .int 0]))] sz)) (va_Qv (fun _ : Nat → Nat => True) (fun u => zB D classes (TY cI cJ cZ cW cT) (va_A [(h, .inr (7, [.null, .int 0, .int 0, .int 0, .int 0]))] sz) [(h, .inr (7, [.ref (u 0), .int 0, .int 0, .int 0, .int 0])), ((u 0), .inl (cI, 500, .inl (fun _ => 0)))]) (va_A [(h, .inr (7, [.null, .int 0, .int 0, .int 0, .int 0]))] sz)) (0 + 1) (0 + 500) (va_A [(h, .inr (7, [.null, .int 0, .int 0, .int 0, .int 0]))] sz) := by
  refine Met.ofW (cc := b_Text_init) (maxL := 1) (ret := none) (by decide) rfl ?_
  intro p e s m args below meth c s₁ B hml hv
  obtain ⟨rfl, hsz, hP, hK, hD0, hE⟩ := hv
  have hx := B.exec
  have hb := B.bytes
  have hr := B.returns
  have hts := atoms_spec (ws := w_Text_init) B.pre
  have hT : ∀ w ∈ TB, w.before _ s = true := fun w h => hts w (List.mem_cons_of_mem _ h)
  have hown : s.vm.findClass "ColonMachine$Text" = some m.cls := findClass_of_methodNamed B.named
  have hlocks := B.notSynchronized
  have hin : meth.name = "<init>" := (name_of_methodNamed B.named B.method).1
  subst hsz
  have hD := hD0.self (sz := s.heap.size)
  generalize hAe : va_A [(h, .inr (7, [.null, .int 0, .int 0, .int 0, .int 0]))] s.heap.size = A at hD hE ⊢
  have hA : ∀ q : Nat, s.heap.size ≤ q → A q := fun q h => by rw [← hAe]; exact Or.inr h
  have hS : va_S A s.heap s.heap [] := va_S.rf
  have hl := lv_entry [.ref h] (n := 1) (Nat.le_of_ble_eq_true rfl)
  rw [lg_entry_eq]
  generalize (lg_sl [.ref h] ++ List.replicate (1 - (lg_sl [.ref h]).length) Slot.unset).toArray = ls at hl ⊢
  have hl : lv_has ls 1 [(0, .ref h)] := hl
  refine lv_aload_n hx hb d_Text_init_0 rfl (lv_at hl 0 rfl) ?_
  refine W.objInit hx hb hown (hT _ ml_Text_3) (hT _ im_Obj_init) (hT _ co_Obj_init) rfl (by rw [hml]; exact hl.1) rfl d_Text_init_1 (Nat.le_of_ble_eq_true rfl) (Nat.le_of_ble_eq_true rfl) ?_
  refine W.eq (g2 := F0 m 4 ls []) rfl ?_
  refine lv_aload_n hx hb d_Text_init_4 rfl (lv_at hl 0 rfl) ?_
  refine lv_sipush (v := 500) hx hb d_Text_init_5 (by decide) ?_
  refine z_newa (atype := .int) (a0 := (500, .inl (fun _ => 0))) hx hb (hT _ ac_int) rfl hK hP hD hS hA 0 rfl (fun _ h => by cases h) (fun _ => rfl) (by decide) rfl (by decide) (by first | exact Nat.le_refl _ | exact Nat.le_of_ble_eq_true rfl) (by first | exact Nat.le_refl _ | exact Nat.le_of_ble_eq_true rfl) d_Text_init_8 (fun o1 H hP hD hS => ?_)
  have hP : va_P D classes [(h, .inr (7, [.null, .int 0, .int 0, .int 0, .int 0])), (o1, .inl (cI, 500, .inl (fun _ => 0)))] H := hP
  have hD : va_D A [(h, .inr (7, [.null, .int 0, .int 0, .int 0, .int 0])), (o1, .inl (cI, 500, .inl (fun _ => 0)))] := hD
  refine va_putF (D := D) (v := .ref o1) (ty := (.array .int)) (C := "ColonMachine$Text") (T := T_Text) (N := 5) hx hb hT i_Text t_Text tk_Text n_Text hown hK hP hD hS 0 rfl rfl 0 (by decide) (hT _ fl_Text_11) (fun _ h9 => h9) rfl hin rfl (by decide +kernel) rfl rfl (Nat.le_of_ble_eq_true rfl) d_Text_init_10 (fun H locs hP hD hS => ?_)
  have hP : va_P D classes [(h, .inr (7, [.ref o1, .int 0, .int 0, .int 0, .int 0])), (o1, .inl (cI, 500, .inl (fun _ => 0)))] H := hP
  have hD : va_D A [(h, .inr (7, [.ref o1, .int 0, .int 0, .int 0, .int 0])), (o1, .inl (cI, 500, .inl (fun _ => 0)))] := hD
  refine lv_aload_n hx hb d_Text_init_13 rfl (lv_at hl 0 rfl) ?_
  refine lv_iconst (v := 0) hx hb d_Text_init_14 (by decide) ?_
  refine va_put (D := D) (v := .int 0) (ty := .int) (C := "ColonMachine$Text") (T := T_Text) (N := 5) hx hb hT i_Text t_Text tk_Text n_Text hown hK hP hD hS 0 rfl rfl 1 (by decide) (hT _ fl_Text_15) (fun _ h9 => h9) rfl (by decide +kernel) rfl rfl (Nat.le_of_ble_eq_true rfl) d_Text_init_15 (fun H locs hP hD hS => ?_)
  have hP : va_P D classes [(h, .inr (7, [.ref o1, .int 0, .int 0, .int 0, .int 0])), (o1, .inl (cI, 500, .inl (fun _ => 0)))] H := hP
  have hD : va_D A [(h, .inr (7, [.ref o1, .int 0, .int 0, .int 0, .int 0])), (o1, .inl (cI, 500, .inl (fun _ => 0)))] := hD
  refine lv_aload_n hx hb d_Text_init_18 rfl (lv_at hl 0 rfl) ?_
  refine lv_iconst (v := 0) hx hb d_Text_init_19 (by decide) ?_
  refine va_put (D := D) (v := .int 0) (ty := .int) (C := "ColonMachine$Text") (T := T_Text) (N := 5) hx hb hT i_Text t_Text tk_Text n_Text hown hK hP hD hS 0 rfl rfl 2 (by decide) (hT _ fl_Text_19) (fun _ h9 => h9) rfl (by decide +kernel) rfl rfl (Nat.le_of_ble_eq_true rfl) d_Text_init_20 (fun H locs hP hD hS => ?_)
  have hP : va_P D classes [(h, .inr (7, [.ref o1, .int 0, .int 0, .int 0, .int 0])), (o1, .inl (cI, 500, .inl (fun _ => 0)))] H := hP
  have hD : va_D A [(h, .inr (7, [.ref o1, .int 0, .int 0, .int 0, .int 0])), (o1, .inl (cI, 500, .inl (fun _ => 0)))] := hD
  refine lv_aload_n hx hb d_Text_init_23 rfl (lv_at hl 0 rfl) ?_
  refine lv_iconst (v := 0) hx hb d_Text_init_24 (by decide) ?_
  refine va_put (D := D) (v := .int 0) (ty := .int) (C := "ColonMachine$Text") (T := T_Text) (N := 5) hx hb hT i_Text t_Text tk_Text n_Text hown hK hP hD hS 0 rfl rfl 3 (by decide) (hT _ fl_Text_22) (fun _ h9 => h9) rfl (by decide +kernel) rfl rfl (Nat.le_of_ble_eq_true rfl) d_Text_init_25 (fun H locs hP hD hS => ?_)
  have hP : va_P D classes [(h, .inr (7, [.ref o1, .int 0, .int 0, .int 0, .int 0])), (o1, .inl (cI, 500, .inl (fun _ => 0)))] H := hP
  have hD : va_D A [(h, .inr (7, [.ref o1, .int 0, .int 0, .int 0, .int 0])), (o1, .inl (cI, 500, .inl (fun _ => 0)))] := hD
  refine lv_aload_n hx hb d_Text_init_28 rfl (lv_at hl 0 rfl) ?_
  refine lv_iconst (v := 0) hx hb d_Text_init_29 (by decide) ?_
  refine va_put (D := D) (v := .int 0) (ty := .int) (C := "ColonMachine$Text") (T := T_Text) (N := 5) hx hb hT i_Text t_Text tk_Text n_Text hown hK hP hD hS 0 rfl rfl 4 (by decide) (hT _ fl_Text_25) (fun _ h9 => h9) rfl (by decide +kernel) rfl rfl (Nat.le_of_ble_eq_true rfl) d_Text_init_30 (fun H locs hP hD hS => ?_)
  have hP : va_P D classes [(h, .inr (7, [.ref o1, .int 0, .int 0, .int 0, .int 0])), (o1, .inl (cI, 500, .inl (fun _ => 0)))] H := hP
  have hD : va_D A [(h, .inr (7, [.ref o1, .int 0, .int 0, .int 0, .int 0])), (o1, .inl (cI, 500, .inl (fun _ => 0)))] := hD
  exact W.vret hx hb hr (fun t ht hW => ⟨⟨(fun k : Nat => match k with | 0 => o1 | _ => 0), rfl, trivial, ⟨by rw [ht]; exact hP, va_K.moved hW.alike hK, hD⟩⟩, hS.F ht⟩) hS.2.2 d_Text_init_33
set_option maxHeartbeats 4000000 in
set_option maxRecDepth 100000 in
theorem c_Words_init (l : Launch) (D : va_G) (cI cJ cZ cW cT : ClassId) (sz : Nat) (h : Nat)  : Met l y_Words_init w_Words_init ({ frames := 1, cells := 0 + 1, slots := 0 + 80, locals := 12 }) (va_Pc [.ref h] (zP D classes (TY cI cJ cZ cW cT) [(h, .inr (9, [.null, .int 0]))] sz)) (va_Qv (fun _ : Nat → Nat => True) (fun u => zB D classes (TY cI cJ cZ cW cT) (va_A [(h, .inr (9, [.null, .int 0]))] sz) [(h, .inr (9, [.ref (u 0), .int 0])), ((u 0), .inl (cW, 80, .inr (.inr (.inr (.inr (fun _ => none))))))]) (va_A [(h, .inr (9, [.null, .int 0]))] sz)) (0 + 1) (0 + 80) (va_A [(h, .inr (9, [.null, .int 0]))] sz) := by
  refine Met.ofW (cc := b_Words_init) (maxL := 1) (ret := none) (by decide) rfl ?_
  intro p e s m args below meth c s₁ B hml hv
  obtain ⟨rfl, hsz, hP, hK, hD0, hE⟩ := hv
  have hx := B.exec
  have hb := B.bytes
  have hr := B.returns
  have hts := atoms_spec (ws := w_Words_init) B.pre
  have hT : ∀ w ∈ TB, w.before _ s = true := fun w h => hts w (List.mem_cons_of_mem _ h)
  have hown : s.vm.findClass "ColonMachine$Words" = some m.cls := findClass_of_methodNamed B.named
  have hlocks := B.notSynchronized
  have hin : meth.name = "<init>" := (name_of_methodNamed B.named B.method).1
  subst hsz
  have hD := hD0.self (sz := s.heap.size)
  generalize hAe : va_A [(h, .inr (9, [.null, .int 0]))] s.heap.size = A at hD hE ⊢
  have hA : ∀ q : Nat, s.heap.size ≤ q → A q := fun q h => by rw [← hAe]; exact Or.inr h
  have hS : va_S A s.heap s.heap [] := va_S.rf
  have hl := lv_entry [.ref h] (n := 1) (Nat.le_of_ble_eq_true rfl)
  rw [lg_entry_eq]
  generalize (lg_sl [.ref h] ++ List.replicate (1 - (lg_sl [.ref h]).length) Slot.unset).toArray = ls at hl ⊢
  have hl : lv_has ls 1 [(0, .ref h)] := hl
  refine lv_aload_n hx hb d_Words_init_0 rfl (lv_at hl 0 rfl) ?_
  refine W.objInit hx hb hown (hT _ ml_Words_3) (hT _ im_Obj_init) (hT _ co_Obj_init) rfl (by rw [hml]; exact hl.1) rfl d_Words_init_1 (Nat.le_of_ble_eq_true rfl) (Nat.le_of_ble_eq_true rfl) ?_
  refine W.eq (g2 := F0 m 4 ls []) rfl ?_
  refine lv_aload_n hx hb d_Words_init_4 rfl (lv_at hl 0 rfl) ?_
  refine lv_bipush (v := 80) hx hb d_Words_init_5 (by decide) ?_
  refine z_newq hx hb hown (hT _ kl_Words_11) hE.1.2.2.2.2.1 hK hP hD hS hA 3 rfl (by decide) rfl (by decide) (by first | exact Nat.le_refl _ | exact Nat.le_of_ble_eq_true rfl) (by first | exact Nat.le_refl _ | exact Nat.le_of_ble_eq_true rfl) d_Words_init_7 (fun o1 H hP hD hS => ?_)
  have hP : va_P D classes [(h, .inr (9, [.null, .int 0])), (o1, .inl (cW, 80, .inr (.inr (.inr (.inr (fun _ => none))))))] H := hP
  have hD : va_D A [(h, .inr (9, [.null, .int 0])), (o1, .inl (cW, 80, .inr (.inr (.inr (.inr (fun _ => none))))))] := hD
  refine va_putF (D := D) (v := .ref o1) (ty := (.array (.object "ColonMachine$Word"))) (C := "ColonMachine$Words") (T := T_Words) (N := 2) hx hb hT i_Words t_Words tk_Words n_Words hown hK hP hD hS 0 rfl rfl 0 (by decide) (hT _ fl_Words_13) (fun _ h9 => h9) rfl hin rfl (by decide +kernel) rfl rfl (Nat.le_of_ble_eq_true rfl) d_Words_init_10 (fun H locs hP hD hS => ?_)
  have hP : va_P D classes [(h, .inr (9, [.ref o1, .int 0])), (o1, .inl (cW, 80, .inr (.inr (.inr (.inr (fun _ => none))))))] H := hP
  have hD : va_D A [(h, .inr (9, [.ref o1, .int 0])), (o1, .inl (cW, 80, .inr (.inr (.inr (.inr (fun _ => none))))))] := hD
  refine lv_aload_n hx hb d_Words_init_13 rfl (lv_at hl 0 rfl) ?_
  refine lv_iconst (v := 0) hx hb d_Words_init_14 (by decide) ?_
  refine va_put (D := D) (v := .int 0) (ty := .int) (C := "ColonMachine$Words") (T := T_Words) (N := 2) hx hb hT i_Words t_Words tk_Words n_Words hown hK hP hD hS 0 rfl rfl 1 (by decide) (hT _ fl_Words_17) (fun _ h9 => h9) rfl (by decide +kernel) rfl rfl (Nat.le_of_ble_eq_true rfl) d_Words_init_15 (fun H locs hP hD hS => ?_)
  have hP : va_P D classes [(h, .inr (9, [.ref o1, .int 0])), (o1, .inl (cW, 80, .inr (.inr (.inr (.inr (fun _ => none))))))] H := hP
  have hD : va_D A [(h, .inr (9, [.ref o1, .int 0])), (o1, .inl (cW, 80, .inr (.inr (.inr (.inr (fun _ => none))))))] := hD
  exact W.vret hx hb hr (fun t ht hW => ⟨⟨(fun k : Nat => match k with | 0 => o1 | _ => 0), rfl, trivial, ⟨by rw [ht]; exact hP, va_K.moved hW.alike hK, hD⟩⟩, hS.F ht⟩) hS.2.2 d_Words_init_18
set_option maxHeartbeats 4000000 in
set_option maxRecDepth 100000 in
theorem c_Compiler_init (l : Launch) (D : va_G) (cI cJ cZ cW cT : ClassId) (sz : Nat) (h : Nat) (tt : Nat) (ww : Nat) (mm : Nat) (oo : Nat)  : Met l y_Compiler_init w_Compiler_init ({ frames := 2, cells := 0 + 1 + 1 + (0 + 1) + 1 + (0 + 1), slots := 0 + 150 + 2 + (0 + (1000 : Int32).toNatClampNeg) + 2 + (0 + (1000 : Int32).toNatClampNeg), locals := 33 }) (va_Pc [.ref h, .ref tt, .ref ww, .ref mm, .ref oo] (zP D classes (TY cI cJ cZ cW cT) [(h, .inr (2, [.null, .null, .null, .null, .null, .int 0, .int 0, .long 0, .null, .null]))] sz)) (va_Qv (fun _ : Nat → Nat => True) (fun u => zB D classes (TY cI cJ cZ cW cT) (va_A [(h, .inr (2, [.null, .null, .null, .null, .null, .int 0, .int 0, .long 0, .null, .null]))] sz) [(h, .inr (2, [.ref tt, .ref ww, .ref mm, .ref oo, .ref (u 0), .int 0, .int 0, .long 0, .ref (u 1), .ref (u 3)])), ((u 0), .inl (cT, 150, .inr (.inr (.inr (.inr (fun _ => none)))))), ((u 1), .inr (1, [.ref (u 2), .int 0])), ((u 2), .inl (cI, 1000, .inl (fun _ => 0))), ((u 3), .inr (1, [.ref (u 4), .int 0])), ((u 4), .inl (cI, 1000, .inl (fun _ => 0)))]) (va_A [(h, .inr (2, [.null, .null, .null, .null, .null, .int 0, .int 0, .long 0, .null, .null]))] sz)) (0 + 1 + 1 + (0 + 1) + 1 + (0 + 1)) (0 + 150 + 2 + (0 + (1000 : Int32).toNatClampNeg) + 2 + (0 + (1000 : Int32).toNatClampNeg)) (va_A [(h, .inr (2, [.null, .null, .null, .null, .null, .int 0, .int 0, .long 0, .null, .null]))] sz) := by
  refine Met.ofW (cc := b_Compiler_init) (maxL := 5) (ret := none) (by decide) rfl ?_
  intro p e s m args below meth c s₁ B hml hv
  obtain ⟨rfl, hsz, hP, hK, hD0, hE⟩ := hv
  have hx := B.exec
  have hb := B.bytes
  have hr := B.returns
  have hts := atoms_spec (ws := w_Compiler_init) B.pre
  have hT : ∀ w ∈ TB, w.before _ s = true := fun w h => hts w (List.mem_cons_of_mem _ h)
  have hown : s.vm.findClass "ColonMachine$Compiler" = some m.cls := findClass_of_methodNamed B.named
  have hlocks := B.notSynchronized
  have hin : meth.name = "<init>" := (name_of_methodNamed B.named B.method).1
  subst hsz
  have hD := hD0.self (sz := s.heap.size)
  generalize hAe : va_A [(h, .inr (2, [.null, .null, .null, .null, .null, .int 0, .int 0, .long 0, .null, .null]))] s.heap.size = A at hD hE ⊢
  have hA : ∀ q : Nat, s.heap.size ≤ q → A q := fun q h => by rw [← hAe]; exact Or.inr h
  have hS : va_S A s.heap s.heap [] := va_S.rf
  have hl := lv_entry [.ref h, .ref tt, .ref ww, .ref mm, .ref oo] (n := 5) (Nat.le_of_ble_eq_true rfl)
  rw [lg_entry_eq]
  generalize (lg_sl [.ref h, .ref tt, .ref ww, .ref mm, .ref oo] ++ List.replicate (5 - (lg_sl [.ref h, .ref tt, .ref ww, .ref mm, .ref oo]).length) Slot.unset).toArray = ls at hl ⊢
  have hl : lv_has ls 5 [(0, .ref h), (1, .ref tt), (2, .ref ww), (3, .ref mm), (4, .ref oo)] := hl
  refine lv_aload_n hx hb d_Compiler_init_0 rfl (lv_at hl 0 rfl) ?_
  refine W.objInit hx hb hown (hT _ ml_Compiler_3) (hT _ im_Obj_init) (hT _ co_Obj_init) rfl (by rw [hml]; exact hl.1) rfl d_Compiler_init_1 (Nat.le_of_ble_eq_true rfl) (Nat.le_of_ble_eq_true rfl) ?_
  refine W.eq (g2 := F0 m 4 ls []) rfl ?_
  refine lv_aload_n hx hb d_Compiler_init_4 rfl (lv_at hl 0 rfl) ?_
  refine lv_sipush (v := 150) hx hb d_Compiler_init_5 (by decide) ?_
  refine z_newq hx hb hown (hT _ kl_Compiler_11) hE.1.2.2.2.2.2.1 hK hP hD hS hA 4 rfl (by decide) rfl (by decide) (by first | exact Nat.le_refl _ | exact Nat.le_of_ble_eq_true rfl) (by first | exact Nat.le_refl _ | exact Nat.le_of_ble_eq_true rfl) d_Compiler_init_8 (fun o1 H hP hD hS => ?_)
  have hP : va_P D classes [(h, .inr (2, [.null, .null, .null, .null, .null, .int 0, .int 0, .long 0, .null, .null])), (o1, .inl (cT, 150, .inr (.inr (.inr (.inr (fun _ => none))))))] H := hP
  have hD : va_D A [(h, .inr (2, [.null, .null, .null, .null, .null, .int 0, .int 0, .long 0, .null, .null])), (o1, .inl (cT, 150, .inr (.inr (.inr (.inr (fun _ => none))))))] := hD
  refine va_putF (D := D) (v := .ref o1) (ty := (.array (.object "ColonMachine$Item"))) (C := "ColonMachine$Compiler") (T := T_Compiler) (N := 10) hx hb hT i_Compiler t_Compiler tk_Compiler n_Compiler hown hK hP hD hS 0 rfl rfl 4 (by decide) (hT _ fl_Compiler_13) (fun _ h9 => h9) rfl hin rfl (by decide +kernel) rfl rfl (Nat.le_of_ble_eq_true rfl) d_Compiler_init_11 (fun H locs hP hD hS => ?_)
  have hP : va_P D classes [(h, .inr (2, [.null, .null, .null, .null, .ref o1, .int 0, .int 0, .long 0, .null, .null])), (o1, .inl (cT, 150, .inr (.inr (.inr (.inr (fun _ => none))))))] H := hP
  have hD : va_D A [(h, .inr (2, [.null, .null, .null, .null, .ref o1, .int 0, .int 0, .long 0, .null, .null])), (o1, .inl (cT, 150, .inr (.inr (.inr (.inr (fun _ => none))))))] := hD
  refine lv_aload_n hx hb d_Compiler_init_14 rfl (lv_at hl 0 rfl) ?_
  refine lv_iconst (v := 0) hx hb d_Compiler_init_15 (by decide) ?_
  refine va_put (D := D) (v := .int 0) (ty := .int) (C := "ColonMachine$Compiler") (T := T_Compiler) (N := 10) hx hb hT i_Compiler t_Compiler tk_Compiler n_Compiler hown hK hP hD hS 0 rfl rfl 5 (by decide) (hT _ fl_Compiler_17) (fun _ h9 => h9) rfl (by decide +kernel) rfl rfl (Nat.le_of_ble_eq_true rfl) d_Compiler_init_16 (fun H locs hP hD hS => ?_)
  have hP : va_P D classes [(h, .inr (2, [.null, .null, .null, .null, .ref o1, .int 0, .int 0, .long 0, .null, .null])), (o1, .inl (cT, 150, .inr (.inr (.inr (.inr (fun _ => none))))))] H := hP
  have hD : va_D A [(h, .inr (2, [.null, .null, .null, .null, .ref o1, .int 0, .int 0, .long 0, .null, .null])), (o1, .inl (cT, 150, .inr (.inr (.inr (.inr (fun _ => none))))))] := hD
  refine lv_aload_n hx hb d_Compiler_init_19 rfl (lv_at hl 0 rfl) ?_
  refine lv_iconst (v := 0) hx hb d_Compiler_init_20 (by decide) ?_
  refine va_put (D := D) (v := .int 0) (ty := .boolean) (C := "ColonMachine$Compiler") (T := T_Compiler) (N := 10) hx hb hT i_Compiler t_Compiler tk_Compiler n_Compiler hown hK hP hD hS 0 rfl rfl 6 (by decide) (hT _ fl_Compiler_21) (fun _ h9 => h9) rfl (by decide +kernel) rfl rfl (Nat.le_of_ble_eq_true rfl) d_Compiler_init_21 (fun H locs hP hD hS => ?_)
  have hP : va_P D classes [(h, .inr (2, [.null, .null, .null, .null, .ref o1, .int 0, .int 0, .long 0, .null, .null])), (o1, .inl (cT, 150, .inr (.inr (.inr (.inr (fun _ => none))))))] H := hP
  have hD : va_D A [(h, .inr (2, [.null, .null, .null, .null, .ref o1, .int 0, .int 0, .long 0, .null, .null])), (o1, .inl (cT, 150, .inr (.inr (.inr (.inr (fun _ => none))))))] := hD
  refine lv_aload_n hx hb d_Compiler_init_24 rfl (lv_at hl 0 rfl) ?_
  refine lv_lconst (v := 0) hx hb d_Compiler_init_25 (by decide) ?_
  refine va_put (D := D) (v := .long 0) (ty := .long) (C := "ColonMachine$Compiler") (T := T_Compiler) (N := 10) hx hb hT i_Compiler t_Compiler tk_Compiler n_Compiler hown hK hP hD hS 0 rfl rfl 7 (by decide) (hT _ fl_Compiler_25) (fun _ h9 => h9) rfl (by decide +kernel) rfl rfl (Nat.le_of_ble_eq_true rfl) d_Compiler_init_26 (fun H locs hP hD hS => ?_)
  have hP : va_P D classes [(h, .inr (2, [.null, .null, .null, .null, .ref o1, .int 0, .int 0, .long 0, .null, .null])), (o1, .inl (cT, 150, .inr (.inr (.inr (.inr (fun _ => none))))))] H := hP
  have hD : va_D A [(h, .inr (2, [.null, .null, .null, .null, .ref o1, .int 0, .int 0, .long 0, .null, .null])), (o1, .inl (cT, 150, .inr (.inr (.inr (.inr (fun _ => none))))))] := hD
  refine lv_aload_n hx hb d_Compiler_init_29 rfl (lv_at hl 0 rfl) ?_
  refine va_new (ci := 1) (fs := [.null, .int 0]) (C := "ColonMachine$Cells") (T := T_Cells) (N := 2) hx hb hT i_Cells t_Cells tk_Cells hown (hT _ kl_Compiler_29) (hT _ ia_Cells) (hT _ in_Cells) hK hP hD hS hA rfl df_Cells (by first | exact Nat.le_refl _ | exact Nat.le_of_ble_eq_true rfl) (by first | exact Nat.le_refl _ | exact Nat.le_of_ble_eq_true rfl) d_Compiler_init_30 (fun o2 H hP hD hS => ?_)
  have hP : va_P D classes [(h, .inr (2, [.null, .null, .null, .null, .ref o1, .int 0, .int 0, .long 0, .null, .null])), (o1, .inl (cT, 150, .inr (.inr (.inr (.inr (fun _ => none)))))), (o2, .inr (1, [.null, .int 0]))] H := hP
  have hD : va_D A [(h, .inr (2, [.null, .null, .null, .null, .ref o1, .int 0, .int 0, .long 0, .null, .null])), (o1, .inl (cT, 150, .inr (.inr (.inr (.inr (fun _ => none)))))), (o2, .inr (1, [.null, .int 0]))] := hD
  refine lv_dup hx hb d_Compiler_init_33 rfl ?_
  refine lv_sipush (v := 1000) hx hb d_Compiler_init_34 (by decide) ?_
  refine kN_cv (wr := [(h, .inr (2, [.null, .null, .null, .null, .ref o1, .int 0, .int 0, .long 0, .null, .null])), (o1, .inl (cT, 150, .inr (.inr (.inr (.inr (fun _ => none))))))]) (fun u : Nat → Nat => [(h, .inr (2, [.null, .null, .null, .null, .ref o1, .int 0, .int 0, .long 0, .null, .null])), (o1, .inl (cT, 150, .inr (.inr (.inr (.inr (fun _ => none)))))), (o2, .inr (1, [.ref (u 0), .int 0])), ((u 0), .inl (cI, 1000, .inl (fun _ => 0)))]) (zI (wc := [(o2, .inr (1, [.null, .int 0]))]) (As := [.int 1000]) (rest := [.ref o2, .ref h]) (st0 := [.int 1000, .ref o2, .ref o2, .ref h]) ⟨hx, hb, hml, hown, hT⟩ (c_Cells_init l D cI cJ cZ cW cT H.size o2 (1000 : Int32) (by have t0 : Int32.toInt 0 = 0 := rfl; have t1000 : Int32.toInt 1000 = 1000 := rfl; (try simp only [true_or, or_true, true_and, and_true, z_tn, CellsOk, CallsOk, TextOk, MemOk, OutOk, Int32.lt_iff_toInt_lt, Int32.le_iff_toInt_le, ← Int32.toInt_inj, Int32.toInt_add, Int32.toInt_sub, Int32.toInt_mul, Int32.toInt_neg, zbm, zbm', t0, t1000] at  ⊢) <;> omega) (by have t1000 : Int32.toInt 1000 = 1000 := rfl; (try simp only [true_or, or_true, true_and, and_true, z_tn, CellsOk, CallsOk, TextOk, MemOk, OutOk, Int32.lt_iff_toInt_lt, Int32.le_iff_toInt_le, ← Int32.toInt_inj, Int32.toInt_add, Int32.toInt_sub, Int32.toInt_mul, Int32.toInt_neg, zbm, zbm', t1000] at  ⊢) <;> omega)) (cwI 1 hT (tb_cons co_Cells_init) rfl rfl rfl (hT _ in_Cells) (hT _ ml_Compiler_31) (hT _ im_Cells_init) rfl vs_Cells_init ⟨Nat.le_of_ble_eq_true rfl, Nat.le_of_ble_eq_true rfl⟩) hK hE hP hD hS hA [2] rfl rfl rfl hl.1 rfl (Nat.le_of_ble_eq_true rfl) d_Compiler_init_37 ⟨(by first | exact Nat.le_refl _ | exact Nat.le_of_ble_eq_true rfl), (by first | exact Nat.le_refl _ | exact Nat.le_of_ble_eq_true rfl)⟩) hP hD hS hA [2] [0, 1] rfl rfl rfl (by decide) [0, 1, 2, 3] rfl (fun u => rfl) (fun q3 H locs _ hP hD hS => ?_)
  have hP : va_P D classes [(h, .inr (2, [.null, .null, .null, .null, .ref o1, .int 0, .int 0, .long 0, .null, .null])), (o1, .inl (cT, 150, .inr (.inr (.inr (.inr (fun _ => none)))))), (o2, .inr (1, [.ref (q3 0), .int 0])), ((q3 0), .inl (cI, 1000, .inl (fun _ => 0)))] H := hP
  have hD : va_D A [(h, .inr (2, [.null, .null, .null, .null, .ref o1, .int 0, .int 0, .long 0, .null, .null])), (o1, .inl (cT, 150, .inr (.inr (.inr (.inr (fun _ => none)))))), (o2, .inr (1, [.ref (q3 0), .int 0])), ((q3 0), .inl (cI, 1000, .inl (fun _ => 0)))] := hD
  refine va_putF (D := D) (v := .ref o2) (ty := (.object "ColonMachine$Cells")) (C := "ColonMachine$Compiler") (T := T_Compiler) (N := 10) hx hb hT i_Compiler t_Compiler tk_Compiler n_Compiler hown hK hP hD hS 0 rfl rfl 8 (by decide) (hT _ fl_Compiler_34) (fun _ h9 => h9) rfl hin rfl (by decide +kernel) rfl rfl (Nat.le_of_ble_eq_true rfl) d_Compiler_init_40 (fun H locs hP hD hS => ?_)
  have hP : va_P D classes [(h, .inr (2, [.null, .null, .null, .null, .ref o1, .int 0, .int 0, .long 0, .ref o2, .null])), (o1, .inl (cT, 150, .inr (.inr (.inr (.inr (fun _ => none)))))), (o2, .inr (1, [.ref (q3 0), .int 0])), ((q3 0), .inl (cI, 1000, .inl (fun _ => 0)))] H := hP
  have hD : va_D A [(h, .inr (2, [.null, .null, .null, .null, .ref o1, .int 0, .int 0, .long 0, .ref o2, .null])), (o1, .inl (cT, 150, .inr (.inr (.inr (.inr (fun _ => none)))))), (o2, .inr (1, [.ref (q3 0), .int 0])), ((q3 0), .inl (cI, 1000, .inl (fun _ => 0)))] := hD
  refine lv_aload_n hx hb d_Compiler_init_43 rfl (lv_at hl 0 rfl) ?_
  refine va_new (ci := 1) (fs := [.null, .int 0]) (C := "ColonMachine$Cells") (T := T_Cells) (N := 2) hx hb hT i_Cells t_Cells tk_Cells hown (hT _ kl_Compiler_29) (hT _ ia_Cells) (hT _ in_Cells) hK hP hD hS hA rfl df_Cells (by first | exact Nat.le_refl _ | exact Nat.le_of_ble_eq_true rfl) (by first | exact Nat.le_refl _ | exact Nat.le_of_ble_eq_true rfl) d_Compiler_init_44 (fun o4 H hP hD hS => ?_)
  have hP : va_P D classes [(h, .inr (2, [.null, .null, .null, .null, .ref o1, .int 0, .int 0, .long 0, .ref o2, .null])), (o1, .inl (cT, 150, .inr (.inr (.inr (.inr (fun _ => none)))))), (o2, .inr (1, [.ref (q3 0), .int 0])), ((q3 0), .inl (cI, 1000, .inl (fun _ => 0))), (o4, .inr (1, [.null, .int 0]))] H := hP
  have hD : va_D A [(h, .inr (2, [.null, .null, .null, .null, .ref o1, .int 0, .int 0, .long 0, .ref o2, .null])), (o1, .inl (cT, 150, .inr (.inr (.inr (.inr (fun _ => none)))))), (o2, .inr (1, [.ref (q3 0), .int 0])), ((q3 0), .inl (cI, 1000, .inl (fun _ => 0))), (o4, .inr (1, [.null, .int 0]))] := hD
  refine lv_dup hx hb d_Compiler_init_47 rfl ?_
  refine lv_sipush (v := 1000) hx hb d_Compiler_init_48 (by decide) ?_
  refine kN_cv (wr := [(h, .inr (2, [.null, .null, .null, .null, .ref o1, .int 0, .int 0, .long 0, .ref o2, .null])), (o1, .inl (cT, 150, .inr (.inr (.inr (.inr (fun _ => none)))))), (o2, .inr (1, [.ref (q3 0), .int 0])), ((q3 0), .inl (cI, 1000, .inl (fun _ => 0)))]) (fun u : Nat → Nat => [(h, .inr (2, [.null, .null, .null, .null, .ref o1, .int 0, .int 0, .long 0, .ref o2, .null])), (o1, .inl (cT, 150, .inr (.inr (.inr (.inr (fun _ => none)))))), (o2, .inr (1, [.ref (q3 0), .int 0])), ((q3 0), .inl (cI, 1000, .inl (fun _ => 0))), (o4, .inr (1, [.ref (u 0), .int 0])), ((u 0), .inl (cI, 1000, .inl (fun _ => 0)))]) (zI (wc := [(o4, .inr (1, [.null, .int 0]))]) (As := [.int 1000]) (rest := [.ref o4, .ref h]) (st0 := [.int 1000, .ref o4, .ref o4, .ref h]) ⟨hx, hb, hml, hown, hT⟩ (c_Cells_init l D cI cJ cZ cW cT H.size o4 (1000 : Int32) (by have t0 : Int32.toInt 0 = 0 := rfl; have t1000 : Int32.toInt 1000 = 1000 := rfl; (try simp only [true_or, or_true, true_and, and_true, z_tn, CellsOk, CallsOk, TextOk, MemOk, OutOk, Int32.lt_iff_toInt_lt, Int32.le_iff_toInt_le, ← Int32.toInt_inj, Int32.toInt_add, Int32.toInt_sub, Int32.toInt_mul, Int32.toInt_neg, zbm, zbm', t0, t1000] at  ⊢) <;> omega) (by have t1000 : Int32.toInt 1000 = 1000 := rfl; (try simp only [true_or, or_true, true_and, and_true, z_tn, CellsOk, CallsOk, TextOk, MemOk, OutOk, Int32.lt_iff_toInt_lt, Int32.le_iff_toInt_le, ← Int32.toInt_inj, Int32.toInt_add, Int32.toInt_sub, Int32.toInt_mul, Int32.toInt_neg, zbm, zbm', t1000] at  ⊢) <;> omega)) (cwI 1 hT (tb_cons co_Cells_init) rfl rfl rfl (hT _ in_Cells) (hT _ ml_Compiler_31) (hT _ im_Cells_init) rfl vs_Cells_init ⟨Nat.le_of_ble_eq_true rfl, Nat.le_of_ble_eq_true rfl⟩) hK hE hP hD hS hA [4] rfl rfl rfl hl.1 rfl (Nat.le_of_ble_eq_true rfl) d_Compiler_init_51 ⟨(by first | exact Nat.le_refl _ | exact Nat.le_of_ble_eq_true rfl), (by first | exact Nat.le_refl _ | exact Nat.le_of_ble_eq_true rfl)⟩) hP hD hS hA [4] [0, 1, 2, 3] rfl rfl rfl (by decide) [0, 1, 2, 3, 4, 5] rfl (fun u => rfl) (fun q5 H locs _ hP hD hS => ?_)
  have hP : va_P D classes [(h, .inr (2, [.null, .null, .null, .null, .ref o1, .int 0, .int 0, .long 0, .ref o2, .null])), (o1, .inl (cT, 150, .inr (.inr (.inr (.inr (fun _ => none)))))), (o2, .inr (1, [.ref (q3 0), .int 0])), ((q3 0), .inl (cI, 1000, .inl (fun _ => 0))), (o4, .inr (1, [.ref (q5 0), .int 0])), ((q5 0), .inl (cI, 1000, .inl (fun _ => 0)))] H := hP
  have hD : va_D A [(h, .inr (2, [.null, .null, .null, .null, .ref o1, .int 0, .int 0, .long 0, .ref o2, .null])), (o1, .inl (cT, 150, .inr (.inr (.inr (.inr (fun _ => none)))))), (o2, .inr (1, [.ref (q3 0), .int 0])), ((q3 0), .inl (cI, 1000, .inl (fun _ => 0))), (o4, .inr (1, [.ref (q5 0), .int 0])), ((q5 0), .inl (cI, 1000, .inl (fun _ => 0)))] := hD
  refine va_putF (D := D) (v := .ref o4) (ty := (.object "ColonMachine$Cells")) (C := "ColonMachine$Compiler") (T := T_Compiler) (N := 10) hx hb hT i_Compiler t_Compiler tk_Compiler n_Compiler hown hK hP hD hS 0 rfl rfl 9 (by decide) (hT _ fl_Compiler_38) (fun _ h9 => h9) rfl hin rfl (by decide +kernel) rfl rfl (Nat.le_of_ble_eq_true rfl) d_Compiler_init_54 (fun H locs hP hD hS => ?_)
  have hP : va_P D classes [(h, .inr (2, [.null, .null, .null, .null, .ref o1, .int 0, .int 0, .long 0, .ref o2, .ref o4])), (o1, .inl (cT, 150, .inr (.inr (.inr (.inr (fun _ => none)))))), (o2, .inr (1, [.ref (q3 0), .int 0])), ((q3 0), .inl (cI, 1000, .inl (fun _ => 0))), (o4, .inr (1, [.ref (q5 0), .int 0])), ((q5 0), .inl (cI, 1000, .inl (fun _ => 0)))] H := hP
  have hD : va_D A [(h, .inr (2, [.null, .null, .null, .null, .ref o1, .int 0, .int 0, .long 0, .ref o2, .ref o4])), (o1, .inl (cT, 150, .inr (.inr (.inr (.inr (fun _ => none)))))), (o2, .inr (1, [.ref (q3 0), .int 0])), ((q3 0), .inl (cI, 1000, .inl (fun _ => 0))), (o4, .inr (1, [.ref (q5 0), .int 0])), ((q5 0), .inl (cI, 1000, .inl (fun _ => 0)))] := hD
  refine lv_aload_n hx hb d_Compiler_init_57 rfl (lv_at hl 0 rfl) ?_
  refine lv_aload_n hx hb d_Compiler_init_58 rfl (lv_at hl 1 rfl) ?_
  refine va_putF (D := D) (v := .ref tt) (ty := (.object "ColonMachine$Text")) (C := "ColonMachine$Compiler") (T := T_Compiler) (N := 10) hx hb hT i_Compiler t_Compiler tk_Compiler n_Compiler hown hK hP hD hS 0 rfl rfl 0 (by decide) (hT _ fl_Compiler_41) (fun _ h9 => h9) rfl hin rfl (by decide +kernel) rfl rfl (Nat.le_of_ble_eq_true rfl) d_Compiler_init_59 (fun H locs hP hD hS => ?_)
  have hP : va_P D classes [(h, .inr (2, [.ref tt, .null, .null, .null, .ref o1, .int 0, .int 0, .long 0, .ref o2, .ref o4])), (o1, .inl (cT, 150, .inr (.inr (.inr (.inr (fun _ => none)))))), (o2, .inr (1, [.ref (q3 0), .int 0])), ((q3 0), .inl (cI, 1000, .inl (fun _ => 0))), (o4, .inr (1, [.ref (q5 0), .int 0])), ((q5 0), .inl (cI, 1000, .inl (fun _ => 0)))] H := hP
  have hD : va_D A [(h, .inr (2, [.ref tt, .null, .null, .null, .ref o1, .int 0, .int 0, .long 0, .ref o2, .ref o4])), (o1, .inl (cT, 150, .inr (.inr (.inr (.inr (fun _ => none)))))), (o2, .inr (1, [.ref (q3 0), .int 0])), ((q3 0), .inl (cI, 1000, .inl (fun _ => 0))), (o4, .inr (1, [.ref (q5 0), .int 0])), ((q5 0), .inl (cI, 1000, .inl (fun _ => 0)))] := hD
  refine lv_aload_n hx hb d_Compiler_init_62 rfl (lv_at hl 0 rfl) ?_
  refine lv_aload_n hx hb d_Compiler_init_63 rfl (lv_at hl 2 rfl) ?_
  refine va_putF (D := D) (v := .ref ww) (ty := (.object "ColonMachine$Words")) (C := "ColonMachine$Compiler") (T := T_Compiler) (N := 10) hx hb hT i_Compiler t_Compiler tk_Compiler n_Compiler hown hK hP hD hS 0 rfl rfl 1 (by decide) (hT _ fl_Compiler_45) (fun _ h9 => h9) rfl hin rfl (by decide +kernel) rfl rfl (Nat.le_of_ble_eq_true rfl) d_Compiler_init_64 (fun H locs hP hD hS => ?_)
  have hP : va_P D classes [(h, .inr (2, [.ref tt, .ref ww, .null, .null, .ref o1, .int 0, .int 0, .long 0, .ref o2, .ref o4])), (o1, .inl (cT, 150, .inr (.inr (.inr (.inr (fun _ => none)))))), (o2, .inr (1, [.ref (q3 0), .int 0])), ((q3 0), .inl (cI, 1000, .inl (fun _ => 0))), (o4, .inr (1, [.ref (q5 0), .int 0])), ((q5 0), .inl (cI, 1000, .inl (fun _ => 0)))] H := hP
  have hD : va_D A [(h, .inr (2, [.ref tt, .ref ww, .null, .null, .ref o1, .int 0, .int 0, .long 0, .ref o2, .ref o4])), (o1, .inl (cT, 150, .inr (.inr (.inr (.inr (fun _ => none)))))), (o2, .inr (1, [.ref (q3 0), .int 0])), ((q3 0), .inl (cI, 1000, .inl (fun _ => 0))), (o4, .inr (1, [.ref (q5 0), .int 0])), ((q5 0), .inl (cI, 1000, .inl (fun _ => 0)))] := hD
  refine lv_aload_n hx hb d_Compiler_init_67 rfl (lv_at hl 0 rfl) ?_
  refine lv_aload_n hx hb d_Compiler_init_68 rfl (lv_at hl 3 rfl) ?_
  refine va_putF (D := D) (v := .ref mm) (ty := (.object "ColonMachine$Memory")) (C := "ColonMachine$Compiler") (T := T_Compiler) (N := 10) hx hb hT i_Compiler t_Compiler tk_Compiler n_Compiler hown hK hP hD hS 0 rfl rfl 2 (by decide) (hT _ fl_Compiler_49) (fun _ h9 => h9) rfl hin rfl (by decide +kernel) rfl rfl (Nat.le_of_ble_eq_true rfl) d_Compiler_init_69 (fun H locs hP hD hS => ?_)
  have hP : va_P D classes [(h, .inr (2, [.ref tt, .ref ww, .ref mm, .null, .ref o1, .int 0, .int 0, .long 0, .ref o2, .ref o4])), (o1, .inl (cT, 150, .inr (.inr (.inr (.inr (fun _ => none)))))), (o2, .inr (1, [.ref (q3 0), .int 0])), ((q3 0), .inl (cI, 1000, .inl (fun _ => 0))), (o4, .inr (1, [.ref (q5 0), .int 0])), ((q5 0), .inl (cI, 1000, .inl (fun _ => 0)))] H := hP
  have hD : va_D A [(h, .inr (2, [.ref tt, .ref ww, .ref mm, .null, .ref o1, .int 0, .int 0, .long 0, .ref o2, .ref o4])), (o1, .inl (cT, 150, .inr (.inr (.inr (.inr (fun _ => none)))))), (o2, .inr (1, [.ref (q3 0), .int 0])), ((q3 0), .inl (cI, 1000, .inl (fun _ => 0))), (o4, .inr (1, [.ref (q5 0), .int 0])), ((q5 0), .inl (cI, 1000, .inl (fun _ => 0)))] := hD
  refine lv_aload_n hx hb d_Compiler_init_72 rfl (lv_at hl 0 rfl) ?_
  refine lv_aload hx hb d_Compiler_init_73 (lv_at hl 4 rfl) ?_
  refine va_putF (D := D) (v := .ref oo) (ty := (.object "ColonMachine$Out")) (C := "ColonMachine$Compiler") (T := T_Compiler) (N := 10) hx hb hT i_Compiler t_Compiler tk_Compiler n_Compiler hown hK hP hD hS 0 rfl rfl 3 (by decide) (hT _ fl_Compiler_53) (fun _ h9 => h9) rfl hin rfl (by decide +kernel) rfl rfl (Nat.le_of_ble_eq_true rfl) d_Compiler_init_75 (fun H locs hP hD hS => ?_)
  have hP : va_P D classes [(h, .inr (2, [.ref tt, .ref ww, .ref mm, .ref oo, .ref o1, .int 0, .int 0, .long 0, .ref o2, .ref o4])), (o1, .inl (cT, 150, .inr (.inr (.inr (.inr (fun _ => none)))))), (o2, .inr (1, [.ref (q3 0), .int 0])), ((q3 0), .inl (cI, 1000, .inl (fun _ => 0))), (o4, .inr (1, [.ref (q5 0), .int 0])), ((q5 0), .inl (cI, 1000, .inl (fun _ => 0)))] H := hP
  have hD : va_D A [(h, .inr (2, [.ref tt, .ref ww, .ref mm, .ref oo, .ref o1, .int 0, .int 0, .long 0, .ref o2, .ref o4])), (o1, .inl (cT, 150, .inr (.inr (.inr (.inr (fun _ => none)))))), (o2, .inr (1, [.ref (q3 0), .int 0])), ((q3 0), .inl (cI, 1000, .inl (fun _ => 0))), (o4, .inr (1, [.ref (q5 0), .int 0])), ((q5 0), .inl (cI, 1000, .inl (fun _ => 0)))] := hD
  exact W.vret hx hb hr (fun t ht hW => ⟨⟨(fun k : Nat => match k with | 0 => o1 | 1 => o2 | 2 => (q3 0) | 3 => o4 | 4 => (q5 0) | _ => 0), rfl, trivial, ⟨by rw [ht]; exact hP, va_K.moved hW.alike hK, hD⟩⟩, hS.F ht⟩) hS.2.2 d_Compiler_init_78
set_option maxHeartbeats 4000000 in
set_option maxRecDepth 100000 in
theorem c_Primitives_init (l : Launch) (D : va_G) (cI cJ cZ cW cT : ClassId) (sz : Nat) (h : Nat) (dd : Nat) (rr : Nat) (kc : Nat) (mm : Nat) (oo : Nat) (tt : Nat) (ww : Nat)  : Met l y_Primitives_init w_Primitives_init ({ frames := 1, cells := 0, slots := 0, locals := 12 }) (va_Pc [.ref h, .ref dd, .ref rr, .ref kc, .ref mm, .ref oo, .ref tt, .ref ww] (zP D classes (TY cI cJ cZ cW cT) [(h, .inr (6, [.null, .null, .null, .null, .null, .null, .null]))] sz)) (va_Qv (fun _ : Nat → Nat => True) (fun u => zB D classes (TY cI cJ cZ cW cT) (va_A [(h, .inr (6, [.null, .null, .null, .null, .null, .null, .null]))] sz) [(h, .inr (6, [.ref dd, .ref rr, .ref kc, .ref mm, .ref oo, .ref tt, .ref ww]))]) (va_A [(h, .inr (6, [.null, .null, .null, .null, .null, .null, .null]))] sz)) (0) (0) (va_A [(h, .inr (6, [.null, .null, .null, .null, .null, .null, .null]))] sz) := by
  refine Met.ofW (cc := b_Primitives_init) (maxL := 8) (ret := none) (by decide) rfl ?_
  intro p e s m args below meth c s₁ B hml hv
  obtain ⟨rfl, hsz, hP, hK, hD0, hE⟩ := hv
  have hx := B.exec
  have hb := B.bytes
  have hr := B.returns
  have hts := atoms_spec (ws := w_Primitives_init) B.pre
  have hT : ∀ w ∈ TB, w.before _ s = true := fun w h => hts w (List.mem_cons_of_mem _ h)
  have hown : s.vm.findClass "ColonMachine$Primitives" = some m.cls := findClass_of_methodNamed B.named
  have hlocks := B.notSynchronized
  have hin : meth.name = "<init>" := (name_of_methodNamed B.named B.method).1
  subst hsz
  have hD := hD0.self (sz := s.heap.size)
  generalize hAe : va_A [(h, .inr (6, [.null, .null, .null, .null, .null, .null, .null]))] s.heap.size = A at hD hE ⊢
  have hA : ∀ q : Nat, s.heap.size ≤ q → A q := fun q h => by rw [← hAe]; exact Or.inr h
  have hS : va_S A s.heap s.heap [] := va_S.rf
  have hl := lv_entry [.ref h, .ref dd, .ref rr, .ref kc, .ref mm, .ref oo, .ref tt, .ref ww] (n := 8) (Nat.le_of_ble_eq_true rfl)
  rw [lg_entry_eq]
  generalize (lg_sl [.ref h, .ref dd, .ref rr, .ref kc, .ref mm, .ref oo, .ref tt, .ref ww] ++ List.replicate (8 - (lg_sl [.ref h, .ref dd, .ref rr, .ref kc, .ref mm, .ref oo, .ref tt, .ref ww]).length) Slot.unset).toArray = ls at hl ⊢
  have hl : lv_has ls 8 [(0, .ref h), (1, .ref dd), (2, .ref rr), (3, .ref kc), (4, .ref mm), (5, .ref oo), (6, .ref tt), (7, .ref ww)] := hl
  refine lv_aload_n hx hb d_Primitives_init_0 rfl (lv_at hl 0 rfl) ?_
  refine W.objInit hx hb hown (hT _ ml_Primitives_3) (hT _ im_Obj_init) (hT _ co_Obj_init) rfl (by rw [hml]; exact hl.1) rfl d_Primitives_init_1 (Nat.le_of_ble_eq_true rfl) (Nat.le_of_ble_eq_true rfl) ?_
  refine W.eq (g2 := F0 m 4 ls []) rfl ?_
  refine lv_aload_n hx hb d_Primitives_init_4 rfl (lv_at hl 0 rfl) ?_
  refine lv_aload_n hx hb d_Primitives_init_5 rfl (lv_at hl 1 rfl) ?_
  refine va_putF (D := D) (v := .ref dd) (ty := (.object "ColonMachine$Cells")) (C := "ColonMachine$Primitives") (T := T_Primitives) (N := 7) hx hb hT i_Primitives t_Primitives tk_Primitives n_Primitives hown hK hP hD hS 0 rfl rfl 0 (by decide) (hT _ fl_Primitives_9) (fun _ h9 => h9) rfl hin rfl (by decide +kernel) rfl rfl (Nat.le_of_ble_eq_true rfl) d_Primitives_init_6 (fun H locs hP hD hS => ?_)
  have hP : va_P D classes [(h, .inr (6, [.ref dd, .null, .null, .null, .null, .null, .null]))] H := hP
  have hD : va_D A [(h, .inr (6, [.ref dd, .null, .null, .null, .null, .null, .null]))] := hD
  refine lv_aload_n hx hb d_Primitives_init_9 rfl (lv_at hl 0 rfl) ?_
  refine lv_aload_n hx hb d_Primitives_init_10 rfl (lv_at hl 2 rfl) ?_
  refine va_putF (D := D) (v := .ref rr) (ty := (.object "ColonMachine$Cells")) (C := "ColonMachine$Primitives") (T := T_Primitives) (N := 7) hx hb hT i_Primitives t_Primitives tk_Primitives n_Primitives hown hK hP hD hS 0 rfl rfl 1 (by decide) (hT _ fl_Primitives_15) (fun _ h9 => h9) rfl hin rfl (by decide +kernel) rfl rfl (Nat.le_of_ble_eq_true rfl) d_Primitives_init_11 (fun H locs hP hD hS => ?_)
  have hP : va_P D classes [(h, .inr (6, [.ref dd, .ref rr, .null, .null, .null, .null, .null]))] H := hP
  have hD : va_D A [(h, .inr (6, [.ref dd, .ref rr, .null, .null, .null, .null, .null]))] := hD
  refine lv_aload_n hx hb d_Primitives_init_14 rfl (lv_at hl 0 rfl) ?_
  refine lv_aload_n hx hb d_Primitives_init_15 rfl (lv_at hl 3 rfl) ?_
  refine va_putF (D := D) (v := .ref kc) (ty := (.object "ColonMachine$Calls")) (C := "ColonMachine$Primitives") (T := T_Primitives) (N := 7) hx hb hT i_Primitives t_Primitives tk_Primitives n_Primitives hown hK hP hD hS 0 rfl rfl 2 (by decide) (hT _ fl_Primitives_18) (fun _ h9 => h9) rfl hin rfl (by decide +kernel) rfl rfl (Nat.le_of_ble_eq_true rfl) d_Primitives_init_16 (fun H locs hP hD hS => ?_)
  have hP : va_P D classes [(h, .inr (6, [.ref dd, .ref rr, .ref kc, .null, .null, .null, .null]))] H := hP
  have hD : va_D A [(h, .inr (6, [.ref dd, .ref rr, .ref kc, .null, .null, .null, .null]))] := hD
  refine lv_aload_n hx hb d_Primitives_init_19 rfl (lv_at hl 0 rfl) ?_
  refine lv_aload hx hb d_Primitives_init_20 (lv_at hl 4 rfl) ?_
  refine va_putF (D := D) (v := .ref mm) (ty := (.object "ColonMachine$Memory")) (C := "ColonMachine$Primitives") (T := T_Primitives) (N := 7) hx hb hT i_Primitives t_Primitives tk_Primitives n_Primitives hown hK hP hD hS 0 rfl rfl 3 (by decide) (hT _ fl_Primitives_22) (fun _ h9 => h9) rfl hin rfl (by decide +kernel) rfl rfl (Nat.le_of_ble_eq_true rfl) d_Primitives_init_22 (fun H locs hP hD hS => ?_)
  have hP : va_P D classes [(h, .inr (6, [.ref dd, .ref rr, .ref kc, .ref mm, .null, .null, .null]))] H := hP
  have hD : va_D A [(h, .inr (6, [.ref dd, .ref rr, .ref kc, .ref mm, .null, .null, .null]))] := hD
  refine lv_aload_n hx hb d_Primitives_init_25 rfl (lv_at hl 0 rfl) ?_
  refine lv_aload hx hb d_Primitives_init_26 (lv_at hl 5 rfl) ?_
  refine va_putF (D := D) (v := .ref oo) (ty := (.object "ColonMachine$Out")) (C := "ColonMachine$Primitives") (T := T_Primitives) (N := 7) hx hb hT i_Primitives t_Primitives tk_Primitives n_Primitives hown hK hP hD hS 0 rfl rfl 4 (by decide) (hT _ fl_Primitives_26) (fun _ h9 => h9) rfl hin rfl (by decide +kernel) rfl rfl (Nat.le_of_ble_eq_true rfl) d_Primitives_init_28 (fun H locs hP hD hS => ?_)
  have hP : va_P D classes [(h, .inr (6, [.ref dd, .ref rr, .ref kc, .ref mm, .ref oo, .null, .null]))] H := hP
  have hD : va_D A [(h, .inr (6, [.ref dd, .ref rr, .ref kc, .ref mm, .ref oo, .null, .null]))] := hD
  refine lv_aload_n hx hb d_Primitives_init_31 rfl (lv_at hl 0 rfl) ?_
  refine lv_aload hx hb d_Primitives_init_32 (lv_at hl 6 rfl) ?_
  refine va_putF (D := D) (v := .ref tt) (ty := (.object "ColonMachine$Text")) (C := "ColonMachine$Primitives") (T := T_Primitives) (N := 7) hx hb hT i_Primitives t_Primitives tk_Primitives n_Primitives hown hK hP hD hS 0 rfl rfl 5 (by decide) (hT _ fl_Primitives_30) (fun _ h9 => h9) rfl hin rfl (by decide +kernel) rfl rfl (Nat.le_of_ble_eq_true rfl) d_Primitives_init_34 (fun H locs hP hD hS => ?_)
  have hP : va_P D classes [(h, .inr (6, [.ref dd, .ref rr, .ref kc, .ref mm, .ref oo, .ref tt, .null]))] H := hP
  have hD : va_D A [(h, .inr (6, [.ref dd, .ref rr, .ref kc, .ref mm, .ref oo, .ref tt, .null]))] := hD
  refine lv_aload_n hx hb d_Primitives_init_37 rfl (lv_at hl 0 rfl) ?_
  refine lv_aload hx hb d_Primitives_init_38 (lv_at hl 7 rfl) ?_
  refine va_putF (D := D) (v := .ref ww) (ty := (.object "ColonMachine$Words")) (C := "ColonMachine$Primitives") (T := T_Primitives) (N := 7) hx hb hT i_Primitives t_Primitives tk_Primitives n_Primitives hown hK hP hD hS 0 rfl rfl 6 (by decide) (hT _ fl_Primitives_34) (fun _ h9 => h9) rfl hin rfl (by decide +kernel) rfl rfl (Nat.le_of_ble_eq_true rfl) d_Primitives_init_40 (fun H locs hP hD hS => ?_)
  have hP : va_P D classes [(h, .inr (6, [.ref dd, .ref rr, .ref kc, .ref mm, .ref oo, .ref tt, .ref ww]))] H := hP
  have hD : va_D A [(h, .inr (6, [.ref dd, .ref rr, .ref kc, .ref mm, .ref oo, .ref tt, .ref ww]))] := hD
  exact W.vret hx hb hr (fun t ht hW => ⟨⟨(fun k : Nat => match k with | _ => 0), rfl, trivial, ⟨by rw [ht]; exact hP, va_K.moved hW.alike hK, hD⟩⟩, hS.F ht⟩) hS.2.2 d_Primitives_init_43
set_option maxHeartbeats 4000000 in
set_option maxRecDepth 100000 in
theorem c_Mach_init (l : Launch) (D : va_G) (cI cJ cZ cW cT : ClassId) (sz : Nat) (h : Nat)  : Met l y_Mach_init w_Mach_init ({ frames := 3, cells := 0 + 1 + (0 + 1) + 1 + (0 + 1) + 1 + (0 + 1 + 1 + 1 + 1) + 1 + (0 + 1 + 1) + 1 + (0 + 1) + 1 + (0 + 1) + 1 + (0 + 1) + 1 + (0 + 1 + 1 + (0 + 1) + 1 + (0 + 1)) + 1 + 0, slots := 0 + 2 + (0 + (64 : Int32).toNatClampNeg) + 2 + (0 + (64 : Int32).toNatClampNeg) + 5 + (0 + 40 + 40 + 40 + 40) + 3 + (0 + 1000 + 600) + 2 + (0 + 800) + 5 + (0 + 500) + 2 + (0 + 80) + 10 + (0 + 150 + 2 + (0 + (1000 : Int32).toNatClampNeg) + 2 + (0 + (1000 : Int32).toNatClampNeg)) + 7 + 0, locals := 57 }) (va_Pc [.ref h] (zP D classes (TY cI cJ cZ cW cT) [(h, .inr (10, [.null, .null, .null, .null, .null, .null, .null, .null, .null, .int 0]))] sz)) (va_Qv (fun _ : Nat → Nat => True) (fun u => zB D classes (TY cI cJ cZ cW cT) (va_A [(h, .inr (10, [.null, .null, .null, .null, .null, .null, .null, .null, .null, .int 0]))] sz) [(h, .inr (10, [.ref (u 0), .ref (u 2), .ref (u 4), .ref (u 9), .ref (u 12), .ref (u 14), .ref (u 16), .ref (u 18), .ref (u 24), .int 0])), ((u 0), .inr (1, [.ref (u 1), .int 0])), ((u 1), .inl (cI, 64, .inl (fun _ => 0))), ((u 2), .inr (1, [.ref (u 3), .int 0])), ((u 3), .inl (cI, 64, .inl (fun _ => 0))), ((u 4), .inr (0, [.ref (u 5), .ref (u 6), .ref (u 7), .ref (u 8), .int 0])), ((u 5), .inl (cI, 40, .inl (fun _ => 0))), ((u 6), .inl (cI, 40, .inl (fun _ => 0))), ((u 7), .inl (cI, 40, .inl (fun _ => 0))), ((u 8), .inl (cI, 40, .inl (fun _ => 0))), ((u 9), .inr (4, [.ref (u 10), .ref (u 11), .int 1])), ((u 10), .inl (cI, 1000, .inl (upd (fun _ => 0) (0 : Int32).toNatClampNeg 10))), ((u 11), .inl (cI, 600, .inl (fun _ => 0))), ((u 12), .inr (5, [.ref (u 13), .int 0])), ((u 13), .inl (cI, 800, .inl (fun _ => 0))), ((u 14), .inr (7, [.ref (u 15), .int 0, .int 0, .int 0, .int 0])), ((u 15), .inl (cI, 500, .inl (fun _ => 0))), ((u 16), .inr (9, [.ref (u 17), .int 0])), ((u 17), .inl (cW, 80, .inr (.inr (.inr (.inr (fun _ => none)))))), ((u 18), .inr (2, [.ref (u 14), .ref (u 16), .ref (u 9), .ref (u 12), .ref (u 19), .int 0, .int 0, .long 0, .ref (u 20), .ref (u 22)])), ((u 19), .inl (cT, 150, .inr (.inr (.inr (.inr (fun _ => none)))))), ((u 20), .inr (1, [.ref (u 21), .int 0])), ((u 21), .inl (cI, 1000, .inl (fun _ => 0))), ((u 22), .inr (1, [.ref (u 23), .int 0])), ((u 23), .inl (cI, 1000, .inl (fun _ => 0))), ((u 24), .inr (6, [.ref (u 0), .ref (u 2), .ref (u 4), .ref (u 9), .ref (u 12), .ref (u 14), .ref (u 16)]))]) (va_A [(h, .inr (10, [.null, .null, .null, .null, .null, .null, .null, .null, .null, .int 0]))] sz)) (0 + 1 + (0 + 1) + 1 + (0 + 1) + 1 + (0 + 1 + 1 + 1 + 1) + 1 + (0 + 1 + 1) + 1 + (0 + 1) + 1 + (0 + 1) + 1 + (0 + 1) + 1 + (0 + 1 + 1 + (0 + 1) + 1 + (0 + 1)) + 1 + 0) (0 + 2 + (0 + (64 : Int32).toNatClampNeg) + 2 + (0 + (64 : Int32).toNatClampNeg) + 5 + (0 + 40 + 40 + 40 + 40) + 3 + (0 + 1000 + 600) + 2 + (0 + 800) + 5 + (0 + 500) + 2 + (0 + 80) + 10 + (0 + 150 + 2 + (0 + (1000 : Int32).toNatClampNeg) + 2 + (0 + (1000 : Int32).toNatClampNeg)) + 7 + 0) (va_A [(h, .inr (10, [.null, .null, .null, .null, .null, .null, .null, .null, .null, .int 0]))] sz) := by
  refine Met.ofW (cc := b_Mach_init) (maxL := 1) (ret := none) (by decide) rfl ?_
  intro p e s m args below meth c s₁ B hml hv
  obtain ⟨rfl, hsz, hP, hK, hD0, hE⟩ := hv
  have hx := B.exec
  have hb := B.bytes
  have hr := B.returns
  have hts := atoms_spec (ws := w_Mach_init) B.pre
  have hT : ∀ w ∈ TB, w.before _ s = true := fun w h => hts w (List.mem_cons_of_mem _ h)
  have hown : s.vm.findClass "ColonMachine" = some m.cls := findClass_of_methodNamed B.named
  have hlocks := B.notSynchronized
  have hin : meth.name = "<init>" := (name_of_methodNamed B.named B.method).1
  subst hsz
  have hD := hD0.self (sz := s.heap.size)
  generalize hAe : va_A [(h, .inr (10, [.null, .null, .null, .null, .null, .null, .null, .null, .null, .int 0]))] s.heap.size = A at hD hE ⊢
  have hA : ∀ q : Nat, s.heap.size ≤ q → A q := fun q h => by rw [← hAe]; exact Or.inr h
  have hS : va_S A s.heap s.heap [] := va_S.rf
  have hl := lv_entry [.ref h] (n := 1) (Nat.le_of_ble_eq_true rfl)
  rw [lg_entry_eq]
  generalize (lg_sl [.ref h] ++ List.replicate (1 - (lg_sl [.ref h]).length) Slot.unset).toArray = ls at hl ⊢
  have hl : lv_has ls 1 [(0, .ref h)] := hl
  refine lv_aload_n hx hb d_Mach_init_0 rfl (lv_at hl 0 rfl) ?_
  refine W.objInit hx hb hown (hT _ ml_Mach_1) (hT _ im_Obj_init) (hT _ co_Obj_init) rfl (by rw [hml]; exact hl.1) rfl d_Mach_init_1 (Nat.le_of_ble_eq_true rfl) (Nat.le_of_ble_eq_true rfl) ?_
  refine W.eq (g2 := F0 m 4 ls []) rfl ?_
  refine lv_aload_n hx hb d_Mach_init_4 rfl (lv_at hl 0 rfl) ?_
  refine va_new (ci := 1) (fs := [.null, .int 0]) (C := "ColonMachine$Cells") (T := T_Cells) (N := 2) hx hb hT i_Cells t_Cells tk_Cells hown (hT _ kl_Mach_7) (hT _ ia_Cells) (hT _ in_Cells) hK hP hD hS hA rfl df_Cells (by first | exact Nat.le_refl _ | exact Nat.le_of_ble_eq_true rfl) (by first | exact Nat.le_refl _ | exact Nat.le_of_ble_eq_true rfl) d_Mach_init_5 (fun o1 H hP hD hS => ?_)
  have hP : va_P D classes [(h, .inr (10, [.null, .null, .null, .null, .null, .null, .null, .null, .null, .int 0])), (o1, .inr (1, [.null, .int 0]))] H := hP
  have hD : va_D A [(h, .inr (10, [.null, .null, .null, .null, .null, .null, .null, .null, .null, .int 0])), (o1, .inr (1, [.null, .int 0]))] := hD
  refine lv_dup hx hb d_Mach_init_8 rfl ?_
  refine lv_bipush (v := 64) hx hb d_Mach_init_9 (by decide) ?_
  refine kN_cv (wr := [(h, .inr (10, [.null, .null, .null, .null, .null, .null, .null, .null, .null, .int 0]))]) (fun u : Nat → Nat => [(h, .inr (10, [.null, .null, .null, .null, .null, .null, .null, .null, .null, .int 0])), (o1, .inr (1, [.ref (u 0), .int 0])), ((u 0), .inl (cI, 64, .inl (fun _ => 0)))]) (zI (wc := [(o1, .inr (1, [.null, .int 0]))]) (As := [.int 64]) (rest := [.ref o1, .ref h]) (st0 := [.int 64, .ref o1, .ref o1, .ref h]) ⟨hx, hb, hml, hown, hT⟩ (c_Cells_init l D cI cJ cZ cW cT H.size o1 (64 : Int32) (by have t0 : Int32.toInt 0 = 0 := rfl; have t64 : Int32.toInt 64 = 64 := rfl; (try simp only [true_or, or_true, true_and, and_true, z_tn, CellsOk, CallsOk, TextOk, MemOk, OutOk, Int32.lt_iff_toInt_lt, Int32.le_iff_toInt_le, ← Int32.toInt_inj, Int32.toInt_add, Int32.toInt_sub, Int32.toInt_mul, Int32.toInt_neg, zbm, zbm', t0, t64] at  ⊢) <;> omega) (by have t64 : Int32.toInt 64 = 64 := rfl; have t1000 : Int32.toInt 1000 = 1000 := rfl; (try simp only [true_or, or_true, true_and, and_true, z_tn, CellsOk, CallsOk, TextOk, MemOk, OutOk, Int32.lt_iff_toInt_lt, Int32.le_iff_toInt_le, ← Int32.toInt_inj, Int32.toInt_add, Int32.toInt_sub, Int32.toInt_mul, Int32.toInt_neg, zbm, zbm', t64, t1000] at  ⊢) <;> omega)) (cwI 1 hT (tb_cons co_Cells_init) rfl rfl rfl (hT _ in_Cells) (hT _ ml_Mach_11) (hT _ im_Cells_init) rfl vs_Cells_init ⟨Nat.le_of_ble_eq_true rfl, Nat.le_of_ble_eq_true rfl⟩) hK hE hP hD hS hA [1] rfl rfl rfl hl.1 rfl (Nat.le_of_ble_eq_true rfl) d_Mach_init_11 ⟨(by first | exact Nat.le_refl _ | exact Nat.le_of_ble_eq_true rfl), (by first | exact Nat.le_refl _ | exact Nat.le_of_ble_eq_true rfl)⟩) hP hD hS hA [1] [0] rfl rfl rfl (by decide) [0, 1, 2] rfl (fun u => rfl) (fun q2 H locs _ hP hD hS => ?_)
  have hP : va_P D classes [(h, .inr (10, [.null, .null, .null, .null, .null, .null, .null, .null, .null, .int 0])), (o1, .inr (1, [.ref (q2 0), .int 0])), ((q2 0), .inl (cI, 64, .inl (fun _ => 0)))] H := hP
  have hD : va_D A [(h, .inr (10, [.null, .null, .null, .null, .null, .null, .null, .null, .null, .int 0])), (o1, .inr (1, [.ref (q2 0), .int 0])), ((q2 0), .inl (cI, 64, .inl (fun _ => 0)))] := hD
  refine va_putF (D := D) (v := .ref o1) (ty := (.object "ColonMachine$Cells")) (C := "ColonMachine") (T := T_Mach) (N := 10) hx hb hT i_Mach t_Mach tk_Mach n_Mach hown hK hP hD hS 0 rfl rfl 0 (by decide) (hT _ fl_Mach_14) (fun _ h9 => h9) rfl hin rfl (by decide +kernel) rfl rfl (Nat.le_of_ble_eq_true rfl) d_Mach_init_14 (fun H locs hP hD hS => ?_)
  have hP : va_P D classes [(h, .inr (10, [.ref o1, .null, .null, .null, .null, .null, .null, .null, .null, .int 0])), (o1, .inr (1, [.ref (q2 0), .int 0])), ((q2 0), .inl (cI, 64, .inl (fun _ => 0)))] H := hP
  have hD : va_D A [(h, .inr (10, [.ref o1, .null, .null, .null, .null, .null, .null, .null, .null, .int 0])), (o1, .inr (1, [.ref (q2 0), .int 0])), ((q2 0), .inl (cI, 64, .inl (fun _ => 0)))] := hD
  refine lv_aload_n hx hb d_Mach_init_17 rfl (lv_at hl 0 rfl) ?_
  refine va_new (ci := 1) (fs := [.null, .int 0]) (C := "ColonMachine$Cells") (T := T_Cells) (N := 2) hx hb hT i_Cells t_Cells tk_Cells hown (hT _ kl_Mach_7) (hT _ ia_Cells) (hT _ in_Cells) hK hP hD hS hA rfl df_Cells (by first | exact Nat.le_refl _ | exact Nat.le_of_ble_eq_true rfl) (by first | exact Nat.le_refl _ | exact Nat.le_of_ble_eq_true rfl) d_Mach_init_18 (fun o3 H hP hD hS => ?_)
  have hP : va_P D classes [(h, .inr (10, [.ref o1, .null, .null, .null, .null, .null, .null, .null, .null, .int 0])), (o1, .inr (1, [.ref (q2 0), .int 0])), ((q2 0), .inl (cI, 64, .inl (fun _ => 0))), (o3, .inr (1, [.null, .int 0]))] H := hP
  have hD : va_D A [(h, .inr (10, [.ref o1, .null, .null, .null, .null, .null, .null, .null, .null, .int 0])), (o1, .inr (1, [.ref (q2 0), .int 0])), ((q2 0), .inl (cI, 64, .inl (fun _ => 0))), (o3, .inr (1, [.null, .int 0]))] := hD
  refine lv_dup hx hb d_Mach_init_21 rfl ?_
  refine lv_bipush (v := 64) hx hb d_Mach_init_22 (by decide) ?_
  refine kN_cv (wr := [(h, .inr (10, [.ref o1, .null, .null, .null, .null, .null, .null, .null, .null, .int 0])), (o1, .inr (1, [.ref (q2 0), .int 0])), ((q2 0), .inl (cI, 64, .inl (fun _ => 0)))]) (fun u : Nat → Nat => [(h, .inr (10, [.ref o1, .null, .null, .null, .null, .null, .null, .null, .null, .int 0])), (o1, .inr (1, [.ref (q2 0), .int 0])), ((q2 0), .inl (cI, 64, .inl (fun _ => 0))), (o3, .inr (1, [.ref (u 0), .int 0])), ((u 0), .inl (cI, 64, .inl (fun _ => 0)))]) (zI (wc := [(o3, .inr (1, [.null, .int 0]))]) (As := [.int 64]) (rest := [.ref o3, .ref h]) (st0 := [.int 64, .ref o3, .ref o3, .ref h]) ⟨hx, hb, hml, hown, hT⟩ (c_Cells_init l D cI cJ cZ cW cT H.size o3 (64 : Int32) (by have t0 : Int32.toInt 0 = 0 := rfl; have t64 : Int32.toInt 64 = 64 := rfl; (try simp only [true_or, or_true, true_and, and_true, z_tn, CellsOk, CallsOk, TextOk, MemOk, OutOk, Int32.lt_iff_toInt_lt, Int32.le_iff_toInt_le, ← Int32.toInt_inj, Int32.toInt_add, Int32.toInt_sub, Int32.toInt_mul, Int32.toInt_neg, zbm, zbm', t0, t64] at  ⊢) <;> omega) (by have t64 : Int32.toInt 64 = 64 := rfl; have t1000 : Int32.toInt 1000 = 1000 := rfl; (try simp only [true_or, or_true, true_and, and_true, z_tn, CellsOk, CallsOk, TextOk, MemOk, OutOk, Int32.lt_iff_toInt_lt, Int32.le_iff_toInt_le, ← Int32.toInt_inj, Int32.toInt_add, Int32.toInt_sub, Int32.toInt_mul, Int32.toInt_neg, zbm, zbm', t64, t1000] at  ⊢) <;> omega)) (cwI 1 hT (tb_cons co_Cells_init) rfl rfl rfl (hT _ in_Cells) (hT _ ml_Mach_11) (hT _ im_Cells_init) rfl vs_Cells_init ⟨Nat.le_of_ble_eq_true rfl, Nat.le_of_ble_eq_true rfl⟩) hK hE hP hD hS hA [3] rfl rfl rfl hl.1 rfl (Nat.le_of_ble_eq_true rfl) d_Mach_init_24 ⟨(by first | exact Nat.le_refl _ | exact Nat.le_of_ble_eq_true rfl), (by first | exact Nat.le_refl _ | exact Nat.le_of_ble_eq_true rfl)⟩) hP hD hS hA [3] [0, 1, 2] rfl rfl rfl (by decide) [0, 1, 2, 3, 4] rfl (fun u => rfl) (fun q4 H locs _ hP hD hS => ?_)
  have hP : va_P D classes [(h, .inr (10, [.ref o1, .null, .null, .null, .null, .null, .null, .null, .null, .int 0])), (o1, .inr (1, [.ref (q2 0), .int 0])), ((q2 0), .inl (cI, 64, .inl (fun _ => 0))), (o3, .inr (1, [.ref (q4 0), .int 0])), ((q4 0), .inl (cI, 64, .inl (fun _ => 0)))] H := hP
  have hD : va_D A [(h, .inr (10, [.ref o1, .null, .null, .null, .null, .null, .null, .null, .null, .int 0])), (o1, .inr (1, [.ref (q2 0), .int 0])), ((q2 0), .inl (cI, 64, .inl (fun _ => 0))), (o3, .inr (1, [.ref (q4 0), .int 0])), ((q4 0), .inl (cI, 64, .inl (fun _ => 0)))] := hD
  refine va_putF (D := D) (v := .ref o3) (ty := (.object "ColonMachine$Cells")) (C := "ColonMachine") (T := T_Mach) (N := 10) hx hb hT i_Mach t_Mach tk_Mach n_Mach hown hK hP hD hS 0 rfl rfl 1 (by decide) (hT _ fl_Mach_18) (fun _ h9 => h9) rfl hin rfl (by decide +kernel) rfl rfl (Nat.le_of_ble_eq_true rfl) d_Mach_init_27 (fun H locs hP hD hS => ?_)
  have hP : va_P D classes [(h, .inr (10, [.ref o1, .ref o3, .null, .null, .null, .null, .null, .null, .null, .int 0])), (o1, .inr (1, [.ref (q2 0), .int 0])), ((q2 0), .inl (cI, 64, .inl (fun _ => 0))), (o3, .inr (1, [.ref (q4 0), .int 0])), ((q4 0), .inl (cI, 64, .inl (fun _ => 0)))] H := hP
  have hD : va_D A [(h, .inr (10, [.ref o1, .ref o3, .null, .null, .null, .null, .null, .null, .null, .int 0])), (o1, .inr (1, [.ref (q2 0), .int 0])), ((q2 0), .inl (cI, 64, .inl (fun _ => 0))), (o3, .inr (1, [.ref (q4 0), .int 0])), ((q4 0), .inl (cI, 64, .inl (fun _ => 0)))] := hD
  refine lv_aload_n hx hb d_Mach_init_30 rfl (lv_at hl 0 rfl) ?_
  refine va_new (ci := 0) (fs := [.null, .null, .null, .null, .int 0]) (C := "ColonMachine$Calls") (T := T_Calls) (N := 5) hx hb hT i_Calls t_Calls tk_Calls hown (hT _ kl_Mach_21) (hT _ ia_Calls) (hT _ in_Calls) hK hP hD hS hA rfl df_Calls (by first | exact Nat.le_refl _ | exact Nat.le_of_ble_eq_true rfl) (by first | exact Nat.le_refl _ | exact Nat.le_of_ble_eq_true rfl) d_Mach_init_31 (fun o5 H hP hD hS => ?_)
  have hP : va_P D classes [(h, .inr (10, [.ref o1, .ref o3, .null, .null, .null, .null, .null, .null, .null, .int 0])), (o1, .inr (1, [.ref (q2 0), .int 0])), ((q2 0), .inl (cI, 64, .inl (fun _ => 0))), (o3, .inr (1, [.ref (q4 0), .int 0])), ((q4 0), .inl (cI, 64, .inl (fun _ => 0))), (o5, .inr (0, [.null, .null, .null, .null, .int 0]))] H := hP
  have hD : va_D A [(h, .inr (10, [.ref o1, .ref o3, .null, .null, .null, .null, .null, .null, .null, .int 0])), (o1, .inr (1, [.ref (q2 0), .int 0])), ((q2 0), .inl (cI, 64, .inl (fun _ => 0))), (o3, .inr (1, [.ref (q4 0), .int 0])), ((q4 0), .inl (cI, 64, .inl (fun _ => 0))), (o5, .inr (0, [.null, .null, .null, .null, .int 0]))] := hD
  refine lv_dup hx hb d_Mach_init_34 rfl ?_
  refine kN_cv (wr := [(h, .inr (10, [.ref o1, .ref o3, .null, .null, .null, .null, .null, .null, .null, .int 0])), (o1, .inr (1, [.ref (q2 0), .int 0])), ((q2 0), .inl (cI, 64, .inl (fun _ => 0))), (o3, .inr (1, [.ref (q4 0), .int 0])), ((q4 0), .inl (cI, 64, .inl (fun _ => 0)))]) (fun u : Nat → Nat => [(h, .inr (10, [.ref o1, .ref o3, .null, .null, .null, .null, .null, .null, .null, .int 0])), (o1, .inr (1, [.ref (q2 0), .int 0])), ((q2 0), .inl (cI, 64, .inl (fun _ => 0))), (o3, .inr (1, [.ref (q4 0), .int 0])), ((q4 0), .inl (cI, 64, .inl (fun _ => 0))), (o5, .inr (0, [.ref (u 0), .ref (u 1), .ref (u 2), .ref (u 3), .int 0])), ((u 0), .inl (cI, 40, .inl (fun _ => 0))), ((u 1), .inl (cI, 40, .inl (fun _ => 0))), ((u 2), .inl (cI, 40, .inl (fun _ => 0))), ((u 3), .inl (cI, 40, .inl (fun _ => 0)))]) (zIN (wc := [(o5, .inr (0, [.null, .null, .null, .null, .int 0]))]) (As := []) (rest := [.ref o5, .ref h]) (st0 := [.ref o5, .ref o5, .ref h]) ⟨hx, hb, hml, hown, hT⟩ (c_Calls_init l D cI cJ cZ cW cT H.size o5) ⟨va_cnB 0 hT (tb_cons co_Calls_init) rfl rfl rfl hE.1.1 (hT _ in_Calls) vs_Calls_init ⟨Nat.le_of_ble_eq_true rfl, Nat.le_of_ble_eq_true rfl⟩, rfl, hT _ im_Calls_init⟩ hK hE hP hD hS hA [5] rfl rfl rfl hl.1 rfl (Nat.le_of_ble_eq_true rfl) d_Mach_init_35 ⟨(by first | exact Nat.le_refl _ | exact Nat.le_of_ble_eq_true rfl), (by first | exact Nat.le_refl _ | exact Nat.le_of_ble_eq_true rfl)⟩) hP hD hS hA [5] [0, 1, 2, 3, 4] rfl rfl rfl (by decide) [0, 1, 2, 3, 4, 5, 6, 7, 8, 9] rfl (fun u => rfl) (fun q6 H locs _ hP hD hS => ?_)
  have hP : va_P D classes [(h, .inr (10, [.ref o1, .ref o3, .null, .null, .null, .null, .null, .null, .null, .int 0])), (o1, .inr (1, [.ref (q2 0), .int 0])), ((q2 0), .inl (cI, 64, .inl (fun _ => 0))), (o3, .inr (1, [.ref (q4 0), .int 0])), ((q4 0), .inl (cI, 64, .inl (fun _ => 0))), (o5, .inr (0, [.ref (q6 0), .ref (q6 1), .ref (q6 2), .ref (q6 3), .int 0])), ((q6 0), .inl (cI, 40, .inl (fun _ => 0))), ((q6 1), .inl (cI, 40, .inl (fun _ => 0))), ((q6 2), .inl (cI, 40, .inl (fun _ => 0))), ((q6 3), .inl (cI, 40, .inl (fun _ => 0)))] H := hP
  have hD : va_D A [(h, .inr (10, [.ref o1, .ref o3, .null, .null, .null, .null, .null, .null, .null, .int 0])), (o1, .inr (1, [.ref (q2 0), .int 0])), ((q2 0), .inl (cI, 64, .inl (fun _ => 0))), (o3, .inr (1, [.ref (q4 0), .int 0])), ((q4 0), .inl (cI, 64, .inl (fun _ => 0))), (o5, .inr (0, [.ref (q6 0), .ref (q6 1), .ref (q6 2), .ref (q6 3), .int 0])), ((q6 0), .inl (cI, 40, .inl (fun _ => 0))), ((q6 1), .inl (cI, 40, .inl (fun _ => 0))), ((q6 2), .inl (cI, 40, .inl (fun _ => 0))), ((q6 3), .inl (cI, 40, .inl (fun _ => 0)))] := hD
  refine va_putF (D := D) (v := .ref o5) (ty := (.object "ColonMachine$Calls")) (C := "ColonMachine") (T := T_Mach) (N := 10) hx hb hT i_Mach t_Mach tk_Mach n_Mach hown hK hP hD hS 0 rfl rfl 2 (by decide) (hT _ fl_Mach_24) (fun _ h9 => h9) rfl hin rfl (by decide +kernel) rfl rfl (Nat.le_of_ble_eq_true rfl) d_Mach_init_38 (fun H locs hP hD hS => ?_)
  have hP : va_P D classes [(h, .inr (10, [.ref o1, .ref o3, .ref o5, .null, .null, .null, .null, .null, .null, .int 0])), (o1, .inr (1, [.ref (q2 0), .int 0])), ((q2 0), .inl (cI, 64, .inl (fun _ => 0))), (o3, .inr (1, [.ref (q4 0), .int 0])), ((q4 0), .inl (cI, 64, .inl (fun _ => 0))), (o5, .inr (0, [.ref (q6 0), .ref (q6 1), .ref (q6 2), .ref (q6 3), .int 0])), ((q6 0), .inl (cI, 40, .inl (fun _ => 0))), ((q6 1), .inl (cI, 40, .inl (fun _ => 0))), ((q6 2), .inl (cI, 40, .inl (fun _ => 0))), ((q6 3), .inl (cI, 40, .inl (fun _ => 0)))] H := hP
  have hD : va_D A [(h, .inr (10, [.ref o1, .ref o3, .ref o5, .null, .null, .null, .null, .null, .null, .int 0])), (o1, .inr (1, [.ref (q2 0), .int 0])), ((q2 0), .inl (cI, 64, .inl (fun _ => 0))), (o3, .inr (1, [.ref (q4 0), .int 0])), ((q4 0), .inl (cI, 64, .inl (fun _ => 0))), (o5, .inr (0, [.ref (q6 0), .ref (q6 1), .ref (q6 2), .ref (q6 3), .int 0])), ((q6 0), .inl (cI, 40, .inl (fun _ => 0))), ((q6 1), .inl (cI, 40, .inl (fun _ => 0))), ((q6 2), .inl (cI, 40, .inl (fun _ => 0))), ((q6 3), .inl (cI, 40, .inl (fun _ => 0)))] := hD
  refine lv_aload_n hx hb d_Mach_init_41 rfl (lv_at hl 0 rfl) ?_
  refine va_new (ci := 4) (fs := [.null, .null, .int 0]) (C := "ColonMachine$Memory") (T := T_Memory) (N := 3) hx hb hT i_Memory t_Memory tk_Memory hown (hT _ kl_Mach_28) (hT _ ia_Memory) (hT _ in_Memory) hK hP hD hS hA rfl df_Memory (by first | exact Nat.le_refl _ | exact Nat.le_of_ble_eq_true rfl) (by first | exact Nat.le_refl _ | exact Nat.le_of_ble_eq_true rfl) d_Mach_init_42 (fun o7 H hP hD hS => ?_)
  have hP : va_P D classes [(h, .inr (10, [.ref o1, .ref o3, .ref o5, .null, .null, .null, .null, .null, .null, .int 0])), (o1, .inr (1, [.ref (q2 0), .int 0])), ((q2 0), .inl (cI, 64, .inl (fun _ => 0))), (o3, .inr (1, [.ref (q4 0), .int 0])), ((q4 0), .inl (cI, 64, .inl (fun _ => 0))), (o5, .inr (0, [.ref (q6 0), .ref (q6 1), .ref (q6 2), .ref (q6 3), .int 0])), ((q6 0), .inl (cI, 40, .inl (fun _ => 0))), ((q6 1), .inl (cI, 40, .inl (fun _ => 0))), ((q6 2), .inl (cI, 40, .inl (fun _ => 0))), ((q6 3), .inl (cI, 40, .inl (fun _ => 0))), (o7, .inr (4, [.null, .null, .int 0]))] H := hP
  have hD : va_D A [(h, .inr (10, [.ref o1, .ref o3, .ref o5, .null, .null, .null, .null, .null, .null, .int 0])), (o1, .inr (1, [.ref (q2 0), .int 0])), ((q2 0), .inl (cI, 64, .inl (fun _ => 0))), (o3, .inr (1, [.ref (q4 0), .int 0])), ((q4 0), .inl (cI, 64, .inl (fun _ => 0))), (o5, .inr (0, [.ref (q6 0), .ref (q6 1), .ref (q6 2), .ref (q6 3), .int 0])), ((q6 0), .inl (cI, 40, .inl (fun _ => 0))), ((q6 1), .inl (cI, 40, .inl (fun _ => 0))), ((q6 2), .inl (cI, 40, .inl (fun _ => 0))), ((q6 3), .inl (cI, 40, .inl (fun _ => 0))), (o7, .inr (4, [.null, .null, .int 0]))] := hD
  refine lv_dup hx hb d_Mach_init_45 rfl ?_
  refine kN_cv (wr := [(h, .inr (10, [.ref o1, .ref o3, .ref o5, .null, .null, .null, .null, .null, .null, .int 0])), (o1, .inr (1, [.ref (q2 0), .int 0])), ((q2 0), .inl (cI, 64, .inl (fun _ => 0))), (o3, .inr (1, [.ref (q4 0), .int 0])), ((q4 0), .inl (cI, 64, .inl (fun _ => 0))), (o5, .inr (0, [.ref (q6 0), .ref (q6 1), .ref (q6 2), .ref (q6 3), .int 0])), ((q6 0), .inl (cI, 40, .inl (fun _ => 0))), ((q6 1), .inl (cI, 40, .inl (fun _ => 0))), ((q6 2), .inl (cI, 40, .inl (fun _ => 0))), ((q6 3), .inl (cI, 40, .inl (fun _ => 0)))]) (fun u : Nat → Nat => [(h, .inr (10, [.ref o1, .ref o3, .ref o5, .null, .null, .null, .null, .null, .null, .int 0])), (o1, .inr (1, [.ref (q2 0), .int 0])), ((q2 0), .inl (cI, 64, .inl (fun _ => 0))), (o3, .inr (1, [.ref (q4 0), .int 0])), ((q4 0), .inl (cI, 64, .inl (fun _ => 0))), (o5, .inr (0, [.ref (q6 0), .ref (q6 1), .ref (q6 2), .ref (q6 3), .int 0])), ((q6 0), .inl (cI, 40, .inl (fun _ => 0))), ((q6 1), .inl (cI, 40, .inl (fun _ => 0))), ((q6 2), .inl (cI, 40, .inl (fun _ => 0))), ((q6 3), .inl (cI, 40, .inl (fun _ => 0))), (o7, .inr (4, [.ref (u 0), .ref (u 1), .int 1])), ((u 0), .inl (cI, 1000, .inl (upd (fun _ => 0) (0 : Int32).toNatClampNeg 10))), ((u 1), .inl (cI, 600, .inl (fun _ => 0)))]) (zI (wc := [(o7, .inr (4, [.null, .null, .int 0]))]) (As := []) (rest := [.ref o7, .ref h]) (st0 := [.ref o7, .ref o7, .ref h]) ⟨hx, hb, hml, hown, hT⟩ (c_Memory_init l D cI cJ cZ cW cT H.size o7) (cwI 0 hT (tb_cons co_Memory_init) rfl rfl rfl (hT _ in_Memory) (hT _ ml_Mach_30) (hT _ im_Memory_init) rfl vs_Memory_init ⟨Nat.le_of_ble_eq_true rfl, Nat.le_of_ble_eq_true rfl⟩) hK hE hP hD hS hA [10] rfl rfl rfl hl.1 rfl (Nat.le_of_ble_eq_true rfl) d_Mach_init_46 ⟨(by first | exact Nat.le_refl _ | exact Nat.le_of_ble_eq_true rfl), (by first | exact Nat.le_refl _ | exact Nat.le_of_ble_eq_true rfl)⟩) hP hD hS hA [10] [0, 1, 2, 3, 4, 5, 6, 7, 8, 9] rfl rfl rfl (by decide) [0, 1, 2, 3, 4, 5, 6, 7, 8, 9, 10, 11, 12] rfl (fun u => rfl) (fun q8 H locs _ hP hD hS => ?_)
  have hP : va_P D classes [(h, .inr (10, [.ref o1, .ref o3, .ref o5, .null, .null, .null, .null, .null, .null, .int 0])), (o1, .inr (1, [.ref (q2 0), .int 0])), ((q2 0), .inl (cI, 64, .inl (fun _ => 0))), (o3, .inr (1, [.ref (q4 0), .int 0])), ((q4 0), .inl (cI, 64, .inl (fun _ => 0))), (o5, .inr (0, [.ref (q6 0), .ref (q6 1), .ref (q6 2), .ref (q6 3), .int 0])), ((q6 0), .inl (cI, 40, .inl (fun _ => 0))), ((q6 1), .inl (cI, 40, .inl (fun _ => 0))), ((q6 2), .inl (cI, 40, .inl (fun _ => 0))), ((q6 3), .inl (cI, 40, .inl (fun _ => 0))), (o7, .inr (4, [.ref (q8 0), .ref (q8 1), .int 1])), ((q8 0), .inl (cI, 1000, .inl (upd (fun _ => 0) (0 : Int32).toNatClampNeg 10))), ((q8 1), .inl (cI, 600, .inl (fun _ => 0)))] H := hP
  have hD : va_D A [(h, .inr (10, [.ref o1, .ref o3, .ref o5, .null, .null, .null, .null, .null, .null, .int 0])), (o1, .inr (1, [.ref (q2 0), .int 0])), ((q2 0), .inl (cI, 64, .inl (fun _ => 0))), (o3, .inr (1, [.ref (q4 0), .int 0])), ((q4 0), .inl (cI, 64, .inl (fun _ => 0))), (o5, .inr (0, [.ref (q6 0), .ref (q6 1), .ref (q6 2), .ref (q6 3), .int 0])), ((q6 0), .inl (cI, 40, .inl (fun _ => 0))), ((q6 1), .inl (cI, 40, .inl (fun _ => 0))), ((q6 2), .inl (cI, 40, .inl (fun _ => 0))), ((q6 3), .inl (cI, 40, .inl (fun _ => 0))), (o7, .inr (4, [.ref (q8 0), .ref (q8 1), .int 1])), ((q8 0), .inl (cI, 1000, .inl (upd (fun _ => 0) (0 : Int32).toNatClampNeg 10))), ((q8 1), .inl (cI, 600, .inl (fun _ => 0)))] := hD
  refine va_putF (D := D) (v := .ref o7) (ty := (.object "ColonMachine$Memory")) (C := "ColonMachine") (T := T_Mach) (N := 10) hx hb hT i_Mach t_Mach tk_Mach n_Mach hown hK hP hD hS 0 rfl rfl 3 (by decide) (hT _ fl_Mach_31) (fun _ h9 => h9) rfl hin rfl (by decide +kernel) rfl rfl (Nat.le_of_ble_eq_true rfl) d_Mach_init_49 (fun H locs hP hD hS => ?_)
  have hP : va_P D classes [(h, .inr (10, [.ref o1, .ref o3, .ref o5, .ref o7, .null, .null, .null, .null, .null, .int 0])), (o1, .inr (1, [.ref (q2 0), .int 0])), ((q2 0), .inl (cI, 64, .inl (fun _ => 0))), (o3, .inr (1, [.ref (q4 0), .int 0])), ((q4 0), .inl (cI, 64, .inl (fun _ => 0))), (o5, .inr (0, [.ref (q6 0), .ref (q6 1), .ref (q6 2), .ref (q6 3), .int 0])), ((q6 0), .inl (cI, 40, .inl (fun _ => 0))), ((q6 1), .inl (cI, 40, .inl (fun _ => 0))), ((q6 2), .inl (cI, 40, .inl (fun _ => 0))), ((q6 3), .inl (cI, 40, .inl (fun _ => 0))), (o7, .inr (4, [.ref (q8 0), .ref (q8 1), .int 1])), ((q8 0), .inl (cI, 1000, .inl (upd (fun _ => 0) (0 : Int32).toNatClampNeg 10))), ((q8 1), .inl (cI, 600, .inl (fun _ => 0)))] H := hP
  have hD : va_D A [(h, .inr (10, [.ref o1, .ref o3, .ref o5, .ref o7, .null, .null, .null, .null, .null, .int 0])), (o1, .inr (1, [.ref (q2 0), .int 0])), ((q2 0), .inl (cI, 64, .inl (fun _ => 0))), (o3, .inr (1, [.ref (q4 0), .int 0])), ((q4 0), .inl (cI, 64, .inl (fun _ => 0))), (o5, .inr (0, [.ref (q6 0), .ref (q6 1), .ref (q6 2), .ref (q6 3), .int 0])), ((q6 0), .inl (cI, 40, .inl (fun _ => 0))), ((q6 1), .inl (cI, 40, .inl (fun _ => 0))), ((q6 2), .inl (cI, 40, .inl (fun _ => 0))), ((q6 3), .inl (cI, 40, .inl (fun _ => 0))), (o7, .inr (4, [.ref (q8 0), .ref (q8 1), .int 1])), ((q8 0), .inl (cI, 1000, .inl (upd (fun _ => 0) (0 : Int32).toNatClampNeg 10))), ((q8 1), .inl (cI, 600, .inl (fun _ => 0)))] := hD
  refine lv_aload_n hx hb d_Mach_init_52 rfl (lv_at hl 0 rfl) ?_
  refine va_new (ci := 5) (fs := [.null, .int 0]) (C := "ColonMachine$Out") (T := T_Out) (N := 2) hx hb hT i_Out t_Out tk_Out hown (hT _ kl_Mach_35) (hT _ ia_Out) (hT _ in_Out) hK hP hD hS hA rfl df_Out (by first | exact Nat.le_refl _ | exact Nat.le_of_ble_eq_true rfl) (by first | exact Nat.le_refl _ | exact Nat.le_of_ble_eq_true rfl) d_Mach_init_53 (fun o9 H hP hD hS => ?_)
  have hP : va_P D classes [(h, .inr (10, [.ref o1, .ref o3, .ref o5, .ref o7, .null, .null, .null, .null, .null, .int 0])), (o1, .inr (1, [.ref (q2 0), .int 0])), ((q2 0), .inl (cI, 64, .inl (fun _ => 0))), (o3, .inr (1, [.ref (q4 0), .int 0])), ((q4 0), .inl (cI, 64, .inl (fun _ => 0))), (o5, .inr (0, [.ref (q6 0), .ref (q6 1), .ref (q6 2), .ref (q6 3), .int 0])), ((q6 0), .inl (cI, 40, .inl (fun _ => 0))), ((q6 1), .inl (cI, 40, .inl (fun _ => 0))), ((q6 2), .inl (cI, 40, .inl (fun _ => 0))), ((q6 3), .inl (cI, 40, .inl (fun _ => 0))), (o7, .inr (4, [.ref (q8 0), .ref (q8 1), .int 1])), ((q8 0), .inl (cI, 1000, .inl (upd (fun _ => 0) (0 : Int32).toNatClampNeg 10))), ((q8 1), .inl (cI, 600, .inl (fun _ => 0))), (o9, .inr (5, [.null, .int 0]))] H := hP
  have hD : va_D A [(h, .inr (10, [.ref o1, .ref o3, .ref o5, .ref o7, .null, .null, .null, .null, .null, .int 0])), (o1, .inr (1, [.ref (q2 0), .int 0])), ((q2 0), .inl (cI, 64, .inl (fun _ => 0))), (o3, .inr (1, [.ref (q4 0), .int 0])), ((q4 0), .inl (cI, 64, .inl (fun _ => 0))), (o5, .inr (0, [.ref (q6 0), .ref (q6 1), .ref (q6 2), .ref (q6 3), .int 0])), ((q6 0), .inl (cI, 40, .inl (fun _ => 0))), ((q6 1), .inl (cI, 40, .inl (fun _ => 0))), ((q6 2), .inl (cI, 40, .inl (fun _ => 0))), ((q6 3), .inl (cI, 40, .inl (fun _ => 0))), (o7, .inr (4, [.ref (q8 0), .ref (q8 1), .int 1])), ((q8 0), .inl (cI, 1000, .inl (upd (fun _ => 0) (0 : Int32).toNatClampNeg 10))), ((q8 1), .inl (cI, 600, .inl (fun _ => 0))), (o9, .inr (5, [.null, .int 0]))] := hD
  refine lv_dup hx hb d_Mach_init_56 rfl ?_
  refine kN_cv (wr := [(h, .inr (10, [.ref o1, .ref o3, .ref o5, .ref o7, .null, .null, .null, .null, .null, .int 0])), (o1, .inr (1, [.ref (q2 0), .int 0])), ((q2 0), .inl (cI, 64, .inl (fun _ => 0))), (o3, .inr (1, [.ref (q4 0), .int 0])), ((q4 0), .inl (cI, 64, .inl (fun _ => 0))), (o5, .inr (0, [.ref (q6 0), .ref (q6 1), .ref (q6 2), .ref (q6 3), .int 0])), ((q6 0), .inl (cI, 40, .inl (fun _ => 0))), ((q6 1), .inl (cI, 40, .inl (fun _ => 0))), ((q6 2), .inl (cI, 40, .inl (fun _ => 0))), ((q6 3), .inl (cI, 40, .inl (fun _ => 0))), (o7, .inr (4, [.ref (q8 0), .ref (q8 1), .int 1])), ((q8 0), .inl (cI, 1000, .inl (upd (fun _ => 0) (0 : Int32).toNatClampNeg 10))), ((q8 1), .inl (cI, 600, .inl (fun _ => 0)))]) (fun u : Nat → Nat => [(h, .inr (10, [.ref o1, .ref o3, .ref o5, .ref o7, .null, .null, .null, .null, .null, .int 0])), (o1, .inr (1, [.ref (q2 0), .int 0])), ((q2 0), .inl (cI, 64, .inl (fun _ => 0))), (o3, .inr (1, [.ref (q4 0), .int 0])), ((q4 0), .inl (cI, 64, .inl (fun _ => 0))), (o5, .inr (0, [.ref (q6 0), .ref (q6 1), .ref (q6 2), .ref (q6 3), .int 0])), ((q6 0), .inl (cI, 40, .inl (fun _ => 0))), ((q6 1), .inl (cI, 40, .inl (fun _ => 0))), ((q6 2), .inl (cI, 40, .inl (fun _ => 0))), ((q6 3), .inl (cI, 40, .inl (fun _ => 0))), (o7, .inr (4, [.ref (q8 0), .ref (q8 1), .int 1])), ((q8 0), .inl (cI, 1000, .inl (upd (fun _ => 0) (0 : Int32).toNatClampNeg 10))), ((q8 1), .inl (cI, 600, .inl (fun _ => 0))), (o9, .inr (5, [.ref (u 0), .int 0])), ((u 0), .inl (cI, 800, .inl (fun _ => 0)))]) (zIN (wc := [(o9, .inr (5, [.null, .int 0]))]) (As := []) (rest := [.ref o9, .ref h]) (st0 := [.ref o9, .ref o9, .ref h]) ⟨hx, hb, hml, hown, hT⟩ (c_Out_init l D cI cJ cZ cW cT H.size o9) ⟨va_cnB 0 hT (tb_cons co_Out_init) rfl rfl rfl hE.1.2.1 (hT _ in_Out) vs_Out_init ⟨Nat.le_of_ble_eq_true rfl, Nat.le_of_ble_eq_true rfl⟩, rfl, hT _ im_Out_init⟩ hK hE hP hD hS hA [13] rfl rfl rfl hl.1 rfl (Nat.le_of_ble_eq_true rfl) d_Mach_init_57 ⟨(by first | exact Nat.le_refl _ | exact Nat.le_of_ble_eq_true rfl), (by first | exact Nat.le_refl _ | exact Nat.le_of_ble_eq_true rfl)⟩) hP hD hS hA [13] [0, 1, 2, 3, 4, 5, 6, 7, 8, 9, 10, 11, 12] rfl rfl rfl (by decide) [0, 1, 2, 3, 4, 5, 6, 7, 8, 9, 10, 11, 12, 13, 14] rfl (fun u => rfl) (fun q10 H locs _ hP hD hS => ?_)
  have hP : va_P D classes [(h, .inr (10, [.ref o1, .ref o3, .ref o5, .ref o7, .null, .null, .null, .null, .null, .int 0])), (o1, .inr (1, [.ref (q2 0), .int 0])), ((q2 0), .inl (cI, 64, .inl (fun _ => 0))), (o3, .inr (1, [.ref (q4 0), .int 0])), ((q4 0), .inl (cI, 64, .inl (fun _ => 0))), (o5, .inr (0, [.ref (q6 0), .ref (q6 1), .ref (q6 2), .ref (q6 3), .int 0])), ((q6 0), .inl (cI, 40, .inl (fun _ => 0))), ((q6 1), .inl (cI, 40, .inl (fun _ => 0))), ((q6 2), .inl (cI, 40, .inl (fun _ => 0))), ((q6 3), .inl (cI, 40, .inl (fun _ => 0))), (o7, .inr (4, [.ref (q8 0), .ref (q8 1), .int 1])), ((q8 0), .inl (cI, 1000, .inl (upd (fun _ => 0) (0 : Int32).toNatClampNeg 10))), ((q8 1), .inl (cI, 600, .inl (fun _ => 0))), (o9, .inr (5, [.ref (q10 0), .int 0])), ((q10 0), .inl (cI, 800, .inl (fun _ => 0)))] H := hP
  have hD : va_D A [(h, .inr (10, [.ref o1, .ref o3, .ref o5, .ref o7, .null, .null, .null, .null, .null, .int 0])), (o1, .inr (1, [.ref (q2 0), .int 0])), ((q2 0), .inl (cI, 64, .inl (fun _ => 0))), (o3, .inr (1, [.ref (q4 0), .int 0])), ((q4 0), .inl (cI, 64, .inl (fun _ => 0))), (o5, .inr (0, [.ref (q6 0), .ref (q6 1), .ref (q6 2), .ref (q6 3), .int 0])), ((q6 0), .inl (cI, 40, .inl (fun _ => 0))), ((q6 1), .inl (cI, 40, .inl (fun _ => 0))), ((q6 2), .inl (cI, 40, .inl (fun _ => 0))), ((q6 3), .inl (cI, 40, .inl (fun _ => 0))), (o7, .inr (4, [.ref (q8 0), .ref (q8 1), .int 1])), ((q8 0), .inl (cI, 1000, .inl (upd (fun _ => 0) (0 : Int32).toNatClampNeg 10))), ((q8 1), .inl (cI, 600, .inl (fun _ => 0))), (o9, .inr (5, [.ref (q10 0), .int 0])), ((q10 0), .inl (cI, 800, .inl (fun _ => 0)))] := hD
  refine va_putF (D := D) (v := .ref o9) (ty := (.object "ColonMachine$Out")) (C := "ColonMachine") (T := T_Mach) (N := 10) hx hb hT i_Mach t_Mach tk_Mach n_Mach hown hK hP hD hS 0 rfl rfl 4 (by decide) (hT _ fl_Mach_38) (fun _ h9 => h9) rfl hin rfl (by decide +kernel) rfl rfl (Nat.le_of_ble_eq_true rfl) d_Mach_init_60 (fun H locs hP hD hS => ?_)
  have hP : va_P D classes [(h, .inr (10, [.ref o1, .ref o3, .ref o5, .ref o7, .ref o9, .null, .null, .null, .null, .int 0])), (o1, .inr (1, [.ref (q2 0), .int 0])), ((q2 0), .inl (cI, 64, .inl (fun _ => 0))), (o3, .inr (1, [.ref (q4 0), .int 0])), ((q4 0), .inl (cI, 64, .inl (fun _ => 0))), (o5, .inr (0, [.ref (q6 0), .ref (q6 1), .ref (q6 2), .ref (q6 3), .int 0])), ((q6 0), .inl (cI, 40, .inl (fun _ => 0))), ((q6 1), .inl (cI, 40, .inl (fun _ => 0))), ((q6 2), .inl (cI, 40, .inl (fun _ => 0))), ((q6 3), .inl (cI, 40, .inl (fun _ => 0))), (o7, .inr (4, [.ref (q8 0), .ref (q8 1), .int 1])), ((q8 0), .inl (cI, 1000, .inl (upd (fun _ => 0) (0 : Int32).toNatClampNeg 10))), ((q8 1), .inl (cI, 600, .inl (fun _ => 0))), (o9, .inr (5, [.ref (q10 0), .int 0])), ((q10 0), .inl (cI, 800, .inl (fun _ => 0)))] H := hP
  have hD : va_D A [(h, .inr (10, [.ref o1, .ref o3, .ref o5, .ref o7, .ref o9, .null, .null, .null, .null, .int 0])), (o1, .inr (1, [.ref (q2 0), .int 0])), ((q2 0), .inl (cI, 64, .inl (fun _ => 0))), (o3, .inr (1, [.ref (q4 0), .int 0])), ((q4 0), .inl (cI, 64, .inl (fun _ => 0))), (o5, .inr (0, [.ref (q6 0), .ref (q6 1), .ref (q6 2), .ref (q6 3), .int 0])), ((q6 0), .inl (cI, 40, .inl (fun _ => 0))), ((q6 1), .inl (cI, 40, .inl (fun _ => 0))), ((q6 2), .inl (cI, 40, .inl (fun _ => 0))), ((q6 3), .inl (cI, 40, .inl (fun _ => 0))), (o7, .inr (4, [.ref (q8 0), .ref (q8 1), .int 1])), ((q8 0), .inl (cI, 1000, .inl (upd (fun _ => 0) (0 : Int32).toNatClampNeg 10))), ((q8 1), .inl (cI, 600, .inl (fun _ => 0))), (o9, .inr (5, [.ref (q10 0), .int 0])), ((q10 0), .inl (cI, 800, .inl (fun _ => 0)))] := hD
  refine lv_aload_n hx hb d_Mach_init_63 rfl (lv_at hl 0 rfl) ?_
  refine va_new (ci := 7) (fs := [.null, .int 0, .int 0, .int 0, .int 0]) (C := "ColonMachine$Text") (T := T_Text) (N := 5) hx hb hT i_Text t_Text tk_Text hown (hT _ kl_Mach_42) (hT _ ia_Text) (hT _ in_Text) hK hP hD hS hA rfl df_Text (by first | exact Nat.le_refl _ | exact Nat.le_of_ble_eq_true rfl) (by first | exact Nat.le_refl _ | exact Nat.le_of_ble_eq_true rfl) d_Mach_init_64 (fun o11 H hP hD hS => ?_)
  have hP : va_P D classes [(h, .inr (10, [.ref o1, .ref o3, .ref o5, .ref o7, .ref o9, .null, .null, .null, .null, .int 0])), (o1, .inr (1, [.ref (q2 0), .int 0])), ((q2 0), .inl (cI, 64, .inl (fun _ => 0))), (o3, .inr (1, [.ref (q4 0), .int 0])), ((q4 0), .inl (cI, 64, .inl (fun _ => 0))), (o5, .inr (0, [.ref (q6 0), .ref (q6 1), .ref (q6 2), .ref (q6 3), .int 0])), ((q6 0), .inl (cI, 40, .inl (fun _ => 0))), ((q6 1), .inl (cI, 40, .inl (fun _ => 0))), ((q6 2), .inl (cI, 40, .inl (fun _ => 0))), ((q6 3), .inl (cI, 40, .inl (fun _ => 0))), (o7, .inr (4, [.ref (q8 0), .ref (q8 1), .int 1])), ((q8 0), .inl (cI, 1000, .inl (upd (fun _ => 0) (0 : Int32).toNatClampNeg 10))), ((q8 1), .inl (cI, 600, .inl (fun _ => 0))), (o9, .inr (5, [.ref (q10 0), .int 0])), ((q10 0), .inl (cI, 800, .inl (fun _ => 0))), (o11, .inr (7, [.null, .int 0, .int 0, .int 0, .int 0]))] H := hP
  have hD : va_D A [(h, .inr (10, [.ref o1, .ref o3, .ref o5, .ref o7, .ref o9, .null, .null, .null, .null, .int 0])), (o1, .inr (1, [.ref (q2 0), .int 0])), ((q2 0), .inl (cI, 64, .inl (fun _ => 0))), (o3, .inr (1, [.ref (q4 0), .int 0])), ((q4 0), .inl (cI, 64, .inl (fun _ => 0))), (o5, .inr (0, [.ref (q6 0), .ref (q6 1), .ref (q6 2), .ref (q6 3), .int 0])), ((q6 0), .inl (cI, 40, .inl (fun _ => 0))), ((q6 1), .inl (cI, 40, .inl (fun _ => 0))), ((q6 2), .inl (cI, 40, .inl (fun _ => 0))), ((q6 3), .inl (cI, 40, .inl (fun _ => 0))), (o7, .inr (4, [.ref (q8 0), .ref (q8 1), .int 1])), ((q8 0), .inl (cI, 1000, .inl (upd (fun _ => 0) (0 : Int32).toNatClampNeg 10))), ((q8 1), .inl (cI, 600, .inl (fun _ => 0))), (o9, .inr (5, [.ref (q10 0), .int 0])), ((q10 0), .inl (cI, 800, .inl (fun _ => 0))), (o11, .inr (7, [.null, .int 0, .int 0, .int 0, .int 0]))] := hD
  refine lv_dup hx hb d_Mach_init_67 rfl ?_
  refine kN_cv (wr := [(h, .inr (10, [.ref o1, .ref o3, .ref o5, .ref o7, .ref o9, .null, .null, .null, .null, .int 0])), (o1, .inr (1, [.ref (q2 0), .int 0])), ((q2 0), .inl (cI, 64, .inl (fun _ => 0))), (o3, .inr (1, [.ref (q4 0), .int 0])), ((q4 0), .inl (cI, 64, .inl (fun _ => 0))), (o5, .inr (0, [.ref (q6 0), .ref (q6 1), .ref (q6 2), .ref (q6 3), .int 0])), ((q6 0), .inl (cI, 40, .inl (fun _ => 0))), ((q6 1), .inl (cI, 40, .inl (fun _ => 0))), ((q6 2), .inl (cI, 40, .inl (fun _ => 0))), ((q6 3), .inl (cI, 40, .inl (fun _ => 0))), (o7, .inr (4, [.ref (q8 0), .ref (q8 1), .int 1])), ((q8 0), .inl (cI, 1000, .inl (upd (fun _ => 0) (0 : Int32).toNatClampNeg 10))), ((q8 1), .inl (cI, 600, .inl (fun _ => 0))), (o9, .inr (5, [.ref (q10 0), .int 0])), ((q10 0), .inl (cI, 800, .inl (fun _ => 0)))]) (fun u : Nat → Nat => [(h, .inr (10, [.ref o1, .ref o3, .ref o5, .ref o7, .ref o9, .null, .null, .null, .null, .int 0])), (o1, .inr (1, [.ref (q2 0), .int 0])), ((q2 0), .inl (cI, 64, .inl (fun _ => 0))), (o3, .inr (1, [.ref (q4 0), .int 0])), ((q4 0), .inl (cI, 64, .inl (fun _ => 0))), (o5, .inr (0, [.ref (q6 0), .ref (q6 1), .ref (q6 2), .ref (q6 3), .int 0])), ((q6 0), .inl (cI, 40, .inl (fun _ => 0))), ((q6 1), .inl (cI, 40, .inl (fun _ => 0))), ((q6 2), .inl (cI, 40, .inl (fun _ => 0))), ((q6 3), .inl (cI, 40, .inl (fun _ => 0))), (o7, .inr (4, [.ref (q8 0), .ref (q8 1), .int 1])), ((q8 0), .inl (cI, 1000, .inl (upd (fun _ => 0) (0 : Int32).toNatClampNeg 10))), ((q8 1), .inl (cI, 600, .inl (fun _ => 0))), (o9, .inr (5, [.ref (q10 0), .int 0])), ((q10 0), .inl (cI, 800, .inl (fun _ => 0))), (o11, .inr (7, [.ref (u 0), .int 0, .int 0, .int 0, .int 0])), ((u 0), .inl (cI, 500, .inl (fun _ => 0)))]) (zIN (wc := [(o11, .inr (7, [.null, .int 0, .int 0, .int 0, .int 0]))]) (As := []) (rest := [.ref o11, .ref h]) (st0 := [.ref o11, .ref o11, .ref h]) ⟨hx, hb, hml, hown, hT⟩ (c_Text_init l D cI cJ cZ cW cT H.size o11) ⟨va_cnB 0 hT (tb_cons co_Text_init) rfl rfl rfl hE.1.2.2.1 (hT _ in_Text) vs_Text_init ⟨Nat.le_of_ble_eq_true rfl, Nat.le_of_ble_eq_true rfl⟩, rfl, hT _ im_Text_init⟩ hK hE hP hD hS hA [15] rfl rfl rfl hl.1 rfl (Nat.le_of_ble_eq_true rfl) d_Mach_init_68 ⟨(by first | exact Nat.le_refl _ | exact Nat.le_of_ble_eq_true rfl), (by first | exact Nat.le_refl _ | exact Nat.le_of_ble_eq_true rfl)⟩) hP hD hS hA [15] [0, 1, 2, 3, 4, 5, 6, 7, 8, 9, 10, 11, 12, 13, 14] rfl rfl rfl (by decide) [0, 1, 2, 3, 4, 5, 6, 7, 8, 9, 10, 11, 12, 13, 14, 15, 16] rfl (fun u => rfl) (fun q12 H locs _ hP hD hS => ?_)
  have hP : va_P D classes [(h, .inr (10, [.ref o1, .ref o3, .ref o5, .ref o7, .ref o9, .null, .null, .null, .null, .int 0])), (o1, .inr (1, [.ref (q2 0), .int 0])), ((q2 0), .inl (cI, 64, .inl (fun _ => 0))), (o3, .inr (1, [.ref (q4 0), .int 0])), ((q4 0), .inl (cI, 64, .inl (fun _ => 0))), (o5, .inr (0, [.ref (q6 0), .ref (q6 1), .ref (q6 2), .ref (q6 3), .int 0])), ((q6 0), .inl (cI, 40, .inl (fun _ => 0))), ((q6 1), .inl (cI, 40, .inl (fun _ => 0))), ((q6 2), .inl (cI, 40, .inl (fun _ => 0))), ((q6 3), .inl (cI, 40, .inl (fun _ => 0))), (o7, .inr (4, [.ref (q8 0), .ref (q8 1), .int 1])), ((q8 0), .inl (cI, 1000, .inl (upd (fun _ => 0) (0 : Int32).toNatClampNeg 10))), ((q8 1), .inl (cI, 600, .inl (fun _ => 0))), (o9, .inr (5, [.ref (q10 0), .int 0])), ((q10 0), .inl (cI, 800, .inl (fun _ => 0))), (o11, .inr (7, [.ref (q12 0), .int 0, .int 0, .int 0, .int 0])), ((q12 0), .inl (cI, 500, .inl (fun _ => 0)))] H := hP
  have hD : va_D A [(h, .inr (10, [.ref o1, .ref o3, .ref o5, .ref o7, .ref o9, .null, .null, .null, .null, .int 0])), (o1, .inr (1, [.ref (q2 0), .int 0])), ((q2 0), .inl (cI, 64, .inl (fun _ => 0))), (o3, .inr (1, [.ref (q4 0), .int 0])), ((q4 0), .inl (cI, 64, .inl (fun _ => 0))), (o5, .inr (0, [.ref (q6 0), .ref (q6 1), .ref (q6 2), .ref (q6 3), .int 0])), ((q6 0), .inl (cI, 40, .inl (fun _ => 0))), ((q6 1), .inl (cI, 40, .inl (fun _ => 0))), ((q6 2), .inl (cI, 40, .inl (fun _ => 0))), ((q6 3), .inl (cI, 40, .inl (fun _ => 0))), (o7, .inr (4, [.ref (q8 0), .ref (q8 1), .int 1])), ((q8 0), .inl (cI, 1000, .inl (upd (fun _ => 0) (0 : Int32).toNatClampNeg 10))), ((q8 1), .inl (cI, 600, .inl (fun _ => 0))), (o9, .inr (5, [.ref (q10 0), .int 0])), ((q10 0), .inl (cI, 800, .inl (fun _ => 0))), (o11, .inr (7, [.ref (q12 0), .int 0, .int 0, .int 0, .int 0])), ((q12 0), .inl (cI, 500, .inl (fun _ => 0)))] := hD
  refine va_putF (D := D) (v := .ref o11) (ty := (.object "ColonMachine$Text")) (C := "ColonMachine") (T := T_Mach) (N := 10) hx hb hT i_Mach t_Mach tk_Mach n_Mach hown hK hP hD hS 0 rfl rfl 5 (by decide) (hT _ fl_Mach_45) (fun _ h9 => h9) rfl hin rfl (by decide +kernel) rfl rfl (Nat.le_of_ble_eq_true rfl) d_Mach_init_71 (fun H locs hP hD hS => ?_)
  have hP : va_P D classes [(h, .inr (10, [.ref o1, .ref o3, .ref o5, .ref o7, .ref o9, .ref o11, .null, .null, .null, .int 0])), (o1, .inr (1, [.ref (q2 0), .int 0])), ((q2 0), .inl (cI, 64, .inl (fun _ => 0))), (o3, .inr (1, [.ref (q4 0), .int 0])), ((q4 0), .inl (cI, 64, .inl (fun _ => 0))), (o5, .inr (0, [.ref (q6 0), .ref (q6 1), .ref (q6 2), .ref (q6 3), .int 0])), ((q6 0), .inl (cI, 40, .inl (fun _ => 0))), ((q6 1), .inl (cI, 40, .inl (fun _ => 0))), ((q6 2), .inl (cI, 40, .inl (fun _ => 0))), ((q6 3), .inl (cI, 40, .inl (fun _ => 0))), (o7, .inr (4, [.ref (q8 0), .ref (q8 1), .int 1])), ((q8 0), .inl (cI, 1000, .inl (upd (fun _ => 0) (0 : Int32).toNatClampNeg 10))), ((q8 1), .inl (cI, 600, .inl (fun _ => 0))), (o9, .inr (5, [.ref (q10 0), .int 0])), ((q10 0), .inl (cI, 800, .inl (fun _ => 0))), (o11, .inr (7, [.ref (q12 0), .int 0, .int 0, .int 0, .int 0])), ((q12 0), .inl (cI, 500, .inl (fun _ => 0)))] H := hP
  have hD : va_D A [(h, .inr (10, [.ref o1, .ref o3, .ref o5, .ref o7, .ref o9, .ref o11, .null, .null, .null, .int 0])), (o1, .inr (1, [.ref (q2 0), .int 0])), ((q2 0), .inl (cI, 64, .inl (fun _ => 0))), (o3, .inr (1, [.ref (q4 0), .int 0])), ((q4 0), .inl (cI, 64, .inl (fun _ => 0))), (o5, .inr (0, [.ref (q6 0), .ref (q6 1), .ref (q6 2), .ref (q6 3), .int 0])), ((q6 0), .inl (cI, 40, .inl (fun _ => 0))), ((q6 1), .inl (cI, 40, .inl (fun _ => 0))), ((q6 2), .inl (cI, 40, .inl (fun _ => 0))), ((q6 3), .inl (cI, 40, .inl (fun _ => 0))), (o7, .inr (4, [.ref (q8 0), .ref (q8 1), .int 1])), ((q8 0), .inl (cI, 1000, .inl (upd (fun _ => 0) (0 : Int32).toNatClampNeg 10))), ((q8 1), .inl (cI, 600, .inl (fun _ => 0))), (o9, .inr (5, [.ref (q10 0), .int 0])), ((q10 0), .inl (cI, 800, .inl (fun _ => 0))), (o11, .inr (7, [.ref (q12 0), .int 0, .int 0, .int 0, .int 0])), ((q12 0), .inl (cI, 500, .inl (fun _ => 0)))] := hD
  refine lv_aload_n hx hb d_Mach_init_74 rfl (lv_at hl 0 rfl) ?_
  refine va_new (ci := 9) (fs := [.null, .int 0]) (C := "ColonMachine$Words") (T := T_Words) (N := 2) hx hb hT i_Words t_Words tk_Words hown (hT _ kl_Mach_49) (hT _ ia_Words) (hT _ in_Words) hK hP hD hS hA rfl df_Words (by first | exact Nat.le_refl _ | exact Nat.le_of_ble_eq_true rfl) (by first | exact Nat.le_refl _ | exact Nat.le_of_ble_eq_true rfl) d_Mach_init_75 (fun o13 H hP hD hS => ?_)
  have hP : va_P D classes [(h, .inr (10, [.ref o1, .ref o3, .ref o5, .ref o7, .ref o9, .ref o11, .null, .null, .null, .int 0])), (o1, .inr (1, [.ref (q2 0), .int 0])), ((q2 0), .inl (cI, 64, .inl (fun _ => 0))), (o3, .inr (1, [.ref (q4 0), .int 0])), ((q4 0), .inl (cI, 64, .inl (fun _ => 0))), (o5, .inr (0, [.ref (q6 0), .ref (q6 1), .ref (q6 2), .ref (q6 3), .int 0])), ((q6 0), .inl (cI, 40, .inl (fun _ => 0))), ((q6 1), .inl (cI, 40, .inl (fun _ => 0))), ((q6 2), .inl (cI, 40, .inl (fun _ => 0))), ((q6 3), .inl (cI, 40, .inl (fun _ => 0))), (o7, .inr (4, [.ref (q8 0), .ref (q8 1), .int 1])), ((q8 0), .inl (cI, 1000, .inl (upd (fun _ => 0) (0 : Int32).toNatClampNeg 10))), ((q8 1), .inl (cI, 600, .inl (fun _ => 0))), (o9, .inr (5, [.ref (q10 0), .int 0])), ((q10 0), .inl (cI, 800, .inl (fun _ => 0))), (o11, .inr (7, [.ref (q12 0), .int 0, .int 0, .int 0, .int 0])), ((q12 0), .inl (cI, 500, .inl (fun _ => 0))), (o13, .inr (9, [.null, .int 0]))] H := hP
  have hD : va_D A [(h, .inr (10, [.ref o1, .ref o3, .ref o5, .ref o7, .ref o9, .ref o11, .null, .null, .null, .int 0])), (o1, .inr (1, [.ref (q2 0), .int 0])), ((q2 0), .inl (cI, 64, .inl (fun _ => 0))), (o3, .inr (1, [.ref (q4 0), .int 0])), ((q4 0), .inl (cI, 64, .inl (fun _ => 0))), (o5, .inr (0, [.ref (q6 0), .ref (q6 1), .ref (q6 2), .ref (q6 3), .int 0])), ((q6 0), .inl (cI, 40, .inl (fun _ => 0))), ((q6 1), .inl (cI, 40, .inl (fun _ => 0))), ((q6 2), .inl (cI, 40, .inl (fun _ => 0))), ((q6 3), .inl (cI, 40, .inl (fun _ => 0))), (o7, .inr (4, [.ref (q8 0), .ref (q8 1), .int 1])), ((q8 0), .inl (cI, 1000, .inl (upd (fun _ => 0) (0 : Int32).toNatClampNeg 10))), ((q8 1), .inl (cI, 600, .inl (fun _ => 0))), (o9, .inr (5, [.ref (q10 0), .int 0])), ((q10 0), .inl (cI, 800, .inl (fun _ => 0))), (o11, .inr (7, [.ref (q12 0), .int 0, .int 0, .int 0, .int 0])), ((q12 0), .inl (cI, 500, .inl (fun _ => 0))), (o13, .inr (9, [.null, .int 0]))] := hD
  refine lv_dup hx hb d_Mach_init_78 rfl ?_
  refine kN_cv (wr := [(h, .inr (10, [.ref o1, .ref o3, .ref o5, .ref o7, .ref o9, .ref o11, .null, .null, .null, .int 0])), (o1, .inr (1, [.ref (q2 0), .int 0])), ((q2 0), .inl (cI, 64, .inl (fun _ => 0))), (o3, .inr (1, [.ref (q4 0), .int 0])), ((q4 0), .inl (cI, 64, .inl (fun _ => 0))), (o5, .inr (0, [.ref (q6 0), .ref (q6 1), .ref (q6 2), .ref (q6 3), .int 0])), ((q6 0), .inl (cI, 40, .inl (fun _ => 0))), ((q6 1), .inl (cI, 40, .inl (fun _ => 0))), ((q6 2), .inl (cI, 40, .inl (fun _ => 0))), ((q6 3), .inl (cI, 40, .inl (fun _ => 0))), (o7, .inr (4, [.ref (q8 0), .ref (q8 1), .int 1])), ((q8 0), .inl (cI, 1000, .inl (upd (fun _ => 0) (0 : Int32).toNatClampNeg 10))), ((q8 1), .inl (cI, 600, .inl (fun _ => 0))), (o9, .inr (5, [.ref (q10 0), .int 0])), ((q10 0), .inl (cI, 800, .inl (fun _ => 0))), (o11, .inr (7, [.ref (q12 0), .int 0, .int 0, .int 0, .int 0])), ((q12 0), .inl (cI, 500, .inl (fun _ => 0)))]) (fun u : Nat → Nat => [(h, .inr (10, [.ref o1, .ref o3, .ref o5, .ref o7, .ref o9, .ref o11, .null, .null, .null, .int 0])), (o1, .inr (1, [.ref (q2 0), .int 0])), ((q2 0), .inl (cI, 64, .inl (fun _ => 0))), (o3, .inr (1, [.ref (q4 0), .int 0])), ((q4 0), .inl (cI, 64, .inl (fun _ => 0))), (o5, .inr (0, [.ref (q6 0), .ref (q6 1), .ref (q6 2), .ref (q6 3), .int 0])), ((q6 0), .inl (cI, 40, .inl (fun _ => 0))), ((q6 1), .inl (cI, 40, .inl (fun _ => 0))), ((q6 2), .inl (cI, 40, .inl (fun _ => 0))), ((q6 3), .inl (cI, 40, .inl (fun _ => 0))), (o7, .inr (4, [.ref (q8 0), .ref (q8 1), .int 1])), ((q8 0), .inl (cI, 1000, .inl (upd (fun _ => 0) (0 : Int32).toNatClampNeg 10))), ((q8 1), .inl (cI, 600, .inl (fun _ => 0))), (o9, .inr (5, [.ref (q10 0), .int 0])), ((q10 0), .inl (cI, 800, .inl (fun _ => 0))), (o11, .inr (7, [.ref (q12 0), .int 0, .int 0, .int 0, .int 0])), ((q12 0), .inl (cI, 500, .inl (fun _ => 0))), (o13, .inr (9, [.ref (u 0), .int 0])), ((u 0), .inl (cW, 80, .inr (.inr (.inr (.inr (fun _ => none))))))]) (zIN (wc := [(o13, .inr (9, [.null, .int 0]))]) (As := []) (rest := [.ref o13, .ref h]) (st0 := [.ref o13, .ref o13, .ref h]) ⟨hx, hb, hml, hown, hT⟩ (c_Words_init l D cI cJ cZ cW cT H.size o13) ⟨va_cnB 0 hT (tb_cons co_Words_init) rfl rfl rfl hE.1.2.2.2.1 (hT _ in_Words) vs_Words_init ⟨Nat.le_of_ble_eq_true rfl, Nat.le_of_ble_eq_true rfl⟩, rfl, hT _ im_Words_init⟩ hK hE hP hD hS hA [17] rfl rfl rfl hl.1 rfl (Nat.le_of_ble_eq_true rfl) d_Mach_init_79 ⟨(by first | exact Nat.le_refl _ | exact Nat.le_of_ble_eq_true rfl), (by first | exact Nat.le_refl _ | exact Nat.le_of_ble_eq_true rfl)⟩) hP hD hS hA [17] [0, 1, 2, 3, 4, 5, 6, 7, 8, 9, 10, 11, 12, 13, 14, 15, 16] rfl rfl rfl (by decide) [0, 1, 2, 3, 4, 5, 6, 7, 8, 9, 10, 11, 12, 13, 14, 15, 16, 17, 18] rfl (fun u => rfl) (fun q14 H locs _ hP hD hS => ?_)
  have hP : va_P D classes [(h, .inr (10, [.ref o1, .ref o3, .ref o5, .ref o7, .ref o9, .ref o11, .null, .null, .null, .int 0])), (o1, .inr (1, [.ref (q2 0), .int 0])), ((q2 0), .inl (cI, 64, .inl (fun _ => 0))), (o3, .inr (1, [.ref (q4 0), .int 0])), ((q4 0), .inl (cI, 64, .inl (fun _ => 0))), (o5, .inr (0, [.ref (q6 0), .ref (q6 1), .ref (q6 2), .ref (q6 3), .int 0])), ((q6 0), .inl (cI, 40, .inl (fun _ => 0))), ((q6 1), .inl (cI, 40, .inl (fun _ => 0))), ((q6 2), .inl (cI, 40, .inl (fun _ => 0))), ((q6 3), .inl (cI, 40, .inl (fun _ => 0))), (o7, .inr (4, [.ref (q8 0), .ref (q8 1), .int 1])), ((q8 0), .inl (cI, 1000, .inl (upd (fun _ => 0) (0 : Int32).toNatClampNeg 10))), ((q8 1), .inl (cI, 600, .inl (fun _ => 0))), (o9, .inr (5, [.ref (q10 0), .int 0])), ((q10 0), .inl (cI, 800, .inl (fun _ => 0))), (o11, .inr (7, [.ref (q12 0), .int 0, .int 0, .int 0, .int 0])), ((q12 0), .inl (cI, 500, .inl (fun _ => 0))), (o13, .inr (9, [.ref (q14 0), .int 0])), ((q14 0), .inl (cW, 80, .inr (.inr (.inr (.inr (fun _ => none))))))] H := hP
  have hD : va_D A [(h, .inr (10, [.ref o1, .ref o3, .ref o5, .ref o7, .ref o9, .ref o11, .null, .null, .null, .int 0])), (o1, .inr (1, [.ref (q2 0), .int 0])), ((q2 0), .inl (cI, 64, .inl (fun _ => 0))), (o3, .inr (1, [.ref (q4 0), .int 0])), ((q4 0), .inl (cI, 64, .inl (fun _ => 0))), (o5, .inr (0, [.ref (q6 0), .ref (q6 1), .ref (q6 2), .ref (q6 3), .int 0])), ((q6 0), .inl (cI, 40, .inl (fun _ => 0))), ((q6 1), .inl (cI, 40, .inl (fun _ => 0))), ((q6 2), .inl (cI, 40, .inl (fun _ => 0))), ((q6 3), .inl (cI, 40, .inl (fun _ => 0))), (o7, .inr (4, [.ref (q8 0), .ref (q8 1), .int 1])), ((q8 0), .inl (cI, 1000, .inl (upd (fun _ => 0) (0 : Int32).toNatClampNeg 10))), ((q8 1), .inl (cI, 600, .inl (fun _ => 0))), (o9, .inr (5, [.ref (q10 0), .int 0])), ((q10 0), .inl (cI, 800, .inl (fun _ => 0))), (o11, .inr (7, [.ref (q12 0), .int 0, .int 0, .int 0, .int 0])), ((q12 0), .inl (cI, 500, .inl (fun _ => 0))), (o13, .inr (9, [.ref (q14 0), .int 0])), ((q14 0), .inl (cW, 80, .inr (.inr (.inr (.inr (fun _ => none))))))] := hD
  refine va_putF (D := D) (v := .ref o13) (ty := (.object "ColonMachine$Words")) (C := "ColonMachine") (T := T_Mach) (N := 10) hx hb hT i_Mach t_Mach tk_Mach n_Mach hown hK hP hD hS 0 rfl rfl 6 (by decide) (hT _ fl_Mach_52) (fun _ h9 => h9) rfl hin rfl (by decide +kernel) rfl rfl (Nat.le_of_ble_eq_true rfl) d_Mach_init_82 (fun H locs hP hD hS => ?_)
  have hP : va_P D classes [(h, .inr (10, [.ref o1, .ref o3, .ref o5, .ref o7, .ref o9, .ref o11, .ref o13, .null, .null, .int 0])), (o1, .inr (1, [.ref (q2 0), .int 0])), ((q2 0), .inl (cI, 64, .inl (fun _ => 0))), (o3, .inr (1, [.ref (q4 0), .int 0])), ((q4 0), .inl (cI, 64, .inl (fun _ => 0))), (o5, .inr (0, [.ref (q6 0), .ref (q6 1), .ref (q6 2), .ref (q6 3), .int 0])), ((q6 0), .inl (cI, 40, .inl (fun _ => 0))), ((q6 1), .inl (cI, 40, .inl (fun _ => 0))), ((q6 2), .inl (cI, 40, .inl (fun _ => 0))), ((q6 3), .inl (cI, 40, .inl (fun _ => 0))), (o7, .inr (4, [.ref (q8 0), .ref (q8 1), .int 1])), ((q8 0), .inl (cI, 1000, .inl (upd (fun _ => 0) (0 : Int32).toNatClampNeg 10))), ((q8 1), .inl (cI, 600, .inl (fun _ => 0))), (o9, .inr (5, [.ref (q10 0), .int 0])), ((q10 0), .inl (cI, 800, .inl (fun _ => 0))), (o11, .inr (7, [.ref (q12 0), .int 0, .int 0, .int 0, .int 0])), ((q12 0), .inl (cI, 500, .inl (fun _ => 0))), (o13, .inr (9, [.ref (q14 0), .int 0])), ((q14 0), .inl (cW, 80, .inr (.inr (.inr (.inr (fun _ => none))))))] H := hP
  have hD : va_D A [(h, .inr (10, [.ref o1, .ref o3, .ref o5, .ref o7, .ref o9, .ref o11, .ref o13, .null, .null, .int 0])), (o1, .inr (1, [.ref (q2 0), .int 0])), ((q2 0), .inl (cI, 64, .inl (fun _ => 0))), (o3, .inr (1, [.ref (q4 0), .int 0])), ((q4 0), .inl (cI, 64, .inl (fun _ => 0))), (o5, .inr (0, [.ref (q6 0), .ref (q6 1), .ref (q6 2), .ref (q6 3), .int 0])), ((q6 0), .inl (cI, 40, .inl (fun _ => 0))), ((q6 1), .inl (cI, 40, .inl (fun _ => 0))), ((q6 2), .inl (cI, 40, .inl (fun _ => 0))), ((q6 3), .inl (cI, 40, .inl (fun _ => 0))), (o7, .inr (4, [.ref (q8 0), .ref (q8 1), .int 1])), ((q8 0), .inl (cI, 1000, .inl (upd (fun _ => 0) (0 : Int32).toNatClampNeg 10))), ((q8 1), .inl (cI, 600, .inl (fun _ => 0))), (o9, .inr (5, [.ref (q10 0), .int 0])), ((q10 0), .inl (cI, 800, .inl (fun _ => 0))), (o11, .inr (7, [.ref (q12 0), .int 0, .int 0, .int 0, .int 0])), ((q12 0), .inl (cI, 500, .inl (fun _ => 0))), (o13, .inr (9, [.ref (q14 0), .int 0])), ((q14 0), .inl (cW, 80, .inr (.inr (.inr (.inr (fun _ => none))))))] := hD
  refine lv_aload_n hx hb d_Mach_init_85 rfl (lv_at hl 0 rfl) ?_
  refine va_new (ci := 2) (fs := [.null, .null, .null, .null, .null, .int 0, .int 0, .long 0, .null, .null]) (C := "ColonMachine$Compiler") (T := T_Compiler) (N := 10) hx hb hT i_Compiler t_Compiler tk_Compiler hown (hT _ kl_Mach_56) (hT _ ia_Compiler) (hT _ in_Compiler) hK hP hD hS hA rfl df_Compiler (by first | exact Nat.le_refl _ | exact Nat.le_of_ble_eq_true rfl) (by first | exact Nat.le_refl _ | exact Nat.le_of_ble_eq_true rfl) d_Mach_init_86 (fun o15 H hP hD hS => ?_)
  have hP : va_P D classes [(h, .inr (10, [.ref o1, .ref o3, .ref o5, .ref o7, .ref o9, .ref o11, .ref o13, .null, .null, .int 0])), (o1, .inr (1, [.ref (q2 0), .int 0])), ((q2 0), .inl (cI, 64, .inl (fun _ => 0))), (o3, .inr (1, [.ref (q4 0), .int 0])), ((q4 0), .inl (cI, 64, .inl (fun _ => 0))), (o5, .inr (0, [.ref (q6 0), .ref (q6 1), .ref (q6 2), .ref (q6 3), .int 0])), ((q6 0), .inl (cI, 40, .inl (fun _ => 0))), ((q6 1), .inl (cI, 40, .inl (fun _ => 0))), ((q6 2), .inl (cI, 40, .inl (fun _ => 0))), ((q6 3), .inl (cI, 40, .inl (fun _ => 0))), (o7, .inr (4, [.ref (q8 0), .ref (q8 1), .int 1])), ((q8 0), .inl (cI, 1000, .inl (upd (fun _ => 0) (0 : Int32).toNatClampNeg 10))), ((q8 1), .inl (cI, 600, .inl (fun _ => 0))), (o9, .inr (5, [.ref (q10 0), .int 0])), ((q10 0), .inl (cI, 800, .inl (fun _ => 0))), (o11, .inr (7, [.ref (q12 0), .int 0, .int 0, .int 0, .int 0])), ((q12 0), .inl (cI, 500, .inl (fun _ => 0))), (o13, .inr (9, [.ref (q14 0), .int 0])), ((q14 0), .inl (cW, 80, .inr (.inr (.inr (.inr (fun _ => none)))))), (o15, .inr (2, [.null, .null, .null, .null, .null, .int 0, .int 0, .long 0, .null, .null]))] H := hP
  have hD : va_D A [(h, .inr (10, [.ref o1, .ref o3, .ref o5, .ref o7, .ref o9, .ref o11, .ref o13, .null, .null, .int 0])), (o1, .inr (1, [.ref (q2 0), .int 0])), ((q2 0), .inl (cI, 64, .inl (fun _ => 0))), (o3, .inr (1, [.ref (q4 0), .int 0])), ((q4 0), .inl (cI, 64, .inl (fun _ => 0))), (o5, .inr (0, [.ref (q6 0), .ref (q6 1), .ref (q6 2), .ref (q6 3), .int 0])), ((q6 0), .inl (cI, 40, .inl (fun _ => 0))), ((q6 1), .inl (cI, 40, .inl (fun _ => 0))), ((q6 2), .inl (cI, 40, .inl (fun _ => 0))), ((q6 3), .inl (cI, 40, .inl (fun _ => 0))), (o7, .inr (4, [.ref (q8 0), .ref (q8 1), .int 1])), ((q8 0), .inl (cI, 1000, .inl (upd (fun _ => 0) (0 : Int32).toNatClampNeg 10))), ((q8 1), .inl (cI, 600, .inl (fun _ => 0))), (o9, .inr (5, [.ref (q10 0), .int 0])), ((q10 0), .inl (cI, 800, .inl (fun _ => 0))), (o11, .inr (7, [.ref (q12 0), .int 0, .int 0, .int 0, .int 0])), ((q12 0), .inl (cI, 500, .inl (fun _ => 0))), (o13, .inr (9, [.ref (q14 0), .int 0])), ((q14 0), .inl (cW, 80, .inr (.inr (.inr (.inr (fun _ => none)))))), (o15, .inr (2, [.null, .null, .null, .null, .null, .int 0, .int 0, .long 0, .null, .null]))] := hD
  refine lv_dup hx hb d_Mach_init_89 rfl ?_
  refine lv_aload_n hx hb d_Mach_init_90 rfl (lv_at hl 0 rfl) ?_
  refine va_get (D := D) (v := .ref o11) (C := "ColonMachine") (T := T_Mach) (N := 10) hx hb hT i_Mach hown hK hP 0 rfl rfl 5 (by decide) (hT _ fl_Mach_45) (fun _ h9 => h9) rfl d_Mach_init_91 ?_
  refine lv_aload_n hx hb d_Mach_init_94 rfl (lv_at hl 0 rfl) ?_
  refine va_get (D := D) (v := .ref o13) (C := "ColonMachine") (T := T_Mach) (N := 10) hx hb hT i_Mach hown hK hP 0 rfl rfl 6 (by decide) (hT _ fl_Mach_52) (fun _ h9 => h9) rfl d_Mach_init_95 ?_
  refine lv_aload_n hx hb d_Mach_init_98 rfl (lv_at hl 0 rfl) ?_
  refine va_get (D := D) (v := .ref o7) (C := "ColonMachine") (T := T_Mach) (N := 10) hx hb hT i_Mach hown hK hP 0 rfl rfl 3 (by decide) (hT _ fl_Mach_31) (fun _ h9 => h9) rfl d_Mach_init_99 ?_
  refine lv_aload_n hx hb d_Mach_init_102 rfl (lv_at hl 0 rfl) ?_
  refine va_get (D := D) (v := .ref o9) (C := "ColonMachine") (T := T_Mach) (N := 10) hx hb hT i_Mach hown hK hP 0 rfl rfl 4 (by decide) (hT _ fl_Mach_38) (fun _ h9 => h9) rfl d_Mach_init_103 ?_
  refine kN_cv (wr := [(h, .inr (10, [.ref o1, .ref o3, .ref o5, .ref o7, .ref o9, .ref o11, .ref o13, .null, .null, .int 0])), (o1, .inr (1, [.ref (q2 0), .int 0])), ((q2 0), .inl (cI, 64, .inl (fun _ => 0))), (o3, .inr (1, [.ref (q4 0), .int 0])), ((q4 0), .inl (cI, 64, .inl (fun _ => 0))), (o5, .inr (0, [.ref (q6 0), .ref (q6 1), .ref (q6 2), .ref (q6 3), .int 0])), ((q6 0), .inl (cI, 40, .inl (fun _ => 0))), ((q6 1), .inl (cI, 40, .inl (fun _ => 0))), ((q6 2), .inl (cI, 40, .inl (fun _ => 0))), ((q6 3), .inl (cI, 40, .inl (fun _ => 0))), (o7, .inr (4, [.ref (q8 0), .ref (q8 1), .int 1])), ((q8 0), .inl (cI, 1000, .inl (upd (fun _ => 0) (0 : Int32).toNatClampNeg 10))), ((q8 1), .inl (cI, 600, .inl (fun _ => 0))), (o9, .inr (5, [.ref (q10 0), .int 0])), ((q10 0), .inl (cI, 800, .inl (fun _ => 0))), (o11, .inr (7, [.ref (q12 0), .int 0, .int 0, .int 0, .int 0])), ((q12 0), .inl (cI, 500, .inl (fun _ => 0))), (o13, .inr (9, [.ref (q14 0), .int 0])), ((q14 0), .inl (cW, 80, .inr (.inr (.inr (.inr (fun _ => none))))))]) (fun u : Nat → Nat => [(h, .inr (10, [.ref o1, .ref o3, .ref o5, .ref o7, .ref o9, .ref o11, .ref o13, .null, .null, .int 0])), (o1, .inr (1, [.ref (q2 0), .int 0])), ((q2 0), .inl (cI, 64, .inl (fun _ => 0))), (o3, .inr (1, [.ref (q4 0), .int 0])), ((q4 0), .inl (cI, 64, .inl (fun _ => 0))), (o5, .inr (0, [.ref (q6 0), .ref (q6 1), .ref (q6 2), .ref (q6 3), .int 0])), ((q6 0), .inl (cI, 40, .inl (fun _ => 0))), ((q6 1), .inl (cI, 40, .inl (fun _ => 0))), ((q6 2), .inl (cI, 40, .inl (fun _ => 0))), ((q6 3), .inl (cI, 40, .inl (fun _ => 0))), (o7, .inr (4, [.ref (q8 0), .ref (q8 1), .int 1])), ((q8 0), .inl (cI, 1000, .inl (upd (fun _ => 0) (0 : Int32).toNatClampNeg 10))), ((q8 1), .inl (cI, 600, .inl (fun _ => 0))), (o9, .inr (5, [.ref (q10 0), .int 0])), ((q10 0), .inl (cI, 800, .inl (fun _ => 0))), (o11, .inr (7, [.ref (q12 0), .int 0, .int 0, .int 0, .int 0])), ((q12 0), .inl (cI, 500, .inl (fun _ => 0))), (o13, .inr (9, [.ref (q14 0), .int 0])), ((q14 0), .inl (cW, 80, .inr (.inr (.inr (.inr (fun _ => none)))))), (o15, .inr (2, [.ref o11, .ref o13, .ref o7, .ref o9, .ref (u 0), .int 0, .int 0, .long 0, .ref (u 1), .ref (u 3)])), ((u 0), .inl (cT, 150, .inr (.inr (.inr (.inr (fun _ => none)))))), ((u 1), .inr (1, [.ref (u 2), .int 0])), ((u 2), .inl (cI, 1000, .inl (fun _ => 0))), ((u 3), .inr (1, [.ref (u 4), .int 0])), ((u 4), .inl (cI, 1000, .inl (fun _ => 0)))]) (zI (wc := [(o15, .inr (2, [.null, .null, .null, .null, .null, .int 0, .int 0, .long 0, .null, .null]))]) (As := [.ref o11, .ref o13, .ref o7, .ref o9]) (rest := [.ref o15, .ref h]) (st0 := [.ref o9, .ref o7, .ref o13, .ref o11, .ref o15, .ref o15, .ref h]) ⟨hx, hb, hml, hown, hT⟩ (c_Compiler_init l D cI cJ cZ cW cT H.size o15 o11 o13 o7 o9) (cwI 4 hT (tb_cons co_Compiler_init) rfl rfl rfl (hT _ in_Compiler) (hT _ ml_Mach_58) (hT _ im_Compiler_init) rfl vs_Compiler_init ⟨Nat.le_of_ble_eq_true rfl, Nat.le_of_ble_eq_true rfl⟩) hK hE hP hD hS hA [19] rfl rfl rfl hl.1 rfl (Nat.le_of_ble_eq_true rfl) d_Mach_init_106 ⟨(by first | exact Nat.le_refl _ | exact Nat.le_of_ble_eq_true rfl), (by first | exact Nat.le_refl _ | exact Nat.le_of_ble_eq_true rfl)⟩) hP hD hS hA [19] [0, 1, 2, 3, 4, 5, 6, 7, 8, 9, 10, 11, 12, 13, 14, 15, 16, 17, 18] rfl rfl rfl (by decide) [0, 1, 2, 3, 4, 5, 6, 7, 8, 9, 10, 11, 12, 13, 14, 15, 16, 17, 18, 19, 20, 21, 22, 23, 24] rfl (fun u => rfl) (fun q16 H locs _ hP hD hS => ?_)
  have hP : va_P D classes [(h, .inr (10, [.ref o1, .ref o3, .ref o5, .ref o7, .ref o9, .ref o11, .ref o13, .null, .null, .int 0])), (o1, .inr (1, [.ref (q2 0), .int 0])), ((q2 0), .inl (cI, 64, .inl (fun _ => 0))), (o3, .inr (1, [.ref (q4 0), .int 0])), ((q4 0), .inl (cI, 64, .inl (fun _ => 0))), (o5, .inr (0, [.ref (q6 0), .ref (q6 1), .ref (q6 2), .ref (q6 3), .int 0])), ((q6 0), .inl (cI, 40, .inl (fun _ => 0))), ((q6 1), .inl (cI, 40, .inl (fun _ => 0))), ((q6 2), .inl (cI, 40, .inl (fun _ => 0))), ((q6 3), .inl (cI, 40, .inl (fun _ => 0))), (o7, .inr (4, [.ref (q8 0), .ref (q8 1), .int 1])), ((q8 0), .inl (cI, 1000, .inl (upd (fun _ => 0) (0 : Int32).toNatClampNeg 10))), ((q8 1), .inl (cI, 600, .inl (fun _ => 0))), (o9, .inr (5, [.ref (q10 0), .int 0])), ((q10 0), .inl (cI, 800, .inl (fun _ => 0))), (o11, .inr (7, [.ref (q12 0), .int 0, .int 0, .int 0, .int 0])), ((q12 0), .inl (cI, 500, .inl (fun _ => 0))), (o13, .inr (9, [.ref (q14 0), .int 0])), ((q14 0), .inl (cW, 80, .inr (.inr (.inr (.inr (fun _ => none)))))), (o15, .inr (2, [.ref o11, .ref o13, .ref o7, .ref o9, .ref (q16 0), .int 0, .int 0, .long 0, .ref (q16 1), .ref (q16 3)])), ((q16 0), .inl (cT, 150, .inr (.inr (.inr (.inr (fun _ => none)))))), ((q16 1), .inr (1, [.ref (q16 2), .int 0])), ((q16 2), .inl (cI, 1000, .inl (fun _ => 0))), ((q16 3), .inr (1, [.ref (q16 4), .int 0])), ((q16 4), .inl (cI, 1000, .inl (fun _ => 0)))] H := hP
  have hD : va_D A [(h, .inr (10, [.ref o1, .ref o3, .ref o5, .ref o7, .ref o9, .ref o11, .ref o13, .null, .null, .int 0])), (o1, .inr (1, [.ref (q2 0), .int 0])), ((q2 0), .inl (cI, 64, .inl (fun _ => 0))), (o3, .inr (1, [.ref (q4 0), .int 0])), ((q4 0), .inl (cI, 64, .inl (fun _ => 0))), (o5, .inr (0, [.ref (q6 0), .ref (q6 1), .ref (q6 2), .ref (q6 3), .int 0])), ((q6 0), .inl (cI, 40, .inl (fun _ => 0))), ((q6 1), .inl (cI, 40, .inl (fun _ => 0))), ((q6 2), .inl (cI, 40, .inl (fun _ => 0))), ((q6 3), .inl (cI, 40, .inl (fun _ => 0))), (o7, .inr (4, [.ref (q8 0), .ref (q8 1), .int 1])), ((q8 0), .inl (cI, 1000, .inl (upd (fun _ => 0) (0 : Int32).toNatClampNeg 10))), ((q8 1), .inl (cI, 600, .inl (fun _ => 0))), (o9, .inr (5, [.ref (q10 0), .int 0])), ((q10 0), .inl (cI, 800, .inl (fun _ => 0))), (o11, .inr (7, [.ref (q12 0), .int 0, .int 0, .int 0, .int 0])), ((q12 0), .inl (cI, 500, .inl (fun _ => 0))), (o13, .inr (9, [.ref (q14 0), .int 0])), ((q14 0), .inl (cW, 80, .inr (.inr (.inr (.inr (fun _ => none)))))), (o15, .inr (2, [.ref o11, .ref o13, .ref o7, .ref o9, .ref (q16 0), .int 0, .int 0, .long 0, .ref (q16 1), .ref (q16 3)])), ((q16 0), .inl (cT, 150, .inr (.inr (.inr (.inr (fun _ => none)))))), ((q16 1), .inr (1, [.ref (q16 2), .int 0])), ((q16 2), .inl (cI, 1000, .inl (fun _ => 0))), ((q16 3), .inr (1, [.ref (q16 4), .int 0])), ((q16 4), .inl (cI, 1000, .inl (fun _ => 0)))] := hD
  refine va_putF (D := D) (v := .ref o15) (ty := (.object "ColonMachine$Compiler")) (C := "ColonMachine") (T := T_Mach) (N := 10) hx hb hT i_Mach t_Mach tk_Mach n_Mach hown hK hP hD hS 0 rfl rfl 7 (by decide) (hT _ fl_Mach_61) (fun _ h9 => h9) rfl hin rfl (by decide +kernel) rfl rfl (Nat.le_of_ble_eq_true rfl) d_Mach_init_109 (fun H locs hP hD hS => ?_)
  have hP : va_P D classes [(h, .inr (10, [.ref o1, .ref o3, .ref o5, .ref o7, .ref o9, .ref o11, .ref o13, .ref o15, .null, .int 0])), (o1, .inr (1, [.ref (q2 0), .int 0])), ((q2 0), .inl (cI, 64, .inl (fun _ => 0))), (o3, .inr (1, [.ref (q4 0), .int 0])), ((q4 0), .inl (cI, 64, .inl (fun _ => 0))), (o5, .inr (0, [.ref (q6 0), .ref (q6 1), .ref (q6 2), .ref (q6 3), .int 0])), ((q6 0), .inl (cI, 40, .inl (fun _ => 0))), ((q6 1), .inl (cI, 40, .inl (fun _ => 0))), ((q6 2), .inl (cI, 40, .inl (fun _ => 0))), ((q6 3), .inl (cI, 40, .inl (fun _ => 0))), (o7, .inr (4, [.ref (q8 0), .ref (q8 1), .int 1])), ((q8 0), .inl (cI, 1000, .inl (upd (fun _ => 0) (0 : Int32).toNatClampNeg 10))), ((q8 1), .inl (cI, 600, .inl (fun _ => 0))), (o9, .inr (5, [.ref (q10 0), .int 0])), ((q10 0), .inl (cI, 800, .inl (fun _ => 0))), (o11, .inr (7, [.ref (q12 0), .int 0, .int 0, .int 0, .int 0])), ((q12 0), .inl (cI, 500, .inl (fun _ => 0))), (o13, .inr (9, [.ref (q14 0), .int 0])), ((q14 0), .inl (cW, 80, .inr (.inr (.inr (.inr (fun _ => none)))))), (o15, .inr (2, [.ref o11, .ref o13, .ref o7, .ref o9, .ref (q16 0), .int 0, .int 0, .long 0, .ref (q16 1), .ref (q16 3)])), ((q16 0), .inl (cT, 150, .inr (.inr (.inr (.inr (fun _ => none)))))), ((q16 1), .inr (1, [.ref (q16 2), .int 0])), ((q16 2), .inl (cI, 1000, .inl (fun _ => 0))), ((q16 3), .inr (1, [.ref (q16 4), .int 0])), ((q16 4), .inl (cI, 1000, .inl (fun _ => 0)))] H := hP
  have hD : va_D A [(h, .inr (10, [.ref o1, .ref o3, .ref o5, .ref o7, .ref o9, .ref o11, .ref o13, .ref o15, .null, .int 0])), (o1, .inr (1, [.ref (q2 0), .int 0])), ((q2 0), .inl (cI, 64, .inl (fun _ => 0))), (o3, .inr (1, [.ref (q4 0), .int 0])), ((q4 0), .inl (cI, 64, .inl (fun _ => 0))), (o5, .inr (0, [.ref (q6 0), .ref (q6 1), .ref (q6 2), .ref (q6 3), .int 0])), ((q6 0), .inl (cI, 40, .inl (fun _ => 0))), ((q6 1), .inl (cI, 40, .inl (fun _ => 0))), ((q6 2), .inl (cI, 40, .inl (fun _ => 0))), ((q6 3), .inl (cI, 40, .inl (fun _ => 0))), (o7, .inr (4, [.ref (q8 0), .ref (q8 1), .int 1])), ((q8 0), .inl (cI, 1000, .inl (upd (fun _ => 0) (0 : Int32).toNatClampNeg 10))), ((q8 1), .inl (cI, 600, .inl (fun _ => 0))), (o9, .inr (5, [.ref (q10 0), .int 0])), ((q10 0), .inl (cI, 800, .inl (fun _ => 0))), (o11, .inr (7, [.ref (q12 0), .int 0, .int 0, .int 0, .int 0])), ((q12 0), .inl (cI, 500, .inl (fun _ => 0))), (o13, .inr (9, [.ref (q14 0), .int 0])), ((q14 0), .inl (cW, 80, .inr (.inr (.inr (.inr (fun _ => none)))))), (o15, .inr (2, [.ref o11, .ref o13, .ref o7, .ref o9, .ref (q16 0), .int 0, .int 0, .long 0, .ref (q16 1), .ref (q16 3)])), ((q16 0), .inl (cT, 150, .inr (.inr (.inr (.inr (fun _ => none)))))), ((q16 1), .inr (1, [.ref (q16 2), .int 0])), ((q16 2), .inl (cI, 1000, .inl (fun _ => 0))), ((q16 3), .inr (1, [.ref (q16 4), .int 0])), ((q16 4), .inl (cI, 1000, .inl (fun _ => 0)))] := hD
  refine lv_aload_n hx hb d_Mach_init_112 rfl (lv_at hl 0 rfl) ?_
  refine va_new (ci := 6) (fs := [.null, .null, .null, .null, .null, .null, .null]) (C := "ColonMachine$Primitives") (T := T_Primitives) (N := 7) hx hb hT i_Primitives t_Primitives tk_Primitives hown (hT _ kl_Mach_65) (hT _ ia_Primitives) (hT _ in_Primitives) hK hP hD hS hA rfl df_Primitives (by first | exact Nat.le_refl _ | exact Nat.le_of_ble_eq_true rfl) (by first | exact Nat.le_refl _ | exact Nat.le_of_ble_eq_true rfl) d_Mach_init_113 (fun o17 H hP hD hS => ?_)
  have hP : va_P D classes [(h, .inr (10, [.ref o1, .ref o3, .ref o5, .ref o7, .ref o9, .ref o11, .ref o13, .ref o15, .null, .int 0])), (o1, .inr (1, [.ref (q2 0), .int 0])), ((q2 0), .inl (cI, 64, .inl (fun _ => 0))), (o3, .inr (1, [.ref (q4 0), .int 0])), ((q4 0), .inl (cI, 64, .inl (fun _ => 0))), (o5, .inr (0, [.ref (q6 0), .ref (q6 1), .ref (q6 2), .ref (q6 3), .int 0])), ((q6 0), .inl (cI, 40, .inl (fun _ => 0))), ((q6 1), .inl (cI, 40, .inl (fun _ => 0))), ((q6 2), .inl (cI, 40, .inl (fun _ => 0))), ((q6 3), .inl (cI, 40, .inl (fun _ => 0))), (o7, .inr (4, [.ref (q8 0), .ref (q8 1), .int 1])), ((q8 0), .inl (cI, 1000, .inl (upd (fun _ => 0) (0 : Int32).toNatClampNeg 10))), ((q8 1), .inl (cI, 600, .inl (fun _ => 0))), (o9, .inr (5, [.ref (q10 0), .int 0])), ((q10 0), .inl (cI, 800, .inl (fun _ => 0))), (o11, .inr (7, [.ref (q12 0), .int 0, .int 0, .int 0, .int 0])), ((q12 0), .inl (cI, 500, .inl (fun _ => 0))), (o13, .inr (9, [.ref (q14 0), .int 0])), ((q14 0), .inl (cW, 80, .inr (.inr (.inr (.inr (fun _ => none)))))), (o15, .inr (2, [.ref o11, .ref o13, .ref o7, .ref o9, .ref (q16 0), .int 0, .int 0, .long 0, .ref (q16 1), .ref (q16 3)])), ((q16 0), .inl (cT, 150, .inr (.inr (.inr (.inr (fun _ => none)))))), ((q16 1), .inr (1, [.ref (q16 2), .int 0])), ((q16 2), .inl (cI, 1000, .inl (fun _ => 0))), ((q16 3), .inr (1, [.ref (q16 4), .int 0])), ((q16 4), .inl (cI, 1000, .inl (fun _ => 0))), (o17, .inr (6, [.null, .null, .null, .null, .null, .null, .null]))] H := hP
  have hD : va_D A [(h, .inr (10, [.ref o1, .ref o3, .ref o5, .ref o7, .ref o9, .ref o11, .ref o13, .ref o15, .null, .int 0])), (o1, .inr (1, [.ref (q2 0), .int 0])), ((q2 0), .inl (cI, 64, .inl (fun _ => 0))), (o3, .inr (1, [.ref (q4 0), .int 0])), ((q4 0), .inl (cI, 64, .inl (fun _ => 0))), (o5, .inr (0, [.ref (q6 0), .ref (q6 1), .ref (q6 2), .ref (q6 3), .int 0])), ((q6 0), .inl (cI, 40, .inl (fun _ => 0))), ((q6 1), .inl (cI, 40, .inl (fun _ => 0))), ((q6 2), .inl (cI, 40, .inl (fun _ => 0))), ((q6 3), .inl (cI, 40, .inl (fun _ => 0))), (o7, .inr (4, [.ref (q8 0), .ref (q8 1), .int 1])), ((q8 0), .inl (cI, 1000, .inl (upd (fun _ => 0) (0 : Int32).toNatClampNeg 10))), ((q8 1), .inl (cI, 600, .inl (fun _ => 0))), (o9, .inr (5, [.ref (q10 0), .int 0])), ((q10 0), .inl (cI, 800, .inl (fun _ => 0))), (o11, .inr (7, [.ref (q12 0), .int 0, .int 0, .int 0, .int 0])), ((q12 0), .inl (cI, 500, .inl (fun _ => 0))), (o13, .inr (9, [.ref (q14 0), .int 0])), ((q14 0), .inl (cW, 80, .inr (.inr (.inr (.inr (fun _ => none)))))), (o15, .inr (2, [.ref o11, .ref o13, .ref o7, .ref o9, .ref (q16 0), .int 0, .int 0, .long 0, .ref (q16 1), .ref (q16 3)])), ((q16 0), .inl (cT, 150, .inr (.inr (.inr (.inr (fun _ => none)))))), ((q16 1), .inr (1, [.ref (q16 2), .int 0])), ((q16 2), .inl (cI, 1000, .inl (fun _ => 0))), ((q16 3), .inr (1, [.ref (q16 4), .int 0])), ((q16 4), .inl (cI, 1000, .inl (fun _ => 0))), (o17, .inr (6, [.null, .null, .null, .null, .null, .null, .null]))] := hD
  refine lv_dup hx hb d_Mach_init_116 rfl ?_
  refine lv_aload_n hx hb d_Mach_init_117 rfl (lv_at hl 0 rfl) ?_
  refine va_get (D := D) (v := .ref o1) (C := "ColonMachine") (T := T_Mach) (N := 10) hx hb hT i_Mach hown hK hP 0 rfl rfl 0 (by decide) (hT _ fl_Mach_14) (fun _ h9 => h9) rfl d_Mach_init_118 ?_
  refine lv_aload_n hx hb d_Mach_init_121 rfl (lv_at hl 0 rfl) ?_
  refine va_get (D := D) (v := .ref o3) (C := "ColonMachine") (T := T_Mach) (N := 10) hx hb hT i_Mach hown hK hP 0 rfl rfl 1 (by decide) (hT _ fl_Mach_18) (fun _ h9 => h9) rfl d_Mach_init_122 ?_
  refine lv_aload_n hx hb d_Mach_init_125 rfl (lv_at hl 0 rfl) ?_
  refine va_get (D := D) (v := .ref o5) (C := "ColonMachine") (T := T_Mach) (N := 10) hx hb hT i_Mach hown hK hP 0 rfl rfl 2 (by decide) (hT _ fl_Mach_24) (fun _ h9 => h9) rfl d_Mach_init_126 ?_
  refine lv_aload_n hx hb d_Mach_init_129 rfl (lv_at hl 0 rfl) ?_
  refine va_get (D := D) (v := .ref o7) (C := "ColonMachine") (T := T_Mach) (N := 10) hx hb hT i_Mach hown hK hP 0 rfl rfl 3 (by decide) (hT _ fl_Mach_31) (fun _ h9 => h9) rfl d_Mach_init_130 ?_
  refine lv_aload_n hx hb d_Mach_init_133 rfl (lv_at hl 0 rfl) ?_
  refine va_get (D := D) (v := .ref o9) (C := "ColonMachine") (T := T_Mach) (N := 10) hx hb hT i_Mach hown hK hP 0 rfl rfl 4 (by decide) (hT _ fl_Mach_38) (fun _ h9 => h9) rfl d_Mach_init_134 ?_
  refine lv_aload_n hx hb d_Mach_init_137 rfl (lv_at hl 0 rfl) ?_
  refine va_get (D := D) (v := .ref o11) (C := "ColonMachine") (T := T_Mach) (N := 10) hx hb hT i_Mach hown hK hP 0 rfl rfl 5 (by decide) (hT _ fl_Mach_45) (fun _ h9 => h9) rfl d_Mach_init_138 ?_
  refine lv_aload_n hx hb d_Mach_init_141 rfl (lv_at hl 0 rfl) ?_
  refine va_get (D := D) (v := .ref o13) (C := "ColonMachine") (T := T_Mach) (N := 10) hx hb hT i_Mach hown hK hP 0 rfl rfl 6 (by decide) (hT _ fl_Mach_52) (fun _ h9 => h9) rfl d_Mach_init_142 ?_
  refine kN_cv (wr := [(h, .inr (10, [.ref o1, .ref o3, .ref o5, .ref o7, .ref o9, .ref o11, .ref o13, .ref o15, .null, .int 0])), (o1, .inr (1, [.ref (q2 0), .int 0])), ((q2 0), .inl (cI, 64, .inl (fun _ => 0))), (o3, .inr (1, [.ref (q4 0), .int 0])), ((q4 0), .inl (cI, 64, .inl (fun _ => 0))), (o5, .inr (0, [.ref (q6 0), .ref (q6 1), .ref (q6 2), .ref (q6 3), .int 0])), ((q6 0), .inl (cI, 40, .inl (fun _ => 0))), ((q6 1), .inl (cI, 40, .inl (fun _ => 0))), ((q6 2), .inl (cI, 40, .inl (fun _ => 0))), ((q6 3), .inl (cI, 40, .inl (fun _ => 0))), (o7, .inr (4, [.ref (q8 0), .ref (q8 1), .int 1])), ((q8 0), .inl (cI, 1000, .inl (upd (fun _ => 0) (0 : Int32).toNatClampNeg 10))), ((q8 1), .inl (cI, 600, .inl (fun _ => 0))), (o9, .inr (5, [.ref (q10 0), .int 0])), ((q10 0), .inl (cI, 800, .inl (fun _ => 0))), (o11, .inr (7, [.ref (q12 0), .int 0, .int 0, .int 0, .int 0])), ((q12 0), .inl (cI, 500, .inl (fun _ => 0))), (o13, .inr (9, [.ref (q14 0), .int 0])), ((q14 0), .inl (cW, 80, .inr (.inr (.inr (.inr (fun _ => none)))))), (o15, .inr (2, [.ref o11, .ref o13, .ref o7, .ref o9, .ref (q16 0), .int 0, .int 0, .long 0, .ref (q16 1), .ref (q16 3)])), ((q16 0), .inl (cT, 150, .inr (.inr (.inr (.inr (fun _ => none)))))), ((q16 1), .inr (1, [.ref (q16 2), .int 0])), ((q16 2), .inl (cI, 1000, .inl (fun _ => 0))), ((q16 3), .inr (1, [.ref (q16 4), .int 0])), ((q16 4), .inl (cI, 1000, .inl (fun _ => 0)))]) (fun u : Nat → Nat => [(h, .inr (10, [.ref o1, .ref o3, .ref o5, .ref o7, .ref o9, .ref o11, .ref o13, .ref o15, .null, .int 0])), (o1, .inr (1, [.ref (q2 0), .int 0])), ((q2 0), .inl (cI, 64, .inl (fun _ => 0))), (o3, .inr (1, [.ref (q4 0), .int 0])), ((q4 0), .inl (cI, 64, .inl (fun _ => 0))), (o5, .inr (0, [.ref (q6 0), .ref (q6 1), .ref (q6 2), .ref (q6 3), .int 0])), ((q6 0), .inl (cI, 40, .inl (fun _ => 0))), ((q6 1), .inl (cI, 40, .inl (fun _ => 0))), ((q6 2), .inl (cI, 40, .inl (fun _ => 0))), ((q6 3), .inl (cI, 40, .inl (fun _ => 0))), (o7, .inr (4, [.ref (q8 0), .ref (q8 1), .int 1])), ((q8 0), .inl (cI, 1000, .inl (upd (fun _ => 0) (0 : Int32).toNatClampNeg 10))), ((q8 1), .inl (cI, 600, .inl (fun _ => 0))), (o9, .inr (5, [.ref (q10 0), .int 0])), ((q10 0), .inl (cI, 800, .inl (fun _ => 0))), (o11, .inr (7, [.ref (q12 0), .int 0, .int 0, .int 0, .int 0])), ((q12 0), .inl (cI, 500, .inl (fun _ => 0))), (o13, .inr (9, [.ref (q14 0), .int 0])), ((q14 0), .inl (cW, 80, .inr (.inr (.inr (.inr (fun _ => none)))))), (o15, .inr (2, [.ref o11, .ref o13, .ref o7, .ref o9, .ref (q16 0), .int 0, .int 0, .long 0, .ref (q16 1), .ref (q16 3)])), ((q16 0), .inl (cT, 150, .inr (.inr (.inr (.inr (fun _ => none)))))), ((q16 1), .inr (1, [.ref (q16 2), .int 0])), ((q16 2), .inl (cI, 1000, .inl (fun _ => 0))), ((q16 3), .inr (1, [.ref (q16 4), .int 0])), ((q16 4), .inl (cI, 1000, .inl (fun _ => 0))), (o17, .inr (6, [.ref o1, .ref o3, .ref o5, .ref o7, .ref o9, .ref o11, .ref o13]))]) (zI (wc := [(o17, .inr (6, [.null, .null, .null, .null, .null, .null, .null]))]) (As := [.ref o1, .ref o3, .ref o5, .ref o7, .ref o9, .ref o11, .ref o13]) (rest := [.ref o17, .ref h]) (st0 := [.ref o13, .ref o11, .ref o9, .ref o7, .ref o5, .ref o3, .ref o1, .ref o17, .ref o17, .ref h]) ⟨hx, hb, hml, hown, hT⟩ (c_Primitives_init l D cI cJ cZ cW cT H.size o17 o1 o3 o5 o7 o9 o11 o13) (cwI 7 hT (tb_cons co_Primitives_init) rfl rfl rfl (hT _ in_Primitives) (hT _ ml_Mach_67) (hT _ im_Primitives_init) rfl vs_Primitives_init ⟨Nat.le_of_ble_eq_true rfl, Nat.le_of_ble_eq_true rfl⟩) hK hE hP hD hS hA [25] rfl rfl rfl hl.1 rfl (Nat.le_of_ble_eq_true rfl) d_Mach_init_145 ⟨(by first | exact Nat.le_refl _ | exact Nat.le_of_ble_eq_true rfl), (by first | exact Nat.le_refl _ | exact Nat.le_of_ble_eq_true rfl)⟩) hP hD hS hA [25] [0, 1, 2, 3, 4, 5, 6, 7, 8, 9, 10, 11, 12, 13, 14, 15, 16, 17, 18, 19, 20, 21, 22, 23, 24] rfl rfl rfl (by decide) [0, 1, 2, 3, 4, 5, 6, 7, 8, 9, 10, 11, 12, 13, 14, 15, 16, 17, 18, 19, 20, 21, 22, 23, 24, 25] rfl (fun u => rfl) (fun q18 H locs _ hP hD hS => ?_)
  have hP : va_P D classes [(h, .inr (10, [.ref o1, .ref o3, .ref o5, .ref o7, .ref o9, .ref o11, .ref o13, .ref o15, .null, .int 0])), (o1, .inr (1, [.ref (q2 0), .int 0])), ((q2 0), .inl (cI, 64, .inl (fun _ => 0))), (o3, .inr (1, [.ref (q4 0), .int 0])), ((q4 0), .inl (cI, 64, .inl (fun _ => 0))), (o5, .inr (0, [.ref (q6 0), .ref (q6 1), .ref (q6 2), .ref (q6 3), .int 0])), ((q6 0), .inl (cI, 40, .inl (fun _ => 0))), ((q6 1), .inl (cI, 40, .inl (fun _ => 0))), ((q6 2), .inl (cI, 40, .inl (fun _ => 0))), ((q6 3), .inl (cI, 40, .inl (fun _ => 0))), (o7, .inr (4, [.ref (q8 0), .ref (q8 1), .int 1])), ((q8 0), .inl (cI, 1000, .inl (upd (fun _ => 0) (0 : Int32).toNatClampNeg 10))), ((q8 1), .inl (cI, 600, .inl (fun _ => 0))), (o9, .inr (5, [.ref (q10 0), .int 0])), ((q10 0), .inl (cI, 800, .inl (fun _ => 0))), (o11, .inr (7, [.ref (q12 0), .int 0, .int 0, .int 0, .int 0])), ((q12 0), .inl (cI, 500, .inl (fun _ => 0))), (o13, .inr (9, [.ref (q14 0), .int 0])), ((q14 0), .inl (cW, 80, .inr (.inr (.inr (.inr (fun _ => none)))))), (o15, .inr (2, [.ref o11, .ref o13, .ref o7, .ref o9, .ref (q16 0), .int 0, .int 0, .long 0, .ref (q16 1), .ref (q16 3)])), ((q16 0), .inl (cT, 150, .inr (.inr (.inr (.inr (fun _ => none)))))), ((q16 1), .inr (1, [.ref (q16 2), .int 0])), ((q16 2), .inl (cI, 1000, .inl (fun _ => 0))), ((q16 3), .inr (1, [.ref (q16 4), .int 0])), ((q16 4), .inl (cI, 1000, .inl (fun _ => 0))), (o17, .inr (6, [.ref o1, .ref o3, .ref o5, .ref o7, .ref o9, .ref o11, .ref o13]))] H := hP
  have hD : va_D A [(h, .inr (10, [.ref o1, .ref o3, .ref o5, .ref o7, .ref o9, .ref o11, .ref o13, .ref o15, .null, .int 0])), (o1, .inr (1, [.ref (q2 0), .int 0])), ((q2 0), .inl (cI, 64, .inl (fun _ => 0))), (o3, .inr (1, [.ref (q4 0), .int 0])), ((q4 0), .inl (cI, 64, .inl (fun _ => 0))), (o5, .inr (0, [.ref (q6 0), .ref (q6 1), .ref (q6 2), .ref (q6 3), .int 0])), ((q6 0), .inl (cI, 40, .inl (fun _ => 0))), ((q6 1), .inl (cI, 40, .inl (fun _ => 0))), ((q6 2), .inl (cI, 40, .inl (fun _ => 0))), ((q6 3), .inl (cI, 40, .inl (fun _ => 0))), (o7, .inr (4, [.ref (q8 0), .ref (q8 1), .int 1])), ((q8 0), .inl (cI, 1000, .inl (upd (fun _ => 0) (0 : Int32).toNatClampNeg 10))), ((q8 1), .inl (cI, 600, .inl (fun _ => 0))), (o9, .inr (5, [.ref (q10 0), .int 0])), ((q10 0), .inl (cI, 800, .inl (fun _ => 0))), (o11, .inr (7, [.ref (q12 0), .int 0, .int 0, .int 0, .int 0])), ((q12 0), .inl (cI, 500, .inl (fun _ => 0))), (o13, .inr (9, [.ref (q14 0), .int 0])), ((q14 0), .inl (cW, 80, .inr (.inr (.inr (.inr (fun _ => none)))))), (o15, .inr (2, [.ref o11, .ref o13, .ref o7, .ref o9, .ref (q16 0), .int 0, .int 0, .long 0, .ref (q16 1), .ref (q16 3)])), ((q16 0), .inl (cT, 150, .inr (.inr (.inr (.inr (fun _ => none)))))), ((q16 1), .inr (1, [.ref (q16 2), .int 0])), ((q16 2), .inl (cI, 1000, .inl (fun _ => 0))), ((q16 3), .inr (1, [.ref (q16 4), .int 0])), ((q16 4), .inl (cI, 1000, .inl (fun _ => 0))), (o17, .inr (6, [.ref o1, .ref o3, .ref o5, .ref o7, .ref o9, .ref o11, .ref o13]))] := hD
  refine va_putF (D := D) (v := .ref o17) (ty := (.object "ColonMachine$Primitives")) (C := "ColonMachine") (T := T_Mach) (N := 10) hx hb hT i_Mach t_Mach tk_Mach n_Mach hown hK hP hD hS 0 rfl rfl 8 (by decide) (hT _ fl_Mach_70) (fun _ h9 => h9) rfl hin rfl (by decide +kernel) rfl rfl (Nat.le_of_ble_eq_true rfl) d_Mach_init_148 (fun H locs hP hD hS => ?_)
  have hP : va_P D classes [(h, .inr (10, [.ref o1, .ref o3, .ref o5, .ref o7, .ref o9, .ref o11, .ref o13, .ref o15, .ref o17, .int 0])), (o1, .inr (1, [.ref (q2 0), .int 0])), ((q2 0), .inl (cI, 64, .inl (fun _ => 0))), (o3, .inr (1, [.ref (q4 0), .int 0])), ((q4 0), .inl (cI, 64, .inl (fun _ => 0))), (o5, .inr (0, [.ref (q6 0), .ref (q6 1), .ref (q6 2), .ref (q6 3), .int 0])), ((q6 0), .inl (cI, 40, .inl (fun _ => 0))), ((q6 1), .inl (cI, 40, .inl (fun _ => 0))), ((q6 2), .inl (cI, 40, .inl (fun _ => 0))), ((q6 3), .inl (cI, 40, .inl (fun _ => 0))), (o7, .inr (4, [.ref (q8 0), .ref (q8 1), .int 1])), ((q8 0), .inl (cI, 1000, .inl (upd (fun _ => 0) (0 : Int32).toNatClampNeg 10))), ((q8 1), .inl (cI, 600, .inl (fun _ => 0))), (o9, .inr (5, [.ref (q10 0), .int 0])), ((q10 0), .inl (cI, 800, .inl (fun _ => 0))), (o11, .inr (7, [.ref (q12 0), .int 0, .int 0, .int 0, .int 0])), ((q12 0), .inl (cI, 500, .inl (fun _ => 0))), (o13, .inr (9, [.ref (q14 0), .int 0])), ((q14 0), .inl (cW, 80, .inr (.inr (.inr (.inr (fun _ => none)))))), (o15, .inr (2, [.ref o11, .ref o13, .ref o7, .ref o9, .ref (q16 0), .int 0, .int 0, .long 0, .ref (q16 1), .ref (q16 3)])), ((q16 0), .inl (cT, 150, .inr (.inr (.inr (.inr (fun _ => none)))))), ((q16 1), .inr (1, [.ref (q16 2), .int 0])), ((q16 2), .inl (cI, 1000, .inl (fun _ => 0))), ((q16 3), .inr (1, [.ref (q16 4), .int 0])), ((q16 4), .inl (cI, 1000, .inl (fun _ => 0))), (o17, .inr (6, [.ref o1, .ref o3, .ref o5, .ref o7, .ref o9, .ref o11, .ref o13]))] H := hP
  have hD : va_D A [(h, .inr (10, [.ref o1, .ref o3, .ref o5, .ref o7, .ref o9, .ref o11, .ref o13, .ref o15, .ref o17, .int 0])), (o1, .inr (1, [.ref (q2 0), .int 0])), ((q2 0), .inl (cI, 64, .inl (fun _ => 0))), (o3, .inr (1, [.ref (q4 0), .int 0])), ((q4 0), .inl (cI, 64, .inl (fun _ => 0))), (o5, .inr (0, [.ref (q6 0), .ref (q6 1), .ref (q6 2), .ref (q6 3), .int 0])), ((q6 0), .inl (cI, 40, .inl (fun _ => 0))), ((q6 1), .inl (cI, 40, .inl (fun _ => 0))), ((q6 2), .inl (cI, 40, .inl (fun _ => 0))), ((q6 3), .inl (cI, 40, .inl (fun _ => 0))), (o7, .inr (4, [.ref (q8 0), .ref (q8 1), .int 1])), ((q8 0), .inl (cI, 1000, .inl (upd (fun _ => 0) (0 : Int32).toNatClampNeg 10))), ((q8 1), .inl (cI, 600, .inl (fun _ => 0))), (o9, .inr (5, [.ref (q10 0), .int 0])), ((q10 0), .inl (cI, 800, .inl (fun _ => 0))), (o11, .inr (7, [.ref (q12 0), .int 0, .int 0, .int 0, .int 0])), ((q12 0), .inl (cI, 500, .inl (fun _ => 0))), (o13, .inr (9, [.ref (q14 0), .int 0])), ((q14 0), .inl (cW, 80, .inr (.inr (.inr (.inr (fun _ => none)))))), (o15, .inr (2, [.ref o11, .ref o13, .ref o7, .ref o9, .ref (q16 0), .int 0, .int 0, .long 0, .ref (q16 1), .ref (q16 3)])), ((q16 0), .inl (cT, 150, .inr (.inr (.inr (.inr (fun _ => none)))))), ((q16 1), .inr (1, [.ref (q16 2), .int 0])), ((q16 2), .inl (cI, 1000, .inl (fun _ => 0))), ((q16 3), .inr (1, [.ref (q16 4), .int 0])), ((q16 4), .inl (cI, 1000, .inl (fun _ => 0))), (o17, .inr (6, [.ref o1, .ref o3, .ref o5, .ref o7, .ref o9, .ref o11, .ref o13]))] := hD
  refine lv_aload_n hx hb d_Mach_init_151 rfl (lv_at hl 0 rfl) ?_
  refine lv_iconst (v := 0) hx hb d_Mach_init_152 (by decide) ?_
  refine va_put (D := D) (v := .int 0) (ty := .int) (C := "ColonMachine") (T := T_Mach) (N := 10) hx hb hT i_Mach t_Mach tk_Mach n_Mach hown hK hP hD hS 0 rfl rfl 9 (by decide) (hT _ fl_Mach_74) (fun _ h9 => h9) rfl (by decide +kernel) rfl rfl (Nat.le_of_ble_eq_true rfl) d_Mach_init_153 (fun H locs hP hD hS => ?_)
  have hP : va_P D classes [(h, .inr (10, [.ref o1, .ref o3, .ref o5, .ref o7, .ref o9, .ref o11, .ref o13, .ref o15, .ref o17, .int 0])), (o1, .inr (1, [.ref (q2 0), .int 0])), ((q2 0), .inl (cI, 64, .inl (fun _ => 0))), (o3, .inr (1, [.ref (q4 0), .int 0])), ((q4 0), .inl (cI, 64, .inl (fun _ => 0))), (o5, .inr (0, [.ref (q6 0), .ref (q6 1), .ref (q6 2), .ref (q6 3), .int 0])), ((q6 0), .inl (cI, 40, .inl (fun _ => 0))), ((q6 1), .inl (cI, 40, .inl (fun _ => 0))), ((q6 2), .inl (cI, 40, .inl (fun _ => 0))), ((q6 3), .inl (cI, 40, .inl (fun _ => 0))), (o7, .inr (4, [.ref (q8 0), .ref (q8 1), .int 1])), ((q8 0), .inl (cI, 1000, .inl (upd (fun _ => 0) (0 : Int32).toNatClampNeg 10))), ((q8 1), .inl (cI, 600, .inl (fun _ => 0))), (o9, .inr (5, [.ref (q10 0), .int 0])), ((q10 0), .inl (cI, 800, .inl (fun _ => 0))), (o11, .inr (7, [.ref (q12 0), .int 0, .int 0, .int 0, .int 0])), ((q12 0), .inl (cI, 500, .inl (fun _ => 0))), (o13, .inr (9, [.ref (q14 0), .int 0])), ((q14 0), .inl (cW, 80, .inr (.inr (.inr (.inr (fun _ => none)))))), (o15, .inr (2, [.ref o11, .ref o13, .ref o7, .ref o9, .ref (q16 0), .int 0, .int 0, .long 0, .ref (q16 1), .ref (q16 3)])), ((q16 0), .inl (cT, 150, .inr (.inr (.inr (.inr (fun _ => none)))))), ((q16 1), .inr (1, [.ref (q16 2), .int 0])), ((q16 2), .inl (cI, 1000, .inl (fun _ => 0))), ((q16 3), .inr (1, [.ref (q16 4), .int 0])), ((q16 4), .inl (cI, 1000, .inl (fun _ => 0))), (o17, .inr (6, [.ref o1, .ref o3, .ref o5, .ref o7, .ref o9, .ref o11, .ref o13]))] H := hP
  have hD : va_D A [(h, .inr (10, [.ref o1, .ref o3, .ref o5, .ref o7, .ref o9, .ref o11, .ref o13, .ref o15, .ref o17, .int 0])), (o1, .inr (1, [.ref (q2 0), .int 0])), ((q2 0), .inl (cI, 64, .inl (fun _ => 0))), (o3, .inr (1, [.ref (q4 0), .int 0])), ((q4 0), .inl (cI, 64, .inl (fun _ => 0))), (o5, .inr (0, [.ref (q6 0), .ref (q6 1), .ref (q6 2), .ref (q6 3), .int 0])), ((q6 0), .inl (cI, 40, .inl (fun _ => 0))), ((q6 1), .inl (cI, 40, .inl (fun _ => 0))), ((q6 2), .inl (cI, 40, .inl (fun _ => 0))), ((q6 3), .inl (cI, 40, .inl (fun _ => 0))), (o7, .inr (4, [.ref (q8 0), .ref (q8 1), .int 1])), ((q8 0), .inl (cI, 1000, .inl (upd (fun _ => 0) (0 : Int32).toNatClampNeg 10))), ((q8 1), .inl (cI, 600, .inl (fun _ => 0))), (o9, .inr (5, [.ref (q10 0), .int 0])), ((q10 0), .inl (cI, 800, .inl (fun _ => 0))), (o11, .inr (7, [.ref (q12 0), .int 0, .int 0, .int 0, .int 0])), ((q12 0), .inl (cI, 500, .inl (fun _ => 0))), (o13, .inr (9, [.ref (q14 0), .int 0])), ((q14 0), .inl (cW, 80, .inr (.inr (.inr (.inr (fun _ => none)))))), (o15, .inr (2, [.ref o11, .ref o13, .ref o7, .ref o9, .ref (q16 0), .int 0, .int 0, .long 0, .ref (q16 1), .ref (q16 3)])), ((q16 0), .inl (cT, 150, .inr (.inr (.inr (.inr (fun _ => none)))))), ((q16 1), .inr (1, [.ref (q16 2), .int 0])), ((q16 2), .inl (cI, 1000, .inl (fun _ => 0))), ((q16 3), .inr (1, [.ref (q16 4), .int 0])), ((q16 4), .inl (cI, 1000, .inl (fun _ => 0))), (o17, .inr (6, [.ref o1, .ref o3, .ref o5, .ref o7, .ref o9, .ref o11, .ref o13]))] := hD
  exact W.vret hx hb hr (fun t ht hW => ⟨⟨(fun k : Nat => match k with | 0 => o1 | 1 => (q2 0) | 2 => o3 | 3 => (q4 0) | 4 => o5 | 5 => (q6 0) | 6 => (q6 1) | 7 => (q6 2) | 8 => (q6 3) | 9 => o7 | 10 => (q8 0) | 11 => (q8 1) | 12 => o9 | 13 => (q10 0) | 14 => o11 | 15 => (q12 0) | 16 => o13 | 17 => (q14 0) | 18 => o15 | 19 => (q16 0) | 20 => (q16 1) | 21 => (q16 2) | 22 => (q16 3) | 23 => (q16 4) | 24 => o17 | _ => 0), rfl, trivial, ⟨by rw [ht]; exact hP, va_K.moved hW.alike hK, hD⟩⟩, hS.F ht⟩) hS.2.2 d_Mach_init_156
